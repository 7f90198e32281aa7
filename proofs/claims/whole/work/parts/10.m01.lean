def f_X3_stateOf (x1 : Int32) (x2 : Int32) (x3 : Int32) : M Int32 :=
  bnd (f_X7_rightHalves x1 0 x3 x2) (fun v1 => rt ((8 * x3) + v1))
set_option maxRecDepth 10000 in
set_option maxHeartbeats 4000000 in
theorem t_X3_stateOf_0 {X : Cx} (hX : Good X RX3 cX3_stateOf ((some .int))) (hS : Sta X 1 29 4) (x1 : Int32) (x2 : Int32) (x3 : Int32) : Tr X eI 0 0 0 [(0, .ref (cxAd X 53)), (1, .int x1), (2, .int x2), (3, .int x3)] [] (f_X3_stateOf x1 x2 x3) := by
  unfold f_X3_stateOf
  refine tr_bipush 8 hX dX3_stateOf_0 (by decide) ?_
  refine tr_iload_n 3 hX dX3_stateOf_2 rfl rfl ?_
  refine tr_imul hX dX3_stateOf_3 ?_
  refine tr_aload_n 0 hX dX3_stateOf_4 rfl rfl ?_
  refine tr_getF hX dX3_stateOf_5 sh_53 (by decide) rfl inlX3 (by decide) rfl (hS.g (Nat.le_of_ble_eq_true rfl)) cr_53_0 k_4_23 mq_53 ?_
  refine tr_iload_n 1 hX dX3_stateOf_8 rfl rfl ?_
  refine tr_iconst 0 hX dX3_stateOf_9 (by decide) ?_
  refine tr_iload_n 3 hX dX3_stateOf_10 rfl rfl ?_
  refine tr_iload_n 2 hX dX3_stateOf_11 rfl rfl ?_
  refine tr_callV0I (st := [.int (8 * x3)]) 4 hX hS dX3_stateOf_12 (ok_X7_rightHalves x1 0 x3 x2) sh_73 (by decide) rfl (Nat.le_of_ble_eq_true rfl) k_22_7 k_22_8 k_22_9 k_4_22 k_22_10 hy_X7_rightHalves rfl rfl (Nat.le_of_ble_eq_true rfl) rfl (fun v1 => ?_)
  refine tr_iadd hX dX3_stateOf_15 ?_
  exact tr_iret0 hX hS dX3_stateOf_16
theorem ok_X3_stateOf {l : Launch} {E : Ev} (x1 : Int32) (x2 : Int32) (x3 : Int32)  : Ok l E Gall yX3_stateOf cX3_stateOf 4 ((some .int)) (rmz 1 29) eI [.ref (E.2.1 53), .int x1, .int x2, .int x3] (f_X3_stateOf x1 x2 x3) := by
  refine ok_of0 (by decide) (Nat.le_of_ble_eq_true rfl) (fun X hX hV hS => ?_)
  subst hV
  exact t_X3_stateOf_0 hX hS x1 x2 x3
def f_X7_unlikeTies_111 (s20 : Int32 → Int32 → M Int32) (x1 : Int32) (x5 : Int32) (p0 : Int32) (p1 : Int32) : M Int32 :=
  nm ((p1 + p0)) (fun v1 => s20 v1 (x5 + 1))
set_option maxRecDepth 10000 in
set_option maxHeartbeats 4000000 in
theorem t_X7_unlikeTies_111 {X : Cx} (hX : Good X RX7 cX7_unlikeTies ((some .int))) (hS : Sta X 1 23 7) (s20 : Int32 → Int32 → M Int32) (x1 : Int32) (x5 : Int32) (p0 : Int32) (p1 : Int32) (hs20 : ∀ x4 : Int32, ∀ x5 : Int32, Tr X eI 0 0 20 [(0, .ref (cxAd X 73)), (1, .int x1), (4, .int x4), (5, .int x5)] [] (s20 x4 x5)) : Tr X eI 0 0 111 [(0, .ref (cxAd X 73)), (1, .int x1), (5, .int x5)] [.int p0, .int p1] (f_X7_unlikeTies_111 s20 x1 x5 p0 p1) := by
  unfold f_X7_unlikeTies_111
  refine tr_iadd hX dX7_unlikeTies_111 ?_
  refine tr_nm (fun v1 ev1 => ?_)
  refine tr_istore hX dX7_unlikeTies_112 (hS.n (by decide)) rfl ?_
  refine tr_iinc (x5 + 1) 3 hX dX7_unlikeTies_114 rfl (congrArg (fun z => x5 + z) (by decide)) (hS.n (by decide)) rfl ?_
  refine tr_goto 20 hX dX7_unlikeTies_117 (by decide) ?_
  exact tr_sub [2, 3, 1, 0] rfl (hs20 v1 (x5 + 1))
def f_X7_unlikeTies_20 (x1 : Int32) (s20 : Int32 → Int32 → M Int32) (x4 : Int32) (x5 : Int32) : M Int32 :=
  aI 74 8 x1 (fun v1 => if v1 ≤ x5 then (rt x4) else (rT 73 0 (fun t3 => gd (inb x1 8) (aI (75 + 1 + x1.toNatClampNeg) 16 x5 (fun v5 => aI 148 3 v5 (fun v7 => gd (inb x1 8) (aI (84 + 1 + x1.toNatClampNeg) 16 x5 (fun v10 => aI 148 3 v10 (fun v12 => gd (inb x1 8) (aI (93 + 1 + x1.toNatClampNeg) 16 x5 (fun v15 => aI 148 3 v15 (fun v17 => bnd (f_X6_token t3 v7 v12 v17) (fun v19 => gd (inb x1 8) (aI (102 + 1 + x1.toNatClampNeg) 16 x5 (fun v21 => if v19 = v21 then (f_X7_unlikeTies_111 s20 x1 x5 0 x4) else (gd (inb x1 8) (aI (111 + 1 + x1.toNatClampNeg) 16 x5 (fun v24 => f_X7_unlikeTies_111 s20 x1 x5 v24 x4))))))))))))))))))
set_option maxRecDepth 10000 in
set_option maxHeartbeats 4000000 in
theorem t_X7_unlikeTies_20 {X : Cx} (hX : Good X RX7 cX7_unlikeTies ((some .int))) (hS : Sta X 1 23 7) (x1 : Int32) : ∀ s20 : Int32 → Int32 → M Int32, (∀ x4 : Int32, ∀ x5 : Int32, Tr X eI 0 0 20 [(0, .ref (cxAd X 73)), (1, .int x1), (4, .int x4), (5, .int x5)] [] (s20 x4 x5)) → ∀ x4 : Int32, ∀ x5 : Int32, Tr X eI 0 0 20 [(0, .ref (cxAd X 73)), (1, .int x1), (4, .int x4), (5, .int x5)] [] (f_X7_unlikeTies_20 x1 s20 x4 x5) := by
  intro s20 hs20 x4 x5
  unfold f_X7_unlikeTies_20
  refine tr_iload 3 hX dX7_unlikeTies_20 rfl ?_
  refine tr_aload_n 0 hX dX7_unlikeTies_22 rfl rfl ?_
  refine tr_getF hX dX7_unlikeTies_23 sh_73 (by decide) rfl inlX7 (by decide) rfl (hS.g (Nat.le_of_ble_eq_true rfl)) cr_73_1 k_5_4 mq_73 ?_
  refine tr_iload_n 1 hX dX7_unlikeTies_26 rfl rfl ?_
  refine tr_iald hX dX7_unlikeTies_27 sh_74 (hS.e (Nat.le_of_ble_eq_true rfl)) (fun hb2 v1 => ?_)
  refine tr_ic_ge 120 hX dX7_unlikeTies_28 (by decide) (fun c27 => ?_) (fun c27 => ?_)
  · refine tr_iload 2 hX dX7_unlikeTies_120 rfl ?_
    exact tr_iret0 hX hS dX7_unlikeTies_122
  · refine tr_aload_n 0 hX dX7_unlikeTies_31 rfl rfl ?_
    refine tr_getT hX dX7_unlikeTies_32 sh_73 (by decide) rfl inlX7 (by decide) rfl (hS.e (Nat.le_of_ble_eq_true rfl)) k_5_16 (fun t3 ht3 => ?_)
    refine tr_aload_n 0 hX dX7_unlikeTies_35 rfl rfl ?_
    refine tr_getF hX dX7_unlikeTies_36 sh_73 (by decide) rfl inlX7 (by decide) rfl (hS.g (Nat.le_of_ble_eq_true rfl)) cr_73_11 k_5_15 mq_73 ?_
    refine tr_aload_n 0 hX dX7_unlikeTies_39 rfl rfl ?_
    refine tr_getF hX dX7_unlikeTies_40 sh_73 (by decide) rfl inlX7 (by decide) rfl (hS.g (Nat.le_of_ble_eq_true rfl)) cr_73_2 k_5_6 mq_73 ?_
    refine tr_iload_n 1 hX dX7_unlikeTies_43 rfl rfl ?_
    refine tr_aald hX dX7_unlikeTies_44 sh_75 (hS.e (Nat.le_of_ble_eq_true rfl)) (fun hb4 => ?_)
    refine tr_iload 3 hX dX7_unlikeTies_45 rfl ?_
    refine tr_iald hX dX7_unlikeTies_47 (row_75 hb4).1 (hS.e (row_75 hb4).2) (fun hb6 v5 => ?_)
    refine tr_iald hX dX7_unlikeTies_48 sh_148 (hS.e (Nat.le_of_ble_eq_true rfl)) (fun hb8 v7 => ?_)
    refine tr_aload_n 0 hX dX7_unlikeTies_49 rfl rfl ?_
    refine tr_getF hX dX7_unlikeTies_50 sh_73 (by decide) rfl inlX7 (by decide) rfl (hS.g (Nat.le_of_ble_eq_true rfl)) cr_73_11 k_5_15 mq_73 ?_
    refine tr_aload_n 0 hX dX7_unlikeTies_53 rfl rfl ?_
    refine tr_getF hX dX7_unlikeTies_54 sh_73 (by decide) rfl inlX7 (by decide) rfl (hS.g (Nat.le_of_ble_eq_true rfl)) cr_73_3 k_5_7 mq_73 ?_
    refine tr_iload_n 1 hX dX7_unlikeTies_57 rfl rfl ?_
    refine tr_aald hX dX7_unlikeTies_58 sh_84 (hS.e (Nat.le_of_ble_eq_true rfl)) (fun hb9 => ?_)
    refine tr_iload 3 hX dX7_unlikeTies_59 rfl ?_
    refine tr_iald hX dX7_unlikeTies_61 (row_84 hb9).1 (hS.e (row_84 hb9).2) (fun hb11 v10 => ?_)
    refine tr_iald hX dX7_unlikeTies_62 sh_148 (hS.e (Nat.le_of_ble_eq_true rfl)) (fun hb13 v12 => ?_)
    refine tr_aload_n 0 hX dX7_unlikeTies_63 rfl rfl ?_
    refine tr_getF hX dX7_unlikeTies_64 sh_73 (by decide) rfl inlX7 (by decide) rfl (hS.g (Nat.le_of_ble_eq_true rfl)) cr_73_11 k_5_15 mq_73 ?_
    refine tr_aload_n 0 hX dX7_unlikeTies_67 rfl rfl ?_
    refine tr_getF hX dX7_unlikeTies_68 sh_73 (by decide) rfl inlX7 (by decide) rfl (hS.g (Nat.le_of_ble_eq_true rfl)) cr_73_4 k_5_8 mq_73 ?_
    refine tr_iload_n 1 hX dX7_unlikeTies_71 rfl rfl ?_
    refine tr_aald hX dX7_unlikeTies_72 sh_93 (hS.e (Nat.le_of_ble_eq_true rfl)) (fun hb14 => ?_)
    refine tr_iload 3 hX dX7_unlikeTies_73 rfl ?_
    refine tr_iald hX dX7_unlikeTies_75 (row_93 hb14).1 (hS.e (row_93 hb14).2) (fun hb16 v15 => ?_)
    refine tr_iald hX dX7_unlikeTies_76 sh_148 (hS.e (Nat.le_of_ble_eq_true rfl)) (fun hb18 v17 => ?_)
    refine tr_callV0I (st := []) 3 hX hS dX7_unlikeTies_77 (ok_X6_token t3 v7 v12 v17 ht3) (shT ht3) (by decide) rfl (leT ht3) k_22_17 k_16_1 k_16_2 k_1_19 k_16_3 hy_X6_token rfl rfl (Nat.le_of_ble_eq_true rfl) rfl (fun v19 => ?_)
    refine tr_istore hX dX7_unlikeTies_80 (hS.n (by decide)) rfl ?_
    refine tr_iload 3 hX dX7_unlikeTies_82 rfl ?_
    refine tr_iload 0 hX dX7_unlikeTies_84 rfl ?_
    refine tr_aload_n 1 hX dX7_unlikeTies_86 rfl rfl ?_
    refine tr_getF hX dX7_unlikeTies_87 sh_73 (by decide) rfl inlX7 (by decide) rfl (hS.g (Nat.le_of_ble_eq_true rfl)) cr_73_5 k_5_9 mq_73 ?_
    refine tr_iload_n 2 hX dX7_unlikeTies_90 rfl rfl ?_
    refine tr_aald hX dX7_unlikeTies_91 sh_102 (hS.e (Nat.le_of_ble_eq_true rfl)) (fun hb20 => ?_)
    refine tr_iload 4 hX dX7_unlikeTies_92 rfl ?_
    refine tr_iald hX dX7_unlikeTies_94 (row_102 hb20).1 (hS.e (row_102 hb20).2) (fun hb22 v21 => ?_)
    refine tr_ic_ne 102 hX dX7_unlikeTies_95 (by decide) (fun c26 => ?_) (fun c26 => ?_)
    · refine tr_iconst 0 hX dX7_unlikeTies_98 (by decide) ?_
      refine tr_goto 111 hX dX7_unlikeTies_99 (by decide) ?_
      exact tr_sub [1, 2, 4] rfl (t_X7_unlikeTies_111 hX hS s20 x1 x5 0 x4 hs20)
    · refine tr_aload_n 1 hX dX7_unlikeTies_102 rfl rfl ?_
      refine tr_getF hX dX7_unlikeTies_103 sh_73 (by decide) rfl inlX7 (by decide) rfl (hS.g (Nat.le_of_ble_eq_true rfl)) cr_73_6 k_5_10 mq_73 ?_
      refine tr_iload_n 2 hX dX7_unlikeTies_106 rfl rfl ?_
      refine tr_aald hX dX7_unlikeTies_107 sh_111 (hS.e (Nat.le_of_ble_eq_true rfl)) (fun hb23 => ?_)
      refine tr_iload 4 hX dX7_unlikeTies_108 rfl ?_
      refine tr_iald hX dX7_unlikeTies_110 (row_111 hb23).1 (hS.e (row_111 hb23).2) (fun hb25 v24 => ?_)
      exact tr_sub [1, 2, 4] rfl (t_X7_unlikeTies_111 hX hS s20 x1 x5 v24 x4 hs20)
def f_X7_unlikeTies (x1 : Int32) (x2 : Int32) (x3 : Int32) : M Int32 :=
  sI 148 3 1 x2 (sI 148 3 2 x3 (fix2 FU (f_X7_unlikeTies_20 x1) 0 0))
set_option maxRecDepth 10000 in
set_option maxHeartbeats 4000000 in
theorem t_X7_unlikeTies_0 {X : Cx} (hX : Good X RX7 cX7_unlikeTies ((some .int))) (hS : Sta X 1 23 7) (x1 : Int32) (x2 : Int32) (x3 : Int32) : Tr X eI 0 0 0 [(0, .ref (cxAd X 73)), (1, .int x1), (2, .int x2), (3, .int x3)] [] (f_X7_unlikeTies x1 x2 x3) := by
  unfold f_X7_unlikeTies
  refine tr_aload_n 0 hX dX7_unlikeTies_0 rfl rfl ?_
  refine tr_getF hX dX7_unlikeTies_1 sh_73 (by decide) rfl inlX7 (by decide) rfl (hS.g (Nat.le_of_ble_eq_true rfl)) cr_73_11 k_5_15 mq_73 ?_
  refine tr_iconst 1 hX dX7_unlikeTies_4 (by decide) ?_
  refine tr_iload_n 2 hX dX7_unlikeTies_5 rfl rfl ?_
  refine tr_iast hX dX7_unlikeTies_6 sh_148 (hS.e (Nat.le_of_ble_eq_true rfl)) (fun _ => ?_)
  refine tr_aload_n 0 hX dX7_unlikeTies_7 rfl rfl ?_
  refine tr_getF hX dX7_unlikeTies_8 sh_73 (by decide) rfl inlX7 (by decide) rfl (hS.g (Nat.le_of_ble_eq_true rfl)) cr_73_11 k_5_15 mq_73 ?_
  refine tr_iconst 2 hX dX7_unlikeTies_11 (by decide) ?_
  refine tr_iload_n 3 hX dX7_unlikeTies_12 rfl rfl ?_
  refine tr_iast hX dX7_unlikeTies_13 sh_148 (hS.e (Nat.le_of_ble_eq_true rfl)) (fun _ => ?_)
  refine tr_iconst 0 hX dX7_unlikeTies_14 (by decide) ?_
  refine tr_istore hX dX7_unlikeTies_15 (hS.n (by decide)) rfl ?_
  refine tr_iconst 0 hX dX7_unlikeTies_17 (by decide) ?_
  refine tr_istore hX dX7_unlikeTies_18 (hS.n (by decide)) rfl ?_
  exact tr_sub [2, 3, 1, 0] rfl (tr_fix2 (lvf := fun x4 x5 => [(0, .ref (cxAd X 73)), (1, .int x1), (4, .int x4), (5, .int x5)]) (t_X7_unlikeTies_20 hX hS x1) FU 0 0)
theorem ok_X7_unlikeTies {l : Launch} {E : Ev} (x1 : Int32) (x2 : Int32) (x3 : Int32)  : Ok l E Gall yX7_unlikeTies cX7_unlikeTies 7 ((some .int)) (rmz 1 23) eI [.ref (E.2.1 73), .int x1, .int x2, .int x3] (f_X7_unlikeTies x1 x2 x3) := by
  refine ok_of0 (by decide) (Nat.le_of_ble_eq_true rfl) (fun X hX hV hS => ?_)
  subst hV
  exact t_X7_unlikeTies_0 hX hS x1 x2 x3
def f_X3_weighStart_73  : M Unit :=
  rt ()
set_option maxRecDepth 10000 in
set_option maxHeartbeats 4000000 in
theorem t_X3_weighStart_73 {X : Cx} (hX : Good X RX3 cX3_weighStart (none)) (hS : Sta X 2 52 4) : Tr X eU 0 0 73 [] [] (f_X3_weighStart_73) := by
  unfold f_X3_weighStart_73
  exact tr_vret0 hX hS dX3_weighStart_73
def f_X3_weighStart_48 (x2 : Int32) (x3 : Int32) : M Unit :=
  rI 53 1 (fun v1 => if x3 = v1 then (rL 53 2 (fun v2 => gd (inb 0 8) (aL (63 + 1 + (0 : Int32).toNatClampNeg) 128 x2 (fun v4 => wL 53 2 (v2 + v4) (f_X3_weighStart_73))))) else (f_X3_weighStart_73))
set_option maxRecDepth 10000 in
set_option maxHeartbeats 4000000 in
theorem t_X3_weighStart_48 {X : Cx} (hX : Good X RX3 cX3_weighStart (none)) (hS : Sta X 2 52 4) (x2 : Int32) (x3 : Int32) : Tr X eU 0 0 48 [(0, .ref (cxAd X 53)), (2, .int x2), (3, .int x3)] [] (f_X3_weighStart_48 x2 x3) := by
  unfold f_X3_weighStart_48
  refine tr_iload_n 2 hX dX3_weighStart_48 rfl rfl ?_
  refine tr_aload_n 0 hX dX3_weighStart_49 rfl rfl ?_
  refine tr_getI hX dX3_weighStart_50 sh_53 (by decide) rfl inlX3 (by decide) rfl (hS.e (Nat.le_of_ble_eq_true rfl)) k_21_13 (fun v1 => ?_)
  refine tr_ic_ne 73 hX dX3_weighStart_53 (by decide) (fun c6 => ?_) (fun c6 => ?_)
  · refine tr_aload_n 0 hX dX3_weighStart_56 rfl rfl ?_
    refine tr_dup hX dX3_weighStart_57 rfl ?_
    refine tr_getL hX dX3_weighStart_58 sh_53 (by decide) rfl inlX3 (by decide) rfl (hS.e (Nat.le_of_ble_eq_true rfl)) k_21_14 (fun v2 => ?_)
    refine tr_aload_n 0 hX dX3_weighStart_61 rfl rfl ?_
    refine tr_getF hX dX3_weighStart_62 sh_53 (by decide) rfl inlX3 (by decide) rfl (hS.g (Nat.le_of_ble_eq_true rfl)) cr_53_6 k_4_18 mq_53 ?_
    refine tr_iconst 0 hX dX3_weighStart_65 (by decide) ?_
    refine tr_aaldL hX dX3_weighStart_66 sh_63 (hS.e (Nat.le_of_ble_eq_true rfl)) (fun hb3 => ?_)
    refine tr_iload_n 1 hX dX3_weighStart_67 rfl rfl ?_
    refine tr_lald hX dX3_weighStart_68 (row_63 hb3).1 (hS.e (row_63 hb3).2) (fun hb5 v4 => ?_)
    refine tr_ladd hX dX3_weighStart_69 ?_
    refine tr_putL hX dX3_weighStart_70 sh_53 (by decide) rfl inlX3 tyX3 tyX3_ok nmX3 (by decide) rfl (hS.e (Nat.le_of_ble_eq_true rfl)) k_21_14 rfl rfl rfl rfl ?_
    exact tr_sub [] rfl (t_X3_weighStart_73 hX hS)
  · exact tr_sub [] rfl (t_X3_weighStart_73 hX hS)
def f_X3_weighStart (x1 : Int32) : M Unit :=
  bnd (f_X3_stateOf 0 16 x1) (fun v1 => bnd (f_X7_unlikeTies 0 16 x1) (fun v2 => gd (inb 0 8) (aI (54 + 1 + (0 : Int32).toNatClampNeg) 128 v1 (fun v4 => nm ((v2 + v4)) (fun v6 => rI 53 1 (fun v7 => if v7 ≤ v6 then (f_X3_weighStart_48 v1 v6) else (wI 53 1 v6 (wL 53 2 0 (f_X3_weighStart_48 v1 v6)))))))))
set_option maxRecDepth 10000 in
set_option maxHeartbeats 4000000 in
theorem t_X3_weighStart_0 {X : Cx} (hX : Good X RX3 cX3_weighStart (none)) (hS : Sta X 2 52 4) (x1 : Int32) : Tr X eU 0 0 0 [(0, .ref (cxAd X 53)), (1, .int x1)] [] (f_X3_weighStart x1) := by
  unfold f_X3_weighStart
  refine tr_aload_n 0 hX dX3_weighStart_0 rfl rfl ?_
  refine tr_iconst 0 hX dX3_weighStart_1 (by decide) ?_
  refine tr_bipush 16 hX dX3_weighStart_2 (by decide) ?_
  refine tr_iload_n 1 hX dX3_weighStart_4 rfl rfl ?_
  refine tr_callV0I (st := []) 3 hX hS dX3_weighStart_5 (ok_X3_stateOf 0 16 x1) sh_53 (by decide) rfl (Nat.le_of_ble_eq_true rfl) k_22_3 k_22_4 k_22_5 k_2_10 k_22_6 hy_X3_stateOf rfl rfl (Nat.le_of_ble_eq_true rfl) rfl (fun v1 => ?_)
  refine tr_istore_n hX dX3_weighStart_8 rfl (hS.n (by decide)) rfl ?_
  refine tr_aload_n 1 hX dX3_weighStart_9 rfl rfl ?_
  refine tr_getF hX dX3_weighStart_10 sh_53 (by decide) rfl inlX3 (by decide) rfl (hS.g (Nat.le_of_ble_eq_true rfl)) cr_53_0 k_4_23 mq_53 ?_
  refine tr_iconst 0 hX dX3_weighStart_13 (by decide) ?_
  refine tr_bipush 16 hX dX3_weighStart_14 (by decide) ?_
  refine tr_iload_n 2 hX dX3_weighStart_16 rfl rfl ?_
  refine tr_callV0I (st := []) 3 hX hS dX3_weighStart_17 (ok_X7_unlikeTies 0 16 x1) sh_73 (by decide) rfl (Nat.le_of_ble_eq_true rfl) k_22_13 k_22_14 k_22_15 k_4_22 k_22_16 hy_X7_unlikeTies rfl rfl (Nat.le_of_ble_eq_true rfl) rfl (fun v2 => ?_)
  refine tr_aload_n 1 hX dX3_weighStart_20 rfl rfl ?_
  refine tr_getF hX dX3_weighStart_21 sh_53 (by decide) rfl inlX3 (by decide) rfl (hS.g (Nat.le_of_ble_eq_true rfl)) cr_53_5 k_4_15 mq_53 ?_
  refine tr_iconst 0 hX dX3_weighStart_24 (by decide) ?_
  refine tr_aald hX dX3_weighStart_25 sh_54 (hS.e (Nat.le_of_ble_eq_true rfl)) (fun hb3 => ?_)
  refine tr_iload_n 0 hX dX3_weighStart_26 rfl rfl ?_
  refine tr_iald hX dX3_weighStart_27 (row_54 hb3).1 (hS.e (row_54 hb3).2) (fun hb5 v4 => ?_)
  refine tr_iadd hX dX3_weighStart_28 ?_
  refine tr_nm (fun v6 ev6 => ?_)
  refine tr_istore_n hX dX3_weighStart_29 rfl (hS.n (by decide)) rfl ?_
  refine tr_iload_n 0 hX dX3_weighStart_30 rfl rfl ?_
  refine tr_aload_n 2 hX dX3_weighStart_31 rfl rfl ?_
  refine tr_getI hX dX3_weighStart_32 sh_53 (by decide) rfl inlX3 (by decide) rfl (hS.e (Nat.le_of_ble_eq_true rfl)) k_21_13 (fun v7 => ?_)
  refine tr_ic_ge 48 hX dX3_weighStart_35 (by decide) (fun c8 => ?_) (fun c8 => ?_)
  · exact tr_sub [2, 1, 0] rfl (t_X3_weighStart_48 hX hS v1 v6)
  · refine tr_aload_n 2 hX dX3_weighStart_38 rfl rfl ?_
    refine tr_iload_n 0 hX dX3_weighStart_39 rfl rfl ?_
    refine tr_putI hX dX3_weighStart_40 sh_53 (by decide) rfl inlX3 tyX3 tyX3_ok nmX3 (by decide) rfl (hS.e (Nat.le_of_ble_eq_true rfl)) k_21_13 rfl rfl rfl rfl ?_
    refine tr_aload_n 2 hX dX3_weighStart_43 rfl rfl ?_
    refine tr_lconst 0 hX dX3_weighStart_44 (by decide) ?_
    refine tr_putL hX dX3_weighStart_45 sh_53 (by decide) rfl inlX3 tyX3 tyX3_ok nmX3 (by decide) rfl (hS.e (Nat.le_of_ble_eq_true rfl)) k_21_14 rfl rfl rfl rfl ?_
    exact tr_sub [2, 1, 0] rfl (t_X3_weighStart_48 hX hS v1 v6)
theorem ok_X3_weighStart {l : Launch} {E : Ev} (x1 : Int32)  : Ok l E Gall yX3_weighStart cX3_weighStart 4 (none) (rmz 2 52) eU [.ref (E.2.1 53), .int x1] (f_X3_weighStart x1) := by
  refine ok_of0 (by decide) (Nat.le_of_ble_eq_true rfl) (fun X hX hV hS => ?_)
  subst hV
  exact t_X3_weighStart_0 hX hS x1
def f_X3_take_59  : M Unit :=
  rt ()
set_option maxRecDepth 10000 in
set_option maxHeartbeats 4000000 in
theorem t_X3_take_59 {X : Cx} (hX : Good X RX3 cX3_take (none)) (hS : Sta X 0 0 6) : Tr X eU 0 0 59 [] [] (f_X3_take_59) := by
  unfold f_X3_take_59
  exact tr_vret0 hX hS dX3_take_59
def f_X3_take (x1 : Int32) (x2 : Int32) (x3 : Int32) (x4 : Int64) : M Unit :=
  gd (inb x1 8) (aI (54 + 1 + x1.toNatClampNeg) 128 x2 (fun v2 => if v2 ≤ x3 then (gd (inb x1 8) (aI (54 + 1 + x1.toNatClampNeg) 128 x2 (fun v5 => if x3 = v5 then (gd (inb x1 8) (aL (63 + 1 + x1.toNatClampNeg) 128 x2 (fun v8 => sL (63 + 1 + x1.toNatClampNeg) 128 x2 (v8 + x4) (f_X3_take_59)))) else (f_X3_take_59)))) else (gd (inb x1 8) (sI (54 + 1 + x1.toNatClampNeg) 128 x2 x3 (gd (inb x1 8) (sL (63 + 1 + x1.toNatClampNeg) 128 x2 x4 (f_X3_take_59)))))))
set_option maxRecDepth 10000 in
set_option maxHeartbeats 4000000 in
theorem t_X3_take_0 {X : Cx} (hX : Good X RX3 cX3_take (none)) (hS : Sta X 0 0 6) (x1 : Int32) (x2 : Int32) (x3 : Int32) (x4 : Int64) : Tr X eU 0 0 0 [(0, .ref (cxAd X 53)), (1, .int x1), (2, .int x2), (3, .int x3), (4, .long x4)] [] (f_X3_take x1 x2 x3 x4) := by
  unfold f_X3_take
  refine tr_iload_n 3 hX dX3_take_0 rfl rfl ?_
  refine tr_aload_n 0 hX dX3_take_1 rfl rfl ?_
  refine tr_getF hX dX3_take_2 sh_53 (by decide) rfl inlX3 (by decide) rfl (hS.g (Nat.le_of_ble_eq_true rfl)) cr_53_5 k_4_15 mq_53 ?_
  refine tr_iload_n 1 hX dX3_take_5 rfl rfl ?_
  refine tr_aald hX dX3_take_6 sh_54 (hS.e (Nat.le_of_ble_eq_true rfl)) (fun hb1 => ?_)
  refine tr_iload_n 2 hX dX3_take_7 rfl rfl ?_
  refine tr_iald hX dX3_take_8 (row_54 hb1).1 (hS.e (row_54 hb1).2) (fun hb3 v2 => ?_)
  refine tr_ic_ge 34 hX dX3_take_9 (by decide) (fun c13 => ?_) (fun c13 => ?_)
  · refine tr_iload_n 3 hX dX3_take_34 rfl rfl ?_
    refine tr_aload_n 0 hX dX3_take_35 rfl rfl ?_
    refine tr_getF hX dX3_take_36 sh_53 (by decide) rfl inlX3 (by decide) rfl (hS.g (Nat.le_of_ble_eq_true rfl)) cr_53_5 k_4_15 mq_53 ?_
    refine tr_iload_n 1 hX dX3_take_39 rfl rfl ?_
    refine tr_aald hX dX3_take_40 sh_54 (hS.e (Nat.le_of_ble_eq_true rfl)) (fun hb4 => ?_)
    refine tr_iload_n 2 hX dX3_take_41 rfl rfl ?_
    refine tr_iald hX dX3_take_42 (row_54 hb4).1 (hS.e (row_54 hb4).2) (fun hb6 v5 => ?_)
    refine tr_ic_ne 59 hX dX3_take_43 (by decide) (fun c10 => ?_) (fun c10 => ?_)
    · refine tr_aload_n 0 hX dX3_take_46 rfl rfl ?_
      refine tr_getF hX dX3_take_47 sh_53 (by decide) rfl inlX3 (by decide) rfl (hS.g (Nat.le_of_ble_eq_true rfl)) cr_53_6 k_4_18 mq_53 ?_
      refine tr_iload_n 1 hX dX3_take_50 rfl rfl ?_
      refine tr_aaldL hX dX3_take_51 sh_63 (hS.e (Nat.le_of_ble_eq_true rfl)) (fun hb7 => ?_)
      refine tr_iload_n 2 hX dX3_take_52 rfl rfl ?_
      refine tr_dup2 hX dX3_take_53 rfl rfl ?_
      refine tr_lald hX dX3_take_54 (row_63 hb7).1 (hS.e (row_63 hb7).2) (fun hb9 v8 => ?_)
      refine tr_lload 4 hX dX3_take_55 rfl ?_
      refine tr_ladd hX dX3_take_57 ?_
      refine tr_last hX dX3_take_58 (row_63 hb7).1 (hS.e (row_63 hb7).2) (fun _ => ?_)
      exact tr_sub [] rfl (t_X3_take_59 hX hS)
    · exact tr_sub [] rfl (t_X3_take_59 hX hS)
  · refine tr_aload_n 0 hX dX3_take_12 rfl rfl ?_
    refine tr_getF hX dX3_take_13 sh_53 (by decide) rfl inlX3 (by decide) rfl (hS.g (Nat.le_of_ble_eq_true rfl)) cr_53_5 k_4_15 mq_53 ?_
    refine tr_iload_n 1 hX dX3_take_16 rfl rfl ?_
    refine tr_aald hX dX3_take_17 sh_54 (hS.e (Nat.le_of_ble_eq_true rfl)) (fun hb11 => ?_)
    refine tr_iload_n 2 hX dX3_take_18 rfl rfl ?_
    refine tr_iload_n 3 hX dX3_take_19 rfl rfl ?_
    refine tr_iast hX dX3_take_20 (row_54 hb11).1 (hS.e (row_54 hb11).2) (fun _ => ?_)
    refine tr_aload_n 0 hX dX3_take_21 rfl rfl ?_
    refine tr_getF hX dX3_take_22 sh_53 (by decide) rfl inlX3 (by decide) rfl (hS.g (Nat.le_of_ble_eq_true rfl)) cr_53_6 k_4_18 mq_53 ?_
    refine tr_iload_n 1 hX dX3_take_25 rfl rfl ?_
    refine tr_aaldL hX dX3_take_26 sh_63 (hS.e (Nat.le_of_ble_eq_true rfl)) (fun hb12 => ?_)
    refine tr_iload_n 2 hX dX3_take_27 rfl rfl ?_
    refine tr_lload 4 hX dX3_take_28 rfl ?_
    refine tr_last hX dX3_take_30 (row_63 hb12).1 (hS.e (row_63 hb12).2) (fun _ => ?_)
    refine tr_goto 59 hX dX3_take_31 (by decide) ?_
    exact tr_sub [] rfl (t_X3_take_59 hX hS)
theorem ok_X3_take {l : Launch} {E : Ev} (x1 : Int32) (x2 : Int32) (x3 : Int32) (x4 : Int64)  : Ok l E Gall yX3_take cX3_take 6 (none) (rmz 0 0) eU [.ref (E.2.1 53), .int x1, .int x2, .int x3, .long x4] (f_X3_take x1 x2 x3 x4) := by
  refine ok_of0 (by decide) (Nat.le_of_ble_eq_true rfl) (fun X hX hV hS => ?_)
  subst hV
  exact t_X3_take_0 hX hS x1 x2 x3 x4
def f_X7_spansAt (x1 : Int32) : M Int32 :=
  aI 120 8 x1 (fun v1 => rt v1)
set_option maxRecDepth 10000 in
set_option maxHeartbeats 4000000 in
theorem t_X7_spansAt_0 {X : Cx} (hX : Good X RX7 cX7_spansAt ((some .int))) (hS : Sta X 0 0 2) (x1 : Int32) : Tr X eI 0 0 0 [(0, .ref (cxAd X 73)), (1, .int x1)] [] (f_X7_spansAt x1) := by
  unfold f_X7_spansAt
  refine tr_aload_n 0 hX dX7_spansAt_0 rfl rfl ?_
  refine tr_getF hX dX7_spansAt_1 sh_73 (by decide) rfl inlX7 (by decide) rfl (hS.g (Nat.le_of_ble_eq_true rfl)) cr_73_7 k_5_11 mq_73 ?_
  refine tr_iload_n 1 hX dX7_spansAt_4 rfl rfl ?_
  refine tr_iald hX dX7_spansAt_5 sh_120 (hS.e (Nat.le_of_ble_eq_true rfl)) (fun hb2 v1 => ?_)
  exact tr_iret0 hX hS dX7_spansAt_6
theorem ok_X7_spansAt {l : Launch} {E : Ev} (x1 : Int32)  : Ok l E Gall yX7_spansAt cX7_spansAt 2 ((some .int)) (rmz 0 0) eI [.ref (E.2.1 73), .int x1] (f_X7_spansAt x1) := by
  refine ok_of0 (by decide) (Nat.le_of_ble_eq_true rfl) (fun X hX hV hS => ?_)
  subst hV
  exact t_X7_spansAt_0 hX hS x1
def f_X3_weighWord_219  : M Unit :=
  rt ()
set_option maxRecDepth 10000 in
set_option maxHeartbeats 4000000 in
theorem t_X3_weighWord_219 {X : Cx} (hX : Good X RX3 cX3_weighWord (none)) (hS : Sta X 2 52 10) : Tr X eU 0 0 219 [] [] (f_X3_weighWord_219) := by
  unfold f_X3_weighWord_219
  exact tr_vret0 hX hS dX3_weighWord_219
def f_X3_weighWord_165 (s95 : Int32 → M Unit) (x1 : Int32) (x2 : Int32) (x3 : Int32) (x4 : Int32) (x5 : Int32) (x6 : Int32) (x7 : Int32) (x8 : Int32) (s165 : Int32 → M Unit) (x9 : Int32) : M Unit :=
  if x3 ≤ x9 then (s95 (x5 + 1)) else (aI 72 8 (x9 &&& x8) (fun v1 => gd (inb (x1 + 1) 8) (aL (63 + 1 + (x1 + 1).toNatClampNeg) 128 x6 (fun v4 => bnd (f_X3_take x1 ((8 * x2) + x9) (x7 + v1) v4) (fun _ => s165 (x9 + 1))))))
set_option maxRecDepth 10000 in
set_option maxHeartbeats 4000000 in
theorem t_X3_weighWord_165 {X : Cx} (hX : Good X RX3 cX3_weighWord (none)) (hS : Sta X 2 52 10) (s95 : Int32 → M Unit) (x1 : Int32) (x2 : Int32) (x3 : Int32) (x4 : Int32) (x5 : Int32) (x6 : Int32) (x7 : Int32) (x8 : Int32) (hs95 : ∀ x5 : Int32, Tr X eU 0 0 95 [(0, .ref (cxAd X 53)), (1, .int x1), (2, .int x2), (3, .int x3), (4, .int x4), (5, .int x5)] [] (s95 x5)) : ∀ s165 : Int32 → M Unit, (∀ x9 : Int32, Tr X eU 0 0 165 [(0, .ref (cxAd X 53)), (1, .int x1), (2, .int x2), (3, .int x3), (4, .int x4), (5, .int x5), (6, .int x6), (7, .int x7), (8, .int x8), (9, .int x9)] [] (s165 x9)) → ∀ x9 : Int32, Tr X eU 0 0 165 [(0, .ref (cxAd X 53)), (1, .int x1), (2, .int x2), (3, .int x3), (4, .int x4), (5, .int x5), (6, .int x6), (7, .int x7), (8, .int x8), (9, .int x9)] [] (f_X3_weighWord_165 s95 x1 x2 x3 x4 x5 x6 x7 x8 s165 x9) := by
  intro s165 hs165 x9
  unfold f_X3_weighWord_165
  refine tr_iload 9 hX dX3_weighWord_165 rfl ?_
  refine tr_iload_n 3 hX dX3_weighWord_167 rfl rfl ?_
  refine tr_ic_ge 213 hX dX3_weighWord_168 (by decide) (fun c7 => ?_) (fun c7 => ?_)
  · refine tr_iinc (x5 + 1) 5 hX dX3_weighWord_213 rfl (congrArg (fun z => x5 + z) (by decide)) (hS.n (by decide)) rfl ?_
    refine tr_goto 95 hX dX3_weighWord_216 (by decide) ?_
    exact tr_sub [1, 2, 3, 4, 5, 0] rfl (hs95 (x5 + 1))
  · refine tr_aload_n 0 hX dX3_weighWord_171 rfl rfl ?_
    refine tr_iload_n 1 hX dX3_weighWord_172 rfl rfl ?_
    refine tr_bipush 8 hX dX3_weighWord_173 (by decide) ?_
    refine tr_iload_n 2 hX dX3_weighWord_175 rfl rfl ?_
    refine tr_imul hX dX3_weighWord_176 ?_
    refine tr_iload 9 hX dX3_weighWord_177 rfl ?_
    refine tr_iadd hX dX3_weighWord_179 ?_
    refine tr_iload 7 hX dX3_weighWord_180 rfl ?_
    refine tr_aload_n 0 hX dX3_weighWord_182 rfl rfl ?_
    refine tr_getF hX dX3_weighWord_183 sh_53 (by decide) rfl inlX3 (by decide) rfl (hS.g (Nat.le_of_ble_eq_true rfl)) cr_53_7 k_4_19 mq_53 ?_
    refine tr_iload 9 hX dX3_weighWord_186 rfl ?_
    refine tr_iload 8 hX dX3_weighWord_188 rfl ?_
    refine tr_iand hX dX3_weighWord_190 ?_
    refine tr_iald hX dX3_weighWord_191 sh_72 (hS.e (Nat.le_of_ble_eq_true rfl)) (fun hb2 v1 => ?_)
    refine tr_iadd hX dX3_weighWord_192 ?_
    refine tr_aload_n 0 hX dX3_weighWord_193 rfl rfl ?_
    refine tr_getF hX dX3_weighWord_194 sh_53 (by decide) rfl inlX3 (by decide) rfl (hS.g (Nat.le_of_ble_eq_true rfl)) cr_53_6 k_4_18 mq_53 ?_
    refine tr_iload_n 1 hX dX3_weighWord_197 rfl rfl ?_
    refine tr_iconst 1 hX dX3_weighWord_198 (by decide) ?_
    refine tr_iadd hX dX3_weighWord_199 ?_
    refine tr_aaldL hX dX3_weighWord_200 sh_63 (hS.e (Nat.le_of_ble_eq_true rfl)) (fun hb3 => ?_)
    refine tr_iload 6 hX dX3_weighWord_201 rfl ?_
    refine tr_lald hX dX3_weighWord_203 (row_63 hb3).1 (hS.e (row_63 hb3).2) (fun hb5 v4 => ?_)
    refine tr_callV0U (st := []) 4 hX hS dX3_weighWord_204 (ok_X3_take x1 ((8 * x2) + x9) (x7 + v1) v4) sh_53 (by decide) rfl (Nat.le_of_ble_eq_true rfl) k_22_18 k_22_19 k_22_20 k_2_10 k_22_21 hy_X3_take rfl rfl (Nat.le_of_ble_eq_true rfl) rfl (fun _ => ?_)
    refine tr_iinc (x9 + 1) 9 hX dX3_weighWord_207 rfl (congrArg (fun z => x9 + z) (by decide)) (hS.n (by decide)) rfl ?_
    refine tr_goto 165 hX dX3_weighWord_210 (by decide) ?_
    exact tr_sub [1, 2, 3, 4, 5, 6, 7, 8, 9, 0] rfl (hs165 (x9 + 1))
def f_X3_weighWord_95 (x1 : Int32) (x2 : Int32) (x3 : Int32) (x4 : Int32) (s95 : Int32 → M Unit) (x5 : Int32) : M Unit :=
  rI 53 3 (fun v1 => if v1 ≤ x5 then (f_X3_weighWord_219) else (if x4 = 0 then (bnd (f_X3_stateOf (x1 + 1) x2 x5) (fun v2 => bnd (f_X7_unlikeTies (x1 + 1) x2 x5) (fun v3 => gd (inb (x1 + 1) 8) (aI (54 + 1 + (x1 + 1).toNatClampNeg) 128 v2 (fun v5 => nm ((v3 + v5)) (fun v7 => bnd (f_X7_rightHalves x1 1 x2 x5) (fun v8 => fix1 FU (f_X3_weighWord_165 s95 x1 x2 x3 x4 x5 v2 v7 v8) 0))))))) else (f_X3_weighWord_219)))
set_option maxRecDepth 10000 in
set_option maxHeartbeats 4000000 in
theorem t_X3_weighWord_95 {X : Cx} (hX : Good X RX3 cX3_weighWord (none)) (hS : Sta X 2 52 10) (x1 : Int32) (x2 : Int32) (x3 : Int32) (x4 : Int32) : ∀ s95 : Int32 → M Unit, (∀ x5 : Int32, Tr X eU 0 0 95 [(0, .ref (cxAd X 53)), (1, .int x1), (2, .int x2), (3, .int x3), (4, .int x4), (5, .int x5)] [] (s95 x5)) → ∀ x5 : Int32, Tr X eU 0 0 95 [(0, .ref (cxAd X 53)), (1, .int x1), (2, .int x2), (3, .int x3), (4, .int x4), (5, .int x5)] [] (f_X3_weighWord_95 x1 x2 x3 x4 s95 x5) := by
  intro s95 hs95 x5
  unfold f_X3_weighWord_95
  refine tr_iload 5 hX dX3_weighWord_95 rfl ?_
  refine tr_aload_n 0 hX dX3_weighWord_97 rfl rfl ?_
  refine tr_getI hX dX3_weighWord_98 sh_53 (by decide) rfl inlX3 (by decide) rfl (hS.e (Nat.le_of_ble_eq_true rfl)) k_20_3 (fun v1 => ?_)
  refine tr_ic_ge 219 hX dX3_weighWord_101 (by decide) (fun c10 => ?_) (fun c10 => ?_)
  · exact tr_sub [] rfl (t_X3_weighWord_219 hX hS)
  · refine tr_iload 4 hX dX3_weighWord_104 rfl ?_
    refine tr_if_ne 219 hX dX3_weighWord_106 (by decide) (fun c9 => ?_) (fun c9 => ?_)
    · refine tr_aload_n 0 hX dX3_weighWord_109 rfl rfl ?_
      refine tr_iload_n 1 hX dX3_weighWord_110 rfl rfl ?_
      refine tr_iconst 1 hX dX3_weighWord_111 (by decide) ?_
      refine tr_iadd hX dX3_weighWord_112 ?_
      refine tr_iload_n 2 hX dX3_weighWord_113 rfl rfl ?_
      refine tr_iload 5 hX dX3_weighWord_114 rfl ?_
      refine tr_callV0I (st := []) 3 hX hS dX3_weighWord_116 (ok_X3_stateOf (x1 + 1) x2 x5) sh_53 (by decide) rfl (Nat.le_of_ble_eq_true rfl) k_22_3 k_22_4 k_22_5 k_2_10 k_22_6 hy_X3_stateOf rfl rfl (Nat.le_of_ble_eq_true rfl) rfl (fun v2 => ?_)
      refine tr_istore hX dX3_weighWord_119 (hS.n (by decide)) rfl ?_
      refine tr_aload_n 1 hX dX3_weighWord_121 rfl rfl ?_
      refine tr_getF hX dX3_weighWord_122 sh_53 (by decide) rfl inlX3 (by decide) rfl (hS.g (Nat.le_of_ble_eq_true rfl)) cr_53_0 k_4_23 mq_53 ?_
      refine tr_iload_n 2 hX dX3_weighWord_125 rfl rfl ?_
      refine tr_iconst 1 hX dX3_weighWord_126 (by decide) ?_
      refine tr_iadd hX dX3_weighWord_127 ?_
      refine tr_iload_n 3 hX dX3_weighWord_128 rfl rfl ?_
      refine tr_iload 6 hX dX3_weighWord_129 rfl ?_
      refine tr_callV0I (st := []) 3 hX hS dX3_weighWord_131 (ok_X7_unlikeTies (x1 + 1) x2 x5) sh_73 (by decide) rfl (Nat.le_of_ble_eq_true rfl) k_22_13 k_22_14 k_22_15 k_4_22 k_22_16 hy_X7_unlikeTies rfl rfl (Nat.le_of_ble_eq_true rfl) rfl (fun v3 => ?_)
      refine tr_aload_n 1 hX dX3_weighWord_134 rfl rfl ?_
      refine tr_getF hX dX3_weighWord_135 sh_53 (by decide) rfl inlX3 (by decide) rfl (hS.g (Nat.le_of_ble_eq_true rfl)) cr_53_5 k_4_15 mq_53 ?_
      refine tr_iload_n 2 hX dX3_weighWord_138 rfl rfl ?_
      refine tr_iconst 1 hX dX3_weighWord_139 (by decide) ?_
      refine tr_iadd hX dX3_weighWord_140 ?_
      refine tr_aald hX dX3_weighWord_141 sh_54 (hS.e (Nat.le_of_ble_eq_true rfl)) (fun hb4 => ?_)
      refine tr_iload 0 hX dX3_weighWord_142 rfl ?_
      refine tr_iald hX dX3_weighWord_144 (row_54 hb4).1 (hS.e (row_54 hb4).2) (fun hb6 v5 => ?_)
      refine tr_iadd hX dX3_weighWord_145 ?_
      refine tr_nm (fun v7 ev7 => ?_)
      refine tr_istore hX dX3_weighWord_146 (hS.n (by decide)) rfl ?_
      refine tr_aload_n 2 hX dX3_weighWord_148 rfl rfl ?_
      refine tr_getF hX dX3_weighWord_149 sh_53 (by decide) rfl inlX3 (by decide) rfl (hS.g (Nat.le_of_ble_eq_true rfl)) cr_53_0 k_4_23 mq_53 ?_
      refine tr_iload_n 3 hX dX3_weighWord_152 rfl rfl ?_
      refine tr_iconst 1 hX dX3_weighWord_153 (by decide) ?_
      refine tr_iload_n 4 hX dX3_weighWord_154 rfl rfl ?_
      refine tr_iload 7 hX dX3_weighWord_155 rfl ?_
      refine tr_callV0I (st := []) 4 hX hS dX3_weighWord_157 (ok_X7_rightHalves x1 1 x2 x5) sh_73 (by decide) rfl (Nat.le_of_ble_eq_true rfl) k_22_7 k_22_8 k_22_9 k_4_22 k_22_10 hy_X7_rightHalves rfl rfl (Nat.le_of_ble_eq_true rfl) rfl (fun v8 => ?_)
      refine tr_istore hX dX3_weighWord_160 (hS.n (by decide)) rfl ?_
      refine tr_iconst 0 hX dX3_weighWord_162 (by decide) ?_
      refine tr_istore hX dX3_weighWord_163 (hS.n (by decide)) rfl ?_
      exact tr_sub [4, 5, 6, 7, 8, 9, 3, 2, 1, 0] rfl (tr_fix1 (lvf := fun x9 => [(0, .ref (cxAd X 53)), (1, .int x1), (2, .int x2), (3, .int x3), (4, .int x4), (5, .int x5), (6, .int v2), (7, .int v7), (8, .int v8), (9, .int x9)]) (t_X3_weighWord_165 hX hS s95 x1 x2 x3 x4 x5 v2 v7 v8 hs95) FU 0)
    · exact tr_sub [] rfl (t_X3_weighWord_219 hX hS)
def f_X3_weighWord_85 (s31 : Int32 → M Unit) (x1 : Int32) (x2 : Int32) (x3 : Int32) (x4 : Int32) (x5 : Int32) (p0 : Int64) (p1 : Int32) (p2 : Nat) : M Unit :=
  sL p2 128 p1 p0 (s31 (x5 + 1))
set_option maxRecDepth 10000 in
set_option maxHeartbeats 4000000 in
theorem t_X3_weighWord_85 {X : Cx} (hX : Good X RX3 cX3_weighWord (none)) (hS : Sta X 2 52 10) (s31 : Int32 → M Unit) (x1 : Int32) (x2 : Int32) (x3 : Int32) (x4 : Int32) (x5 : Int32) (p0 : Int64) (p1 : Int32) (p2 : Nat) (hp2 : isJ p2 128) (hs31 : ∀ x5 : Int32, Tr X eU 0 0 31 [(0, .ref (cxAd X 53)), (1, .int x1), (2, .int x2), (3, .int x3), (4, .int x4), (5, .int x5)] [] (s31 x5)) : Tr X eU 0 0 85 [(0, .ref (cxAd X 53)), (1, .int x1), (2, .int x2), (3, .int x3), (4, .int x4), (5, .int x5)] [.long p0, .int p1, .ref (cxAd X p2)] (f_X3_weighWord_85 s31 x1 x2 x3 x4 x5 p0 p1 p2) := by
  unfold f_X3_weighWord_85
  refine tr_last hX dX3_weighWord_85 (hp2).1 (hS.e (hp2).2) (fun _ => ?_)
  refine tr_iinc (x5 + 1) 5 hX dX3_weighWord_86 rfl (congrArg (fun z => x5 + z) (by decide)) (hS.n (by decide)) rfl ?_
  refine tr_goto 31 hX dX3_weighWord_89 (by decide) ?_
  exact tr_sub [1, 2, 3, 4, 5, 0] rfl (hs31 (x5 + 1))
def f_X3_weighWord_61 (s31 : Int32 → M Unit) (x1 : Int32) (x2 : Int32) (x3 : Int32) (x4 : Int32) (x5 : Int32) (p0 : Int32) (p1 : Int32) (p2 : Nat) : M Unit :=
  sI p2 128 p1 p0 (gd (inb x1 8) (if x4 = 0 then (f_X3_weighWord_85 s31 x1 x2 x3 x4 x5 0 ((8 * x2) + x5) (63 + 1 + x1.toNatClampNeg)) else (f_X3_weighWord_85 s31 x1 x2 x3 x4 x5 1 ((8 * x2) + x5) (63 + 1 + x1.toNatClampNeg))))
set_option maxRecDepth 10000 in
set_option maxHeartbeats 4000000 in
theorem t_X3_weighWord_61 {X : Cx} (hX : Good X RX3 cX3_weighWord (none)) (hS : Sta X 2 52 10) (s31 : Int32 → M Unit) (x1 : Int32) (x2 : Int32) (x3 : Int32) (x4 : Int32) (x5 : Int32) (p0 : Int32) (p1 : Int32) (p2 : Nat) (hp2 : isI p2 128) (hs31 : ∀ x5 : Int32, Tr X eU 0 0 31 [(0, .ref (cxAd X 53)), (1, .int x1), (2, .int x2), (3, .int x3), (4, .int x4), (5, .int x5)] [] (s31 x5)) : Tr X eU 0 0 61 [(0, .ref (cxAd X 53)), (1, .int x1), (2, .int x2), (3, .int x3), (4, .int x4), (5, .int x5)] [.int p0, .int p1, .ref (cxAd X p2)] (f_X3_weighWord_61 s31 x1 x2 x3 x4 x5 p0 p1 p2) := by
  unfold f_X3_weighWord_61
  refine tr_iast hX dX3_weighWord_61 (hp2).1 (hS.e (hp2).2) (fun _ => ?_)
  refine tr_aload_n 0 hX dX3_weighWord_62 rfl rfl ?_
  refine tr_getF hX dX3_weighWord_63 sh_53 (by decide) rfl inlX3 (by decide) rfl (hS.g (Nat.le_of_ble_eq_true rfl)) cr_53_6 k_4_18 mq_53 ?_
  refine tr_iload_n 1 hX dX3_weighWord_66 rfl rfl ?_
  refine tr_aaldL hX dX3_weighWord_67 sh_63 (hS.e (Nat.le_of_ble_eq_true rfl)) (fun hb1 => ?_)
  refine tr_bipush 8 hX dX3_weighWord_68 (by decide) ?_
  refine tr_iload_n 2 hX dX3_weighWord_70 rfl rfl ?_
  refine tr_imul hX dX3_weighWord_71 ?_
  refine tr_iload 5 hX dX3_weighWord_72 rfl ?_
  refine tr_iadd hX dX3_weighWord_74 ?_
  refine tr_iload 4 hX dX3_weighWord_75 rfl ?_
  refine tr_if_eq 84 hX dX3_weighWord_77 (by decide) (fun c2 => ?_) (fun c2 => ?_)
  · refine tr_lconst 0 hX dX3_weighWord_84 (by decide) ?_
    exact tr_sub [0, 1, 2, 3, 4, 5] rfl (t_X3_weighWord_85 hX hS s31 x1 x2 x3 x4 x5 0 ((8 * x2) + x5) (63 + 1 + x1.toNatClampNeg) (row_63 hb1) hs31)
  · refine tr_lconst 1 hX dX3_weighWord_80 (by decide) ?_
    refine tr_goto 85 hX dX3_weighWord_81 (by decide) ?_
    exact tr_sub [0, 1, 2, 3, 4, 5] rfl (t_X3_weighWord_85 hX hS s31 x1 x2 x3 x4 x5 1 ((8 * x2) + x5) (63 + 1 + x1.toNatClampNeg) (row_63 hb1) hs31)
def f_X3_weighWord_31 (x1 : Int32) (x2 : Int32) (x3 : Int32) (x4 : Int32) (s31 : Int32 → M Unit) (x5 : Int32) : M Unit :=
  if x3 ≤ x5 then (fix1 FU (f_X3_weighWord_95 x1 x2 x3 x4) 0) else (gd (inb x1 8) (if x4 = 0 then (f_X3_weighWord_61 s31 x1 x2 x3 x4 x5 1000000 ((8 * x2) + x5) (54 + 1 + x1.toNatClampNeg)) else (f_X3_weighWord_61 s31 x1 x2 x3 x4 x5 0 ((8 * x2) + x5) (54 + 1 + x1.toNatClampNeg))))
set_option maxRecDepth 10000 in
set_option maxHeartbeats 4000000 in
theorem t_X3_weighWord_31 {X : Cx} (hX : Good X RX3 cX3_weighWord (none)) (hS : Sta X 2 52 10) (x1 : Int32) (x2 : Int32) (x3 : Int32) (x4 : Int32) : ∀ s31 : Int32 → M Unit, (∀ x5 : Int32, Tr X eU 0 0 31 [(0, .ref (cxAd X 53)), (1, .int x1), (2, .int x2), (3, .int x3), (4, .int x4), (5, .int x5)] [] (s31 x5)) → ∀ x5 : Int32, Tr X eU 0 0 31 [(0, .ref (cxAd X 53)), (1, .int x1), (2, .int x2), (3, .int x3), (4, .int x4), (5, .int x5)] [] (f_X3_weighWord_31 x1 x2 x3 x4 s31 x5) := by
  intro s31 hs31 x5
  unfold f_X3_weighWord_31
  refine tr_iload 5 hX dX3_weighWord_31 rfl ?_
  refine tr_iload_n 3 hX dX3_weighWord_33 rfl rfl ?_
  refine tr_ic_ge 92 hX dX3_weighWord_34 (by decide) (fun c3 => ?_) (fun c3 => ?_)
  · refine tr_iconst 0 hX dX3_weighWord_92 (by decide) ?_
    refine tr_istore hX dX3_weighWord_93 (hS.n (by decide)) rfl ?_
    exact tr_sub [1, 2, 3, 4, 5, 0] rfl (tr_fix1 (lvf := fun x5 => [(0, .ref (cxAd X 53)), (1, .int x1), (2, .int x2), (3, .int x3), (4, .int x4), (5, .int x5)]) (t_X3_weighWord_95 hX hS x1 x2 x3 x4) FU 0)
  · refine tr_aload_n 0 hX dX3_weighWord_37 rfl rfl ?_
    refine tr_getF hX dX3_weighWord_38 sh_53 (by decide) rfl inlX3 (by decide) rfl (hS.g (Nat.le_of_ble_eq_true rfl)) cr_53_5 k_4_15 mq_53 ?_
    refine tr_iload_n 1 hX dX3_weighWord_41 rfl rfl ?_
    refine tr_aald hX dX3_weighWord_42 sh_54 (hS.e (Nat.le_of_ble_eq_true rfl)) (fun hb1 => ?_)
    refine tr_bipush 8 hX dX3_weighWord_43 (by decide) ?_
    refine tr_iload_n 2 hX dX3_weighWord_45 rfl rfl ?_
    refine tr_imul hX dX3_weighWord_46 ?_
    refine tr_iload 5 hX dX3_weighWord_47 rfl ?_
    refine tr_iadd hX dX3_weighWord_49 ?_
    refine tr_iload 4 hX dX3_weighWord_50 rfl ?_
    refine tr_if_eq 59 hX dX3_weighWord_52 (by decide) (fun c2 => ?_) (fun c2 => ?_)
    · refine tr_ldc hX dX3_weighWord_59 k_21_12 ?_
      exact tr_sub [0, 1, 2, 3, 4, 5] rfl (t_X3_weighWord_61 hX hS s31 x1 x2 x3 x4 x5 1000000 ((8 * x2) + x5) (54 + 1 + x1.toNatClampNeg) (row_54 hb1) hs31)
    · refine tr_iconst 0 hX dX3_weighWord_55 (by decide) ?_
      refine tr_goto 61 hX dX3_weighWord_56 (by decide) ?_
      exact tr_sub [0, 1, 2, 3, 4, 5] rfl (t_X3_weighWord_61 hX hS s31 x1 x2 x3 x4 x5 0 ((8 * x2) + x5) (54 + 1 + x1.toNatClampNeg) (row_54 hb1) hs31)
def f_X3_weighWord_26 (x1 : Int32) (x2 : Int32) (x3 : Int32) (p0 : Int32) : M Unit :=
  fix1 FU (f_X3_weighWord_31 x1 x2 x3 p0) 0
set_option maxRecDepth 10000 in
set_option maxHeartbeats 4000000 in
theorem t_X3_weighWord_26 {X : Cx} (hX : Good X RX3 cX3_weighWord (none)) (hS : Sta X 2 52 10) (x1 : Int32) (x2 : Int32) (x3 : Int32) (p0 : Int32) : Tr X eU 0 0 26 [(0, .ref (cxAd X 53)), (1, .int x1), (2, .int x2), (3, .int x3)] [.int p0] (f_X3_weighWord_26 x1 x2 x3 p0) := by
  unfold f_X3_weighWord_26
  refine tr_istore hX dX3_weighWord_26 (hS.n (by decide)) rfl ?_
  refine tr_iconst 0 hX dX3_weighWord_28 (by decide) ?_
  refine tr_istore hX dX3_weighWord_29 (hS.n (by decide)) rfl ?_
  exact tr_sub [2, 3, 4, 5, 1, 0] rfl (tr_fix1 (lvf := fun x5 => [(0, .ref (cxAd X 53)), (1, .int x1), (2, .int x2), (3, .int x3), (4, .int p0), (5, .int x5)]) (t_X3_weighWord_31 hX hS x1 x2 x3 p0) FU 0)
def f_X3_weighWord (x1 : Int32) (x2 : Int32) : M Unit :=
  bnd (f_X7_spansAt x1) (fun v1 => nm ((1 <<< (v1 &&& 31))) (fun v2 => rI 53 4 (fun v3 => if x1 = (v3 - 1) then (f_X3_weighWord_26 x1 x2 v2 1) else (f_X3_weighWord_26 x1 x2 v2 0))))
set_option maxRecDepth 10000 in
set_option maxHeartbeats 4000000 in
theorem t_X3_weighWord_0 {X : Cx} (hX : Good X RX3 cX3_weighWord (none)) (hS : Sta X 2 52 10) (x1 : Int32) (x2 : Int32) : Tr X eU 0 0 0 [(0, .ref (cxAd X 53)), (1, .int x1), (2, .int x2)] [] (f_X3_weighWord x1 x2) := by
  unfold f_X3_weighWord
  refine tr_iconst 1 hX dX3_weighWord_0 (by decide) ?_
  refine tr_aload_n 0 hX dX3_weighWord_1 rfl rfl ?_
  refine tr_getF hX dX3_weighWord_2 sh_53 (by decide) rfl inlX3 (by decide) rfl (hS.g (Nat.le_of_ble_eq_true rfl)) cr_53_0 k_4_23 mq_53 ?_
  refine tr_iload_n 1 hX dX3_weighWord_5 rfl rfl ?_
  refine tr_callV0I (st := [.int 1]) 1 hX hS dX3_weighWord_6 (ok_X7_spansAt x1) sh_73 (by decide) rfl (Nat.le_of_ble_eq_true rfl) k_21_23 k_22_0 k_22_1 k_4_22 k_22_2 hy_X7_spansAt rfl rfl (Nat.le_of_ble_eq_true rfl) rfl (fun v1 => ?_)
  refine tr_ishl hX dX3_weighWord_9 ?_
  refine tr_nm (fun v2 ev2 => ?_)
  refine tr_istore_n hX dX3_weighWord_10 rfl (hS.n (by decide)) rfl ?_
  refine tr_iload_n 2 hX dX3_weighWord_11 rfl rfl ?_
  refine tr_aload_n 1 hX dX3_weighWord_12 rfl rfl ?_
  refine tr_getI hX dX3_weighWord_13 sh_53 (by decide) rfl inlX3 (by decide) rfl (hS.e (Nat.le_of_ble_eq_true rfl)) k_20_1 (fun v3 => ?_)
  refine tr_iconst 1 hX dX3_weighWord_16 (by decide) ?_
  refine tr_isub hX dX3_weighWord_17 ?_
  refine tr_ic_ne 25 hX dX3_weighWord_18 (by decide) (fun c4 => ?_) (fun c4 => ?_)
  · refine tr_iconst 1 hX dX3_weighWord_21 (by decide) ?_
    refine tr_goto 26 hX dX3_weighWord_22 (by decide) ?_
    exact tr_sub [1, 2, 3, 0] rfl (t_X3_weighWord_26 hX hS x1 x2 v2 1)
  · refine tr_iconst 0 hX dX3_weighWord_25 (by decide) ?_
    exact tr_sub [1, 2, 3, 0] rfl (t_X3_weighWord_26 hX hS x1 x2 v2 0)
theorem ok_X3_weighWord {l : Launch} {E : Ev} (x1 : Int32) (x2 : Int32)  : Ok l E Gall yX3_weighWord cX3_weighWord 10 (none) (rmz 2 52) eU [.ref (E.2.1 53), .int x1, .int x2] (f_X3_weighWord x1 x2) := by
  refine ok_of0 (by decide) (Nat.le_of_ble_eq_true rfl) (fun X hX hV hS => ?_)
  subst hV
  exact t_X3_weighWord_0 hX hS x1 x2
def f_X7_unlikeSpans_40 (s5 : Int32 → Int32 → M Int32) (x1 : Int32) (x2 : Int32) (x4 : Int32) (p0 : Int32) (p1 : Int32) : M Int32 :=
  nm ((p1 + p0)) (fun v1 => s5 v1 (x4 + 1))
set_option maxRecDepth 10000 in
set_option maxHeartbeats 4000000 in
theorem t_X7_unlikeSpans_40 {X : Cx} (hX : Good X RX7 cX7_unlikeSpans ((some .int))) (hS : Sta X 0 0 5) (s5 : Int32 → Int32 → M Int32) (x1 : Int32) (x2 : Int32) (x4 : Int32) (p0 : Int32) (p1 : Int32) (hs5 : ∀ x3 : Int32, ∀ x4 : Int32, Tr X eI 0 0 5 [(0, .ref (cxAd X 73)), (1, .int x1), (2, .int x2), (3, .int x3), (4, .int x4)] [] (s5 x3 x4)) : Tr X eI 0 0 40 [(0, .ref (cxAd X 73)), (1, .int x1), (2, .int x2), (4, .int x4)] [.int p0, .int p1] (f_X7_unlikeSpans_40 s5 x1 x2 x4 p0 p1) := by
  unfold f_X7_unlikeSpans_40
  refine tr_iadd hX dX7_unlikeSpans_40 ?_
  refine tr_nm (fun v1 ev1 => ?_)
  refine tr_istore_n hX dX7_unlikeSpans_41 rfl (hS.n (by decide)) rfl ?_
  refine tr_iinc (x4 + 1) 4 hX dX7_unlikeSpans_42 rfl (congrArg (fun z => x4 + z) (by decide)) (hS.n (by decide)) rfl ?_
  refine tr_goto 5 hX dX7_unlikeSpans_45 (by decide) ?_
  exact tr_sub [2, 3, 4, 1, 0] rfl (hs5 v1 (x4 + 1))
def f_X7_unlikeSpans_5 (x1 : Int32) (x2 : Int32) (s5 : Int32 → Int32 → M Int32) (x3 : Int32) (x4 : Int32) : M Int32 :=
  aI 120 8 x1 (fun v1 => if v1 ≤ x4 then (rt x3) else (if ((x2 >>> (x4 &&& 31)) &&& 1) = 1 then (f_X7_unlikeSpans_40 s5 x1 x2 x4 0 x3) else (gd (inb x1 8) (aI (139 + 1 + x1.toNatClampNeg) 3 x4 (fun v4 => f_X7_unlikeSpans_40 s5 x1 x2 x4 v4 x3)))))
set_option maxRecDepth 10000 in
set_option maxHeartbeats 4000000 in
theorem t_X7_unlikeSpans_5 {X : Cx} (hX : Good X RX7 cX7_unlikeSpans ((some .int))) (hS : Sta X 0 0 5) (x1 : Int32) (x2 : Int32) : ∀ s5 : Int32 → Int32 → M Int32, (∀ x3 : Int32, ∀ x4 : Int32, Tr X eI 0 0 5 [(0, .ref (cxAd X 73)), (1, .int x1), (2, .int x2), (3, .int x3), (4, .int x4)] [] (s5 x3 x4)) → ∀ x3 : Int32, ∀ x4 : Int32, Tr X eI 0 0 5 [(0, .ref (cxAd X 73)), (1, .int x1), (2, .int x2), (3, .int x3), (4, .int x4)] [] (f_X7_unlikeSpans_5 x1 x2 s5 x3 x4) := by
  intro s5 hs5 x3 x4
  unfold f_X7_unlikeSpans_5
  refine tr_iload 4 hX dX7_unlikeSpans_5 rfl ?_
  refine tr_aload_n 0 hX dX7_unlikeSpans_7 rfl rfl ?_
  refine tr_getF hX dX7_unlikeSpans_8 sh_73 (by decide) rfl inlX7 (by decide) rfl (hS.g (Nat.le_of_ble_eq_true rfl)) cr_73_7 k_5_11 mq_73 ?_
  refine tr_iload_n 1 hX dX7_unlikeSpans_11 rfl rfl ?_
  refine tr_iald hX dX7_unlikeSpans_12 sh_120 (hS.e (Nat.le_of_ble_eq_true rfl)) (fun hb2 v1 => ?_)
  refine tr_ic_ge 48 hX dX7_unlikeSpans_13 (by decide) (fun c7 => ?_) (fun c7 => ?_)
  · refine tr_iload_n 3 hX dX7_unlikeSpans_48 rfl rfl ?_
    exact tr_iret0 hX hS dX7_unlikeSpans_49
  · refine tr_iload_n 3 hX dX7_unlikeSpans_16 rfl rfl ?_
    refine tr_iload_n 2 hX dX7_unlikeSpans_17 rfl rfl ?_
    refine tr_iload 4 hX dX7_unlikeSpans_18 rfl ?_
    refine tr_ishr hX dX7_unlikeSpans_20 ?_
    refine tr_iconst 1 hX dX7_unlikeSpans_21 (by decide) ?_
    refine tr_iand hX dX7_unlikeSpans_22 ?_
    refine tr_iconst 1 hX dX7_unlikeSpans_23 (by decide) ?_
    refine tr_ic_ne 31 hX dX7_unlikeSpans_24 (by decide) (fun c6 => ?_) (fun c6 => ?_)
    · refine tr_iconst 0 hX dX7_unlikeSpans_27 (by decide) ?_
      refine tr_goto 40 hX dX7_unlikeSpans_28 (by decide) ?_
      exact tr_sub [0, 1, 2, 4] rfl (t_X7_unlikeSpans_40 hX hS s5 x1 x2 x4 0 x3 hs5)
    · refine tr_aload_n 0 hX dX7_unlikeSpans_31 rfl rfl ?_
      refine tr_getF hX dX7_unlikeSpans_32 sh_73 (by decide) rfl inlX7 (by decide) rfl (hS.g (Nat.le_of_ble_eq_true rfl)) cr_73_10 k_5_14 mq_73 ?_
      refine tr_iload_n 1 hX dX7_unlikeSpans_35 rfl rfl ?_
      refine tr_aald hX dX7_unlikeSpans_36 sh_139 (hS.e (Nat.le_of_ble_eq_true rfl)) (fun hb3 => ?_)
      refine tr_iload 4 hX dX7_unlikeSpans_37 rfl ?_
      refine tr_iald hX dX7_unlikeSpans_39 (row_139 hb3).1 (hS.e (row_139 hb3).2) (fun hb5 v4 => ?_)
      exact tr_sub [0, 1, 2, 4] rfl (t_X7_unlikeSpans_40 hX hS s5 x1 x2 x4 v4 x3 hs5)
def f_X7_unlikeSpans (x1 : Int32) (x2 : Int32) : M Int32 :=
  fix2 FU (f_X7_unlikeSpans_5 x1 x2) 0 0
set_option maxRecDepth 10000 in
set_option maxHeartbeats 4000000 in
theorem t_X7_unlikeSpans_0 {X : Cx} (hX : Good X RX7 cX7_unlikeSpans ((some .int))) (hS : Sta X 0 0 5) (x1 : Int32) (x2 : Int32) : Tr X eI 0 0 0 [(0, .ref (cxAd X 73)), (1, .int x1), (2, .int x2)] [] (f_X7_unlikeSpans x1 x2) := by
  unfold f_X7_unlikeSpans
  refine tr_iconst 0 hX dX7_unlikeSpans_0 (by decide) ?_
  refine tr_istore_n hX dX7_unlikeSpans_1 rfl (hS.n (by decide)) rfl ?_
  refine tr_iconst 0 hX dX7_unlikeSpans_2 (by decide) ?_
  refine tr_istore hX dX7_unlikeSpans_3 (hS.n (by decide)) rfl ?_
  exact tr_sub [2, 3, 4, 1, 0] rfl (tr_fix2 (lvf := fun x3 x4 => [(0, .ref (cxAd X 73)), (1, .int x1), (2, .int x2), (3, .int x3), (4, .int x4)]) (t_X7_unlikeSpans_5 hX hS x1 x2) FU 0 0)
theorem ok_X7_unlikeSpans {l : Launch} {E : Ev} (x1 : Int32) (x2 : Int32)  : Ok l E Gall yX7_unlikeSpans cX7_unlikeSpans 5 ((some .int)) (rmz 0 0) eI [.ref (E.2.1 73), .int x1, .int x2] (f_X7_unlikeSpans x1 x2) := by
  refine ok_of0 (by decide) (Nat.le_of_ble_eq_true rfl) (fun X hX hV hS => ?_)
  subst hV
  exact t_X7_unlikeSpans_0 hX hS x1 x2
def f_X3_weigh_81 (s81 : Int32 → M Unit) (x1 : Int32) : M Unit :=
  rI 53 3 (fun v1 => if v1 ≤ x1 then (rt ()) else (bnd (f_X3_weighStart x1) (fun _ => s81 (x1 + 1))))
set_option maxRecDepth 10000 in
set_option maxHeartbeats 4000000 in
theorem t_X3_weigh_81 {X : Cx} (hX : Good X RX3 cX3_weigh (none)) (hS : Sta X 3 81 3) : ∀ s81 : Int32 → M Unit, (∀ x1 : Int32, Tr X eU 0 0 81 [(0, .ref (cxAd X 53)), (1, .int x1)] [] (s81 x1)) → ∀ x1 : Int32, Tr X eU 0 0 81 [(0, .ref (cxAd X 53)), (1, .int x1)] [] (f_X3_weigh_81 s81 x1) := by
  intro s81 hs81 x1
  unfold f_X3_weigh_81
  refine tr_iload_n 1 hX dX3_weigh_81 rfl rfl ?_
  refine tr_aload_n 0 hX dX3_weigh_82 rfl rfl ?_
  refine tr_getI hX dX3_weigh_83 sh_53 (by decide) rfl inlX3 (by decide) rfl (hS.e (Nat.le_of_ble_eq_true rfl)) k_20_3 (fun v1 => ?_)
  refine tr_ic_ge 100 hX dX3_weigh_86 (by decide) (fun c3 => ?_) (fun c3 => ?_)
  · exact tr_vret0 hX hS dX3_weigh_100
  · refine tr_aload_n 0 hX dX3_weigh_89 rfl rfl ?_
    refine tr_iload_n 1 hX dX3_weigh_90 rfl rfl ?_
    refine tr_callV0U (st := []) 1 hX hS dX3_weigh_91 (ok_X3_weighStart x1) sh_53 (by decide) rfl (Nat.le_of_ble_eq_true rfl) k_22_22 k_22_23 k_23_0 k_2_10 k_23_1 hy_X3_weighStart rfl rfl (Nat.le_of_ble_eq_true rfl) rfl (fun _ => ?_)
    refine tr_iinc (x1 + 1) 1 hX dX3_weigh_94 rfl (congrArg (fun z => x1 + z) (by decide)) (hS.n (by decide)) rfl ?_
    refine tr_goto 81 hX dX3_weigh_97 (by decide) ?_
    exact tr_sub [1, 0] rfl (hs81 (x1 + 1))
def f_X3_weigh_42 (s7 : Int32 → M Unit) (x1 : Int32) (s42 : Int32 → M Unit) (x2 : Int32) : M Unit :=
  rI 53 3 (fun v1 => if v1 ≤ x2 then (s7 (x1 + (-1))) else (bnd (f_X3_weighWord x1 x2) (fun _ => s42 (x2 + 1))))
set_option maxRecDepth 10000 in
set_option maxHeartbeats 4000000 in
theorem t_X3_weigh_42 {X : Cx} (hX : Good X RX3 cX3_weigh (none)) (hS : Sta X 3 81 3) (s7 : Int32 → M Unit) (x1 : Int32) (hs7 : ∀ x1 : Int32, Tr X eU 0 0 7 [(0, .ref (cxAd X 53)), (1, .int x1)] [] (s7 x1)) : ∀ s42 : Int32 → M Unit, (∀ x2 : Int32, Tr X eU 0 0 42 [(0, .ref (cxAd X 53)), (1, .int x1), (2, .int x2)] [] (s42 x2)) → ∀ x2 : Int32, Tr X eU 0 0 42 [(0, .ref (cxAd X 53)), (1, .int x1), (2, .int x2)] [] (f_X3_weigh_42 s7 x1 s42 x2) := by
  intro s42 hs42 x2
  unfold f_X3_weigh_42
  refine tr_iload_n 2 hX dX3_weigh_42 rfl rfl ?_
  refine tr_aload_n 0 hX dX3_weigh_43 rfl rfl ?_
  refine tr_getI hX dX3_weigh_44 sh_53 (by decide) rfl inlX3 (by decide) rfl (hS.e (Nat.le_of_ble_eq_true rfl)) k_20_3 (fun v1 => ?_)
  refine tr_ic_ge 62 hX dX3_weigh_47 (by decide) (fun c3 => ?_) (fun c3 => ?_)
  · refine tr_iinc (x1 + (-1)) 1 hX dX3_weigh_62 rfl (congrArg (fun z => x1 + z) (by decide)) (hS.n (by decide)) rfl ?_
    refine tr_goto 7 hX dX3_weigh_65 (by decide) ?_
    exact tr_sub [1, 0] rfl (hs7 (x1 + (-1)))
  · refine tr_aload_n 0 hX dX3_weigh_50 rfl rfl ?_
    refine tr_iload_n 1 hX dX3_weigh_51 rfl rfl ?_
    refine tr_iload_n 2 hX dX3_weigh_52 rfl rfl ?_
    refine tr_callV0U (st := []) 2 hX hS dX3_weigh_53 (ok_X3_weighWord x1 x2) sh_53 (by decide) rfl (Nat.le_of_ble_eq_true rfl) k_21_19 k_21_20 k_21_21 k_2_10 k_21_22 hy_X3_weighWord rfl rfl (Nat.le_of_ble_eq_true rfl) rfl (fun _ => ?_)
    refine tr_iinc (x2 + 1) 2 hX dX3_weigh_56 rfl (congrArg (fun z => x2 + z) (by decide)) (hS.n (by decide)) rfl ?_
    refine tr_goto 42 hX dX3_weigh_59 (by decide) ?_
    exact tr_sub [1, 2, 0] rfl (hs42 (x2 + 1))
def f_X3_weigh_13 (s7 : Int32 → M Unit) (x1 : Int32) (s13 : Int32 → M Unit) (x2 : Int32) : M Unit :=
  if 8 ≤ x2 then (fix1 FU (f_X3_weigh_42 s7 x1) 0) else (bnd (f_X7_unlikeSpans x1 x2) (fun v1 => sI 72 8 x2 v1 (s13 (x2 + 1))))
set_option maxRecDepth 10000 in
set_option maxHeartbeats 4000000 in
theorem t_X3_weigh_13 {X : Cx} (hX : Good X RX3 cX3_weigh (none)) (hS : Sta X 3 81 3) (s7 : Int32 → M Unit) (x1 : Int32) (hs7 : ∀ x1 : Int32, Tr X eU 0 0 7 [(0, .ref (cxAd X 53)), (1, .int x1)] [] (s7 x1)) : ∀ s13 : Int32 → M Unit, (∀ x2 : Int32, Tr X eU 0 0 13 [(0, .ref (cxAd X 53)), (1, .int x1), (2, .int x2)] [] (s13 x2)) → ∀ x2 : Int32, Tr X eU 0 0 13 [(0, .ref (cxAd X 53)), (1, .int x1), (2, .int x2)] [] (f_X3_weigh_13 s7 x1 s13 x2) := by
  intro s13 hs13 x2
  unfold f_X3_weigh_13
  refine tr_iload_n 2 hX dX3_weigh_13 rfl rfl ?_
  refine tr_bipush 8 hX dX3_weigh_14 (by decide) ?_
  refine tr_ic_ge 40 hX dX3_weigh_16 (by decide) (fun c2 => ?_) (fun c2 => ?_)
  · refine tr_iconst 0 hX dX3_weigh_40 (by decide) ?_
    refine tr_istore_n hX dX3_weigh_41 rfl (hS.n (by decide)) rfl ?_
    exact tr_sub [1, 2, 0] rfl (tr_fix1 (lvf := fun x2 => [(0, .ref (cxAd X 53)), (1, .int x1), (2, .int x2)]) (t_X3_weigh_42 hX hS s7 x1 hs7) FU 0)
  · refine tr_aload_n 0 hX dX3_weigh_19 rfl rfl ?_
    refine tr_getF hX dX3_weigh_20 sh_53 (by decide) rfl inlX3 (by decide) rfl (hS.g (Nat.le_of_ble_eq_true rfl)) cr_53_7 k_4_19 mq_53 ?_
    refine tr_iload_n 2 hX dX3_weigh_23 rfl rfl ?_
    refine tr_aload_n 0 hX dX3_weigh_24 rfl rfl ?_
    refine tr_getF hX dX3_weigh_25 sh_53 (by decide) rfl inlX3 (by decide) rfl (hS.g (Nat.le_of_ble_eq_true rfl)) cr_53_0 k_4_23 mq_53 ?_
    refine tr_iload_n 1 hX dX3_weigh_28 rfl rfl ?_
    refine tr_iload_n 2 hX dX3_weigh_29 rfl rfl ?_
    refine tr_callV0I (st := [.int x2, .ref (cxAd X 72)]) 2 hX hS dX3_weigh_30 (ok_X7_unlikeSpans x1 x2) sh_73 (by decide) rfl (Nat.le_of_ble_eq_true rfl) k_21_15 k_21_16 k_21_17 k_4_22 k_21_18 hy_X7_unlikeSpans rfl rfl (Nat.le_of_ble_eq_true rfl) rfl (fun v1 => ?_)
    refine tr_iast hX dX3_weigh_33 sh_72 (hS.e (Nat.le_of_ble_eq_true rfl)) (fun _ => ?_)
    refine tr_iinc (x2 + 1) 2 hX dX3_weigh_34 rfl (congrArg (fun z => x2 + z) (by decide)) (hS.n (by decide)) rfl ?_
    refine tr_goto 13 hX dX3_weigh_37 (by decide) ?_
    exact tr_sub [1, 2, 0] rfl (hs13 (x2 + 1))
def f_X3_weigh_7 (s7 : Int32 → M Unit) (x1 : Int32) : M Unit :=
  if x1 < 0 then (wI 53 1 1000000 (wL 53 2 0 (fix1 FU (f_X3_weigh_81) 0))) else (fix1 FU (f_X3_weigh_13 s7 x1) 0)
set_option maxRecDepth 10000 in
set_option maxHeartbeats 4000000 in
theorem t_X3_weigh_7 {X : Cx} (hX : Good X RX3 cX3_weigh (none)) (hS : Sta X 3 81 3) : ∀ s7 : Int32 → M Unit, (∀ x1 : Int32, Tr X eU 0 0 7 [(0, .ref (cxAd X 53)), (1, .int x1)] [] (s7 x1)) → ∀ x1 : Int32, Tr X eU 0 0 7 [(0, .ref (cxAd X 53)), (1, .int x1)] [] (f_X3_weigh_7 s7 x1) := by
  intro s7 hs7 x1
  unfold f_X3_weigh_7
  refine tr_iload_n 1 hX dX3_weigh_7 rfl rfl ?_
  refine tr_if_lt 68 hX dX3_weigh_8 (by decide) (fun c1 => ?_) (fun c1 => ?_)
  · refine tr_aload_n 0 hX dX3_weigh_68 rfl rfl ?_
    refine tr_ldc hX dX3_weigh_69 k_21_12 ?_
    refine tr_putI hX dX3_weigh_71 sh_53 (by decide) rfl inlX3 tyX3 tyX3_ok nmX3 (by decide) rfl (hS.e (Nat.le_of_ble_eq_true rfl)) k_21_13 rfl rfl rfl rfl ?_
    refine tr_aload_n 0 hX dX3_weigh_74 rfl rfl ?_
    refine tr_lconst 0 hX dX3_weigh_75 (by decide) ?_
    refine tr_putL hX dX3_weigh_76 sh_53 (by decide) rfl inlX3 tyX3 tyX3_ok nmX3 (by decide) rfl (hS.e (Nat.le_of_ble_eq_true rfl)) k_21_14 rfl rfl rfl rfl ?_
    refine tr_iconst 0 hX dX3_weigh_79 (by decide) ?_
    refine tr_istore_n hX dX3_weigh_80 rfl (hS.n (by decide)) rfl ?_
    exact tr_sub [1, 0] rfl (tr_fix1 (lvf := fun x1 => [(0, .ref (cxAd X 53)), (1, .int x1)]) (t_X3_weigh_81 hX hS) FU 0)
  · refine tr_iconst 0 hX dX3_weigh_11 (by decide) ?_
    refine tr_istore_n hX dX3_weigh_12 rfl (hS.n (by decide)) rfl ?_
    exact tr_sub [1, 2, 0] rfl (tr_fix1 (lvf := fun x2 => [(0, .ref (cxAd X 53)), (1, .int x1), (2, .int x2)]) (t_X3_weigh_13 hX hS s7 x1 hs7) FU 0)
def f_X3_weigh  : M Unit :=
  rI 53 4 (fun v1 => nm ((v1 - 1)) (fun v2 => fix1 FU (f_X3_weigh_7) v2))
set_option maxRecDepth 10000 in
set_option maxHeartbeats 4000000 in
theorem t_X3_weigh_0 {X : Cx} (hX : Good X RX3 cX3_weigh (none)) (hS : Sta X 3 81 3) : Tr X eU 0 0 0 [(0, .ref (cxAd X 53))] [] (f_X3_weigh) := by
  unfold f_X3_weigh
  refine tr_aload_n 0 hX dX3_weigh_0 rfl rfl ?_
  refine tr_getI hX dX3_weigh_1 sh_53 (by decide) rfl inlX3 (by decide) rfl (hS.e (Nat.le_of_ble_eq_true rfl)) k_20_1 (fun v1 => ?_)
  refine tr_iconst 1 hX dX3_weigh_4 (by decide) ?_
  refine tr_isub hX dX3_weigh_5 ?_
  refine tr_nm (fun v2 ev2 => ?_)
  refine tr_istore_n hX dX3_weigh_6 rfl (hS.n (by decide)) rfl ?_
  exact tr_sub [1, 0] rfl (tr_fix1 (lvf := fun x1 => [(0, .ref (cxAd X 53)), (1, .int x1)]) (t_X3_weigh_7 hX hS) FU v2)
theorem ok_X3_weigh {l : Launch} {E : Ev}   : Ok l E Gall yX3_weigh cX3_weigh 3 (none) (rmz 3 81) eU [.ref (E.2.1 53)] (f_X3_weigh) := by
  refine ok_of0 (by decide) (Nat.le_of_ble_eq_true rfl) (fun X hX hV hS => ?_)
  subst hV
  exact t_X3_weigh_0 hX hS 
def f_X3_unlikeWith (x1 : Int32) (x2 : Int32) (x3 : Int32) (x4 : Int32) : M Int32 :=
  bnd (f_X7_unlikeTies x1 x2 x4) (fun v1 => if x1 = 0 then (rt v1) else (bnd (f_X7_rightHalves (x1 - 1) 1 x2 x4) (fun v2 => nm ((x3 &&& v2)) (fun v3 => bnd (f_X7_unlikeSpans (x1 - 1) v3) (fun v4 => rt (v1 + v4))))))
set_option maxRecDepth 10000 in
set_option maxHeartbeats 4000000 in
theorem t_X3_unlikeWith_0 {X : Cx} (hX : Good X RX3 cX3_unlikeWith ((some .int))) (hS : Sta X 2 49 7) (x1 : Int32) (x2 : Int32) (x3 : Int32) (x4 : Int32) : Tr X eI 0 0 0 [(0, .ref (cxAd X 53)), (1, .int x1), (2, .int x2), (3, .int x3), (4, .int x4)] [] (f_X3_unlikeWith x1 x2 x3 x4) := by
  unfold f_X3_unlikeWith
  refine tr_aload_n 0 hX dX3_unlikeWith_0 rfl rfl ?_
  refine tr_getF hX dX3_unlikeWith_1 sh_53 (by decide) rfl inlX3 (by decide) rfl (hS.g (Nat.le_of_ble_eq_true rfl)) cr_53_0 k_4_23 mq_53 ?_
  refine tr_iload_n 1 hX dX3_unlikeWith_4 rfl rfl ?_
  refine tr_iload_n 2 hX dX3_unlikeWith_5 rfl rfl ?_
  refine tr_iload 4 hX dX3_unlikeWith_6 rfl ?_
  refine tr_callV0I (st := []) 3 hX hS dX3_unlikeWith_8 (ok_X7_unlikeTies x1 x2 x4) sh_73 (by decide) rfl (Nat.le_of_ble_eq_true rfl) k_22_13 k_22_14 k_22_15 k_4_22 k_22_16 hy_X7_unlikeTies rfl rfl (Nat.le_of_ble_eq_true rfl) rfl (fun v1 => ?_)
  refine tr_istore hX dX3_unlikeWith_11 (hS.n (by decide)) rfl ?_
  refine tr_iload_n 2 hX dX3_unlikeWith_13 rfl rfl ?_
  refine tr_if_ne 20 hX dX3_unlikeWith_14 (by decide) (fun c5 => ?_) (fun c5 => ?_)
  · refine tr_iload 0 hX dX3_unlikeWith_17 rfl ?_
    exact tr_iret0 hX hS dX3_unlikeWith_19
  · refine tr_iload_n 4 hX dX3_unlikeWith_20 rfl rfl ?_
    refine tr_aload_n 1 hX dX3_unlikeWith_21 rfl rfl ?_
    refine tr_getF hX dX3_unlikeWith_22 sh_53 (by decide) rfl inlX3 (by decide) rfl (hS.g (Nat.le_of_ble_eq_true rfl)) cr_53_0 k_4_23 mq_53 ?_
    refine tr_iload_n 2 hX dX3_unlikeWith_25 rfl rfl ?_
    refine tr_iconst 1 hX dX3_unlikeWith_26 (by decide) ?_
    refine tr_isub hX dX3_unlikeWith_27 ?_
    refine tr_iconst 1 hX dX3_unlikeWith_28 (by decide) ?_
    refine tr_iload_n 3 hX dX3_unlikeWith_29 rfl rfl ?_
    refine tr_iload 5 hX dX3_unlikeWith_30 rfl ?_
    refine tr_callV0I (st := [.int x3]) 4 hX hS dX3_unlikeWith_32 (ok_X7_rightHalves (x1 - 1) 1 x2 x4) sh_73 (by decide) rfl (Nat.le_of_ble_eq_true rfl) k_22_7 k_22_8 k_22_9 k_4_22 k_22_10 hy_X7_rightHalves rfl rfl (Nat.le_of_ble_eq_true rfl) rfl (fun v2 => ?_)
    refine tr_iand hX dX3_unlikeWith_35 ?_
    refine tr_nm (fun v3 ev3 => ?_)
    refine tr_istore hX dX3_unlikeWith_36 (hS.n (by decide)) rfl ?_
    refine tr_iload 1 hX dX3_unlikeWith_38 rfl ?_
    refine tr_aload_n 2 hX dX3_unlikeWith_40 rfl rfl ?_
    refine tr_getF hX dX3_unlikeWith_41 sh_53 (by decide) rfl inlX3 (by decide) rfl (hS.g (Nat.le_of_ble_eq_true rfl)) cr_53_0 k_4_23 mq_53 ?_
    refine tr_iload_n 3 hX dX3_unlikeWith_44 rfl rfl ?_
    refine tr_iconst 1 hX dX3_unlikeWith_45 (by decide) ?_
    refine tr_isub hX dX3_unlikeWith_46 ?_
    refine tr_iload 0 hX dX3_unlikeWith_47 rfl ?_
    refine tr_callV0I (st := [.int v1]) 2 hX hS dX3_unlikeWith_49 (ok_X7_unlikeSpans (x1 - 1) v3) sh_73 (by decide) rfl (Nat.le_of_ble_eq_true rfl) k_21_15 k_21_16 k_21_17 k_4_22 k_21_18 hy_X7_unlikeSpans rfl rfl (Nat.le_of_ble_eq_true rfl) rfl (fun v4 => ?_)
    refine tr_iadd hX dX3_unlikeWith_52 ?_
    exact tr_iret0 hX hS dX3_unlikeWith_53
theorem ok_X3_unlikeWith {l : Launch} {E : Ev} (x1 : Int32) (x2 : Int32) (x3 : Int32) (x4 : Int32)  : Ok l E Gall yX3_unlikeWith cX3_unlikeWith 7 ((some .int)) (rmz 2 49) eI [.ref (E.2.1 53), .int x1, .int x2, .int x3, .int x4] (f_X3_unlikeWith x1 x2 x3 x4) := by
  refine ok_of0 (by decide) (Nat.le_of_ble_eq_true rfl) (fun X hX hV hS => ?_)
  subst hV
  exact t_X3_unlikeWith_0 hX hS x1 x2 x3 x4
def f_X3_lowestRow_106 (s14 : Int32 → Int32 → Int32 → Int32 → M Unit) (x1 : Nat) (x2 : Int32) (x3 : Int32) (x4 : Int32) (x5 : Int32) : M Unit :=
  s14 x2 x3 x4 (x5 + 1)
set_option maxRecDepth 10000 in
set_option maxHeartbeats 4000000 in
theorem t_X3_lowestRow_106 {X : Cx} (hX : Good X RX3 cX3_lowestRow (none)) (hS : Sta X 3 75 9) (s14 : Int32 → Int32 → Int32 → Int32 → M Unit) (x1 : Nat) (x2 : Int32) (x3 : Int32) (x4 : Int32) (x5 : Int32) (hx1 : isI x1 8) (hs14 : ∀ x2 : Int32, ∀ x3 : Int32, ∀ x4 : Int32, ∀ x5 : Int32, Tr X eU 0 0 14 [(0, .ref (cxAd X 53)), (1, .ref (cxAd X x1)), (2, .int x2), (3, .int x3), (4, .int x4), (5, .int x5)] [] (s14 x2 x3 x4 x5)) : Tr X eU 0 0 106 [(0, .ref (cxAd X 53)), (1, .ref (cxAd X x1)), (2, .int x2), (3, .int x3), (4, .int x4), (5, .int x5)] [] (f_X3_lowestRow_106 s14 x1 x2 x3 x4 x5) := by
  unfold f_X3_lowestRow_106
  refine tr_iinc (x5 + 1) 5 hX dX3_lowestRow_106 rfl (congrArg (fun z => x5 + z) (by decide)) (hS.n (by decide)) rfl ?_
  refine tr_goto 14 hX dX3_lowestRow_109 (by decide) ?_
  exact tr_sub [1, 2, 3, 4, 5, 0] rfl (hs14 x2 x3 x4 (x5 + 1))
def f_X3_lowestRow_26 (s14 : Int32 → Int32 → Int32 → Int32 → M Unit) (x1 : Nat) (x2 : Int32) (x3 : Int32) (x4 : Int32) (x5 : Int32) (s26 : Int32 → M Unit) (x6 : Int32) : M Unit :=
  rI 53 3 (fun v1 => if v1 ≤ x6 then (f_X3_lowestRow_106 s14 x1 x2 x3 x4 x5) else (bnd (f_X3_unlikeWith x5 x3 x4 x6) (fun v2 => bnd (f_X3_stateOf x5 x3 x6) (fun v3 => gd (inb x5 8) (aI (54 + 1 + x5.toNatClampNeg) 128 v3 (fun v5 => if (v2 + v5) = x2 then (sI x1 8 x5 x6 (nm ((x2 - v2)) (fun v7 => gd (¬ (8 : Int32) = 0) (nm ((v3 - v3 / 8 * 8)) (fun v8 => f_X3_lowestRow_106 s14 x1 v7 x6 v8 x5))))) else (s26 (x6 + 1))))))))
set_option maxRecDepth 10000 in
set_option maxHeartbeats 4000000 in
theorem t_X3_lowestRow_26 {X : Cx} (hX : Good X RX3 cX3_lowestRow (none)) (hS : Sta X 3 75 9) (s14 : Int32 → Int32 → Int32 → Int32 → M Unit) (x1 : Nat) (x2 : Int32) (x3 : Int32) (x4 : Int32) (x5 : Int32) (hx1 : isI x1 8) (hs14 : ∀ x2 : Int32, ∀ x3 : Int32, ∀ x4 : Int32, ∀ x5 : Int32, Tr X eU 0 0 14 [(0, .ref (cxAd X 53)), (1, .ref (cxAd X x1)), (2, .int x2), (3, .int x3), (4, .int x4), (5, .int x5)] [] (s14 x2 x3 x4 x5)) : ∀ s26 : Int32 → M Unit, (∀ x6 : Int32, Tr X eU 0 0 26 [(0, .ref (cxAd X 53)), (1, .ref (cxAd X x1)), (2, .int x2), (3, .int x3), (4, .int x4), (5, .int x5), (6, .int x6)] [] (s26 x6)) → ∀ x6 : Int32, Tr X eU 0 0 26 [(0, .ref (cxAd X 53)), (1, .ref (cxAd X x1)), (2, .int x2), (3, .int x3), (4, .int x4), (5, .int x5), (6, .int x6)] [] (f_X3_lowestRow_26 s14 x1 x2 x3 x4 x5 s26 x6) := by
  intro s26 hs26 x6
  unfold f_X3_lowestRow_26
  refine tr_iload 6 hX dX3_lowestRow_26 rfl ?_
  refine tr_aload_n 0 hX dX3_lowestRow_28 rfl rfl ?_
  refine tr_getI hX dX3_lowestRow_29 sh_53 (by decide) rfl inlX3 (by decide) rfl (hS.e (Nat.le_of_ble_eq_true rfl)) k_20_3 (fun v1 => ?_)
  refine tr_ic_ge 106 hX dX3_lowestRow_32 (by decide) (fun c10 => ?_) (fun c10 => ?_)
  · exact tr_sub [0, 1, 2, 3, 4, 5] rfl (t_X3_lowestRow_106 hX hS s14 x1 x2 x3 x4 x5 (hx1) hs14)
  · refine tr_aload_n 0 hX dX3_lowestRow_35 rfl rfl ?_
    refine tr_iload 5 hX dX3_lowestRow_36 rfl ?_
    refine tr_iload_n 3 hX dX3_lowestRow_38 rfl rfl ?_
    refine tr_iload 4 hX dX3_lowestRow_39 rfl ?_
    refine tr_iload 6 hX dX3_lowestRow_41 rfl ?_
    refine tr_callV0I (st := []) 4 hX hS dX3_lowestRow_43 (ok_X3_unlikeWith x5 x3 x4 x6) sh_53 (by decide) rfl (Nat.le_of_ble_eq_true rfl) k_24_11 k_24_12 k_24_13 k_2_10 k_24_14 hy_X3_unlikeWith rfl rfl (Nat.le_of_ble_eq_true rfl) rfl (fun v2 => ?_)
    refine tr_istore hX dX3_lowestRow_46 (hS.n (by decide)) rfl ?_
    refine tr_aload_n 1 hX dX3_lowestRow_48 rfl rfl ?_
    refine tr_iload 6 hX dX3_lowestRow_49 rfl ?_
    refine tr_iload_n 4 hX dX3_lowestRow_51 rfl rfl ?_
    refine tr_iload 7 hX dX3_lowestRow_52 rfl ?_
    refine tr_callV0I (st := []) 3 hX hS dX3_lowestRow_54 (ok_X3_stateOf x5 x3 x6) sh_53 (by decide) rfl (Nat.le_of_ble_eq_true rfl) k_22_3 k_22_4 k_22_5 k_2_10 k_22_6 hy_X3_stateOf rfl rfl (Nat.le_of_ble_eq_true rfl) rfl (fun v3 => ?_)
    refine tr_istore hX dX3_lowestRow_57 (hS.n (by decide)) rfl ?_
    refine tr_iload 1 hX dX3_lowestRow_59 rfl ?_
    refine tr_aload_n 2 hX dX3_lowestRow_61 rfl rfl ?_
    refine tr_getF hX dX3_lowestRow_62 sh_53 (by decide) rfl inlX3 (by decide) rfl (hS.g (Nat.le_of_ble_eq_true rfl)) cr_53_5 k_4_15 mq_53 ?_
    refine tr_iload 7 hX dX3_lowestRow_65 rfl ?_
    refine tr_aald hX dX3_lowestRow_67 sh_54 (hS.e (Nat.le_of_ble_eq_true rfl)) (fun hb4 => ?_)
    refine tr_iload 0 hX dX3_lowestRow_68 rfl ?_
    refine tr_iald hX dX3_lowestRow_70 (row_54 hb4).1 (hS.e (row_54 hb4).2) (fun hb6 v5 => ?_)
    refine tr_iadd hX dX3_lowestRow_71 ?_
    refine tr_iload_n 4 hX dX3_lowestRow_72 rfl rfl ?_
    refine tr_ic_ne 100 hX dX3_lowestRow_73 (by decide) (fun c9 => ?_) (fun c9 => ?_)
    · refine tr_aload_n 3 hX dX3_lowestRow_76 rfl rfl ?_
      refine tr_iload 7 hX dX3_lowestRow_77 rfl ?_
      refine tr_iload 8 hX dX3_lowestRow_79 rfl ?_
      refine tr_iast hX dX3_lowestRow_81 (hx1).1 (hS.e (hx1).2) (fun _ => ?_)
      refine tr_iload_n 4 hX dX3_lowestRow_82 rfl rfl ?_
      refine tr_iload 1 hX dX3_lowestRow_83 rfl ?_
      refine tr_isub hX dX3_lowestRow_85 ?_
      refine tr_nm (fun v7 ev7 => ?_)
      refine tr_istore_n hX dX3_lowestRow_86 rfl (hS.n (by decide)) rfl ?_
      refine tr_iload 1 hX dX3_lowestRow_87 rfl ?_
      refine tr_bipush 8 hX dX3_lowestRow_89 (by decide) ?_
      refine tr_irem hX dX3_lowestRow_91 (fun _ => ?_)
      refine tr_nm (fun v8 ev8 => ?_)
      refine tr_istore hX dX3_lowestRow_92 (hS.n (by decide)) rfl ?_
      refine tr_iload 8 hX dX3_lowestRow_94 rfl ?_
      refine tr_istore_n hX dX3_lowestRow_96 rfl (hS.n (by decide)) rfl ?_
      refine tr_goto 106 hX dX3_lowestRow_97 (by decide) ?_
      exact tr_sub [5, 6, 2, 0, 1, 7] rfl (t_X3_lowestRow_106 hX hS s14 x1 v7 x6 v8 x5 (hx1) hs14)
    · refine tr_iinc (x6 + 1) 8 hX dX3_lowestRow_100 rfl (congrArg (fun z => x6 + z) (by decide)) (hS.n (by decide)) rfl ?_
      refine tr_goto 26 hX dX3_lowestRow_103 (by decide) ?_
      exact tr_sub [3, 4, 5, 6, 7, 8, 0] rfl (hs26 (x6 + 1))
def f_X3_lowestRow_14 (x1 : Nat) (s14 : Int32 → Int32 → Int32 → Int32 → M Unit) (x2 : Int32) (x3 : Int32) (x4 : Int32) (x5 : Int32) : M Unit :=
  rI 53 4 (fun v1 => if v1 ≤ x5 then (rt ()) else (fix1 FU (f_X3_lowestRow_26 s14 x1 x2 x3 x4 x5) 0))
set_option maxRecDepth 10000 in
set_option maxHeartbeats 4000000 in
theorem t_X3_lowestRow_14 {X : Cx} (hX : Good X RX3 cX3_lowestRow (none)) (hS : Sta X 3 75 9) (x1 : Nat) (hx1 : isI x1 8) : ∀ s14 : Int32 → Int32 → Int32 → Int32 → M Unit, (∀ x2 : Int32, ∀ x3 : Int32, ∀ x4 : Int32, ∀ x5 : Int32, Tr X eU 0 0 14 [(0, .ref (cxAd X 53)), (1, .ref (cxAd X x1)), (2, .int x2), (3, .int x3), (4, .int x4), (5, .int x5)] [] (s14 x2 x3 x4 x5)) → ∀ x2 : Int32, ∀ x3 : Int32, ∀ x4 : Int32, ∀ x5 : Int32, Tr X eU 0 0 14 [(0, .ref (cxAd X 53)), (1, .ref (cxAd X x1)), (2, .int x2), (3, .int x3), (4, .int x4), (5, .int x5)] [] (f_X3_lowestRow_14 x1 s14 x2 x3 x4 x5) := by
  intro s14 hs14 x2 x3 x4 x5
  unfold f_X3_lowestRow_14
  refine tr_iload 5 hX dX3_lowestRow_14 rfl ?_
  refine tr_aload_n 0 hX dX3_lowestRow_16 rfl rfl ?_
  refine tr_getI hX dX3_lowestRow_17 sh_53 (by decide) rfl inlX3 (by decide) rfl (hS.e (Nat.le_of_ble_eq_true rfl)) k_20_1 (fun v1 => ?_)
  refine tr_ic_ge 112 hX dX3_lowestRow_20 (by decide) (fun c2 => ?_) (fun c2 => ?_)
  · exact tr_vret0 hX hS dX3_lowestRow_112
  · refine tr_iconst 0 hX dX3_lowestRow_23 (by decide) ?_
    refine tr_istore hX dX3_lowestRow_24 (hS.n (by decide)) rfl ?_
    exact tr_sub [1, 2, 3, 4, 5, 6, 0] rfl (tr_fix1 (lvf := fun x6 => [(0, .ref (cxAd X 53)), (1, .ref (cxAd X x1)), (2, .int x2), (3, .int x3), (4, .int x4), (5, .int x5), (6, .int x6)]) (t_X3_lowestRow_26 hX hS s14 x1 x2 x3 x4 x5 (hx1) hs14) FU 0)
def f_X3_lowestRow (x1 : Nat) : M Unit :=
  rI 53 1 (fun v1 => fix4 FU (f_X3_lowestRow_14 x1) v1 16 0 0)
set_option maxRecDepth 10000 in
set_option maxHeartbeats 4000000 in
theorem t_X3_lowestRow_0 {X : Cx} (hX : Good X RX3 cX3_lowestRow (none)) (hS : Sta X 3 75 9) (x1 : Nat) (hx1 : isI x1 8) : Tr X eU 0 0 0 [(0, .ref (cxAd X 53)), (1, .ref (cxAd X x1))] [] (f_X3_lowestRow x1) := by
  unfold f_X3_lowestRow
  refine tr_aload_n 0 hX dX3_lowestRow_0 rfl rfl ?_
  refine tr_getI hX dX3_lowestRow_1 sh_53 (by decide) rfl inlX3 (by decide) rfl (hS.e (Nat.le_of_ble_eq_true rfl)) k_21_13 (fun v1 => ?_)
  refine tr_istore_n hX dX3_lowestRow_4 rfl (hS.n (by decide)) rfl ?_
  refine tr_bipush 16 hX dX3_lowestRow_5 (by decide) ?_
  refine tr_istore_n hX dX3_lowestRow_7 rfl (hS.n (by decide)) rfl ?_
  refine tr_iconst 0 hX dX3_lowestRow_8 (by decide) ?_
  refine tr_istore hX dX3_lowestRow_9 (hS.n (by decide)) rfl ?_
  refine tr_iconst 0 hX dX3_lowestRow_11 (by decide) ?_
  refine tr_istore hX dX3_lowestRow_12 (hS.n (by decide)) rfl ?_
  exact tr_sub [4, 5, 3, 2, 1, 0] rfl (tr_fix4 (lvf := fun x2 x3 x4 x5 => [(0, .ref (cxAd X 53)), (1, .ref (cxAd X x1)), (2, .int x2), (3, .int x3), (4, .int x4), (5, .int x5)]) (t_X3_lowestRow_14 hX hS x1 (hx1)) FU v1 16 0 0)
theorem ok_X3_lowestRow {l : Launch} {E : Ev} (x1 : Nat) (hx1 : isI x1 8) : Ok l E Gall yX3_lowestRow cX3_lowestRow 9 (none) (rmz 3 75) eU [.ref (E.2.1 53), .ref (E.2.1 x1)] (f_X3_lowestRow x1) := by
  refine ok_of0 (by decide) (Nat.le_of_ble_eq_true rfl) (fun X hX hV hS => ?_)
  subst hV
  exact t_X3_lowestRow_0 hX hS x1 hx1
def f_X3_farFrom_77 (s9 : Int32 → Int32 → Int32 → M Int32) (s21 : Int32 → Int32 → M Int32) (x1 : Nat) (x2 : Int32) (x3 : Int32) (x4 : Int32) (x5 : Int32) : M Int32 :=
  s21 x2 (x5 + 1)
set_option maxRecDepth 10000 in
set_option maxHeartbeats 4000000 in
theorem t_X3_farFrom_77 {X : Cx} (hX : Good X RX3 cX3_farFrom ((some .int))) (hS : Sta X 3 75 7) (s9 : Int32 → Int32 → Int32 → M Int32) (s21 : Int32 → Int32 → M Int32) (x1 : Nat) (x2 : Int32) (x3 : Int32) (x4 : Int32) (x5 : Int32) (hx1 : isI x1 8) (hs9 : ∀ x2 : Int32, ∀ x3 : Int32, ∀ x4 : Int32, Tr X eI 0 0 9 [(0, .ref (cxAd X 53)), (1, .ref (cxAd X x1)), (2, .int x2), (3, .int x3), (4, .int x4)] [] (s9 x2 x3 x4)) (hs21 : ∀ x2 : Int32, ∀ x5 : Int32, Tr X eI 0 0 21 [(0, .ref (cxAd X 53)), (1, .ref (cxAd X x1)), (2, .int x2), (3, .int x3), (4, .int x4), (5, .int x5)] [] (s21 x2 x5)) : Tr X eI 0 0 77 [(0, .ref (cxAd X 53)), (1, .ref (cxAd X x1)), (2, .int x2), (3, .int x3), (4, .int x4), (5, .int x5)] [] (f_X3_farFrom_77 s9 s21 x1 x2 x3 x4 x5) := by
  unfold f_X3_farFrom_77
  refine tr_iinc (x5 + 1) 5 hX dX3_farFrom_77 rfl (congrArg (fun z => x5 + z) (by decide)) (hS.n (by decide)) rfl ?_
  refine tr_goto 21 hX dX3_farFrom_80 (by decide) ?_
  exact tr_sub [1, 2, 3, 4, 5, 0] rfl (hs21 x2 (x5 + 1))
def f_X3_farFrom_21 (s9 : Int32 → Int32 → Int32 → M Int32) (x1 : Nat) (x3 : Int32) (x4 : Int32) (s21 : Int32 → Int32 → M Int32) (x2 : Int32) (x5 : Int32) : M Int32 :=
  rI 53 3 (fun v1 => if v1 ≤ x5 then (aI x1 8 x4 (fun v2 => s9 x2 v2 (x4 + 1))) else (aI x1 8 x4 (fun v4 => if x5 = v4 then (f_X3_farFrom_77 s9 s21 x1 x2 x3 x4 x5) else (bnd (f_X3_unlikeWith x4 x3 7 x5) (fun v6 => gd (inb x4 8) (bnd (f_X3_stateOf x4 x3 x5) (fun v8 => aI (54 + 1 + x4.toNatClampNeg) 128 v8 (fun v9 => nm ((v6 + v9)) (fun v11 => nm ((if v11 < x2 then v11 else x2)) (fun v12 => f_X3_farFrom_77 s9 s21 x1 v12 x3 x4 x5))))))))))
set_option maxRecDepth 10000 in
set_option maxHeartbeats 4000000 in
theorem t_X3_farFrom_21 {X : Cx} (hX : Good X RX3 cX3_farFrom ((some .int))) (hS : Sta X 3 75 7) (s9 : Int32 → Int32 → Int32 → M Int32) (x1 : Nat) (x3 : Int32) (x4 : Int32) (hx1 : isI x1 8) (hs9 : ∀ x2 : Int32, ∀ x3 : Int32, ∀ x4 : Int32, Tr X eI 0 0 9 [(0, .ref (cxAd X 53)), (1, .ref (cxAd X x1)), (2, .int x2), (3, .int x3), (4, .int x4)] [] (s9 x2 x3 x4)) : ∀ s21 : Int32 → Int32 → M Int32, (∀ x2 : Int32, ∀ x5 : Int32, Tr X eI 0 0 21 [(0, .ref (cxAd X 53)), (1, .ref (cxAd X x1)), (2, .int x2), (3, .int x3), (4, .int x4), (5, .int x5)] [] (s21 x2 x5)) → ∀ x2 : Int32, ∀ x5 : Int32, Tr X eI 0 0 21 [(0, .ref (cxAd X 53)), (1, .ref (cxAd X x1)), (2, .int x2), (3, .int x3), (4, .int x4), (5, .int x5)] [] (f_X3_farFrom_21 s9 x1 x3 x4 s21 x2 x5) := by
  intro s21 hs21 x2 x5
  unfold f_X3_farFrom_21
  refine tr_iload 5 hX dX3_farFrom_21 rfl ?_
  refine tr_aload_n 0 hX dX3_farFrom_23 rfl rfl ?_
  refine tr_getI hX dX3_farFrom_24 sh_53 (by decide) rfl inlX3 (by decide) rfl (hS.e (Nat.le_of_ble_eq_true rfl)) k_20_3 (fun v1 => ?_)
  refine tr_ic_ge 83 hX dX3_farFrom_27 (by decide) (fun c14 => ?_) (fun c14 => ?_)
  · refine tr_aload_n 1 hX dX3_farFrom_83 rfl rfl ?_
    refine tr_iload 4 hX dX3_farFrom_84 rfl ?_
    refine tr_iald hX dX3_farFrom_86 (hx1).1 (hS.e (hx1).2) (fun hb3 v2 => ?_)
    refine tr_istore_n hX dX3_farFrom_87 rfl (hS.n (by decide)) rfl ?_
    refine tr_iinc (x4 + 1) 4 hX dX3_farFrom_88 rfl (congrArg (fun z => x4 + z) (by decide)) (hS.n (by decide)) rfl ?_
    refine tr_goto 9 hX dX3_farFrom_91 (by decide) ?_
    exact tr_sub [2, 3, 4, 1, 0] rfl (hs9 x2 v2 (x4 + 1))
  · refine tr_iload 5 hX dX3_farFrom_30 rfl ?_
    refine tr_aload_n 1 hX dX3_farFrom_32 rfl rfl ?_
    refine tr_iload 4 hX dX3_farFrom_33 rfl ?_
    refine tr_iald hX dX3_farFrom_35 (hx1).1 (hS.e (hx1).2) (fun hb5 v4 => ?_)
    refine tr_ic_eq 77 hX dX3_farFrom_36 (by decide) (fun c13 => ?_) (fun c13 => ?_)
    · exact tr_sub [0, 1, 2, 3, 4, 5] rfl (t_X3_farFrom_77 hX hS s9 s21 x1 x2 x3 x4 x5 (hx1) hs9 hs21)
    · refine tr_aload_n 0 hX dX3_farFrom_39 rfl rfl ?_
      refine tr_iload 4 hX dX3_farFrom_40 rfl ?_
      refine tr_iload_n 3 hX dX3_farFrom_42 rfl rfl ?_
      refine tr_bipush 7 hX dX3_farFrom_43 (by decide) ?_
      refine tr_iload 5 hX dX3_farFrom_45 rfl ?_
      refine tr_callV0I (st := []) 4 hX hS dX3_farFrom_47 (ok_X3_unlikeWith x4 x3 7 x5) sh_53 (by decide) rfl (Nat.le_of_ble_eq_true rfl) k_24_11 k_24_12 k_24_13 k_2_10 k_24_14 hy_X3_unlikeWith rfl rfl (Nat.le_of_ble_eq_true rfl) rfl (fun v6 => ?_)
      refine tr_aload_n 0 hX dX3_farFrom_50 rfl rfl ?_
      refine tr_getF hX dX3_farFrom_51 sh_53 (by decide) rfl inlX3 (by decide) rfl (hS.g (Nat.le_of_ble_eq_true rfl)) cr_53_5 k_4_15 mq_53 ?_
      refine tr_iload 4 hX dX3_farFrom_54 rfl ?_
      refine tr_aald hX dX3_farFrom_56 sh_54 (hS.e (Nat.le_of_ble_eq_true rfl)) (fun hb7 => ?_)
      refine tr_aload_n 0 hX dX3_farFrom_57 rfl rfl ?_
      refine tr_iload 4 hX dX3_farFrom_58 rfl ?_
      refine tr_iload_n 3 hX dX3_farFrom_60 rfl rfl ?_
      refine tr_iload 5 hX dX3_farFrom_61 rfl ?_
      refine tr_callV0I (st := [.ref (cxAd X (54 + 1 + x4.toNatClampNeg)), .int v6]) 3 hX hS dX3_farFrom_63 (ok_X3_stateOf x4 x3 x5) sh_53 (by decide) rfl (Nat.le_of_ble_eq_true rfl) k_22_3 k_22_4 k_22_5 k_2_10 k_22_6 hy_X3_stateOf rfl rfl (Nat.le_of_ble_eq_true rfl) rfl (fun v8 => ?_)
      refine tr_iald hX dX3_farFrom_66 (row_54 hb7).1 (hS.e (row_54 hb7).2) (fun hb10 v9 => ?_)
      refine tr_iadd hX dX3_farFrom_67 ?_
      refine tr_nm (fun v11 ev11 => ?_)
      refine tr_istore hX dX3_farFrom_68 (hS.n (by decide)) rfl ?_
      refine tr_iload_n 3 hX dX3_farFrom_70 rfl rfl ?_
      refine tr_iload 0 hX dX3_farFrom_71 rfl ?_
      refine tr_min hX dX3_farFrom_73 k_26_0 k_26_1 k_20_16 k_26_2 (by rw [hS.2.2.2.2.1]; exact Nat.le_of_ble_eq_true rfl) (by rw [hS.2.2.2.2.1]; exact Nat.le_of_ble_eq_true rfl) (Nat.zero_le _) (Nat.zero_le _) ?_
      refine tr_nm (fun v12 ev12 => ?_)
      refine tr_istore_n hX dX3_farFrom_76 rfl (hS.n (by decide)) rfl ?_
      exact tr_sub [2, 3, 0, 4, 5, 6] rfl (t_X3_farFrom_77 hX hS s9 s21 x1 v12 x3 x4 x5 (hx1) hs9 hs21)
def f_X3_farFrom_9 (x1 : Nat) (s9 : Int32 → Int32 → Int32 → M Int32) (x2 : Int32) (x3 : Int32) (x4 : Int32) : M Int32 :=
  rI 53 4 (fun v1 => if v1 ≤ x4 then (rt x2) else (fix2 FU (f_X3_farFrom_21 s9 x1 x3 x4) x2 0))
set_option maxRecDepth 10000 in
set_option maxHeartbeats 4000000 in
theorem t_X3_farFrom_9 {X : Cx} (hX : Good X RX3 cX3_farFrom ((some .int))) (hS : Sta X 3 75 7) (x1 : Nat) (hx1 : isI x1 8) : ∀ s9 : Int32 → Int32 → Int32 → M Int32, (∀ x2 : Int32, ∀ x3 : Int32, ∀ x4 : Int32, Tr X eI 0 0 9 [(0, .ref (cxAd X 53)), (1, .ref (cxAd X x1)), (2, .int x2), (3, .int x3), (4, .int x4)] [] (s9 x2 x3 x4)) → ∀ x2 : Int32, ∀ x3 : Int32, ∀ x4 : Int32, Tr X eI 0 0 9 [(0, .ref (cxAd X 53)), (1, .ref (cxAd X x1)), (2, .int x2), (3, .int x3), (4, .int x4)] [] (f_X3_farFrom_9 x1 s9 x2 x3 x4) := by
  intro s9 hs9 x2 x3 x4
  unfold f_X3_farFrom_9
  refine tr_iload 4 hX dX3_farFrom_9 rfl ?_
  refine tr_aload_n 0 hX dX3_farFrom_11 rfl rfl ?_
  refine tr_getI hX dX3_farFrom_12 sh_53 (by decide) rfl inlX3 (by decide) rfl (hS.e (Nat.le_of_ble_eq_true rfl)) k_20_1 (fun v1 => ?_)
  refine tr_ic_ge 94 hX dX3_farFrom_15 (by decide) (fun c2 => ?_) (fun c2 => ?_)
  · refine tr_iload_n 2 hX dX3_farFrom_94 rfl rfl ?_
    exact tr_iret0 hX hS dX3_farFrom_95
  · refine tr_iconst 0 hX dX3_farFrom_18 (by decide) ?_
    refine tr_istore hX dX3_farFrom_19 (hS.n (by decide)) rfl ?_
    exact tr_sub [1, 2, 3, 4, 5, 0] rfl (tr_fix2 (lvf := fun x2 x5 => [(0, .ref (cxAd X 53)), (1, .ref (cxAd X x1)), (2, .int x2), (3, .int x3), (4, .int x4), (5, .int x5)]) (t_X3_farFrom_21 hX hS s9 x1 x3 x4 (hx1) hs9) FU x2 0)
def f_X3_farFrom (x1 : Nat) : M Int32 :=
  fix3 FU (f_X3_farFrom_9 x1) 1000000 16 0
set_option maxRecDepth 10000 in
set_option maxHeartbeats 4000000 in
theorem t_X3_farFrom_0 {X : Cx} (hX : Good X RX3 cX3_farFrom ((some .int))) (hS : Sta X 3 75 7) (x1 : Nat) (hx1 : isI x1 8) : Tr X eI 0 0 0 [(0, .ref (cxAd X 53)), (1, .ref (cxAd X x1))] [] (f_X3_farFrom x1) := by
  unfold f_X3_farFrom
  refine tr_ldc hX dX3_farFrom_0 k_21_12 ?_
  refine tr_istore_n hX dX3_farFrom_2 rfl (hS.n (by decide)) rfl ?_
  refine tr_bipush 16 hX dX3_farFrom_3 (by decide) ?_
  refine tr_istore_n hX dX3_farFrom_5 rfl (hS.n (by decide)) rfl ?_
  refine tr_iconst 0 hX dX3_farFrom_6 (by decide) ?_
  refine tr_istore hX dX3_farFrom_7 (hS.n (by decide)) rfl ?_
  exact tr_sub [3, 4, 2, 1, 0] rfl (tr_fix3 (lvf := fun x2 x3 x4 => [(0, .ref (cxAd X 53)), (1, .ref (cxAd X x1)), (2, .int x2), (3, .int x3), (4, .int x4)]) (t_X3_farFrom_9 hX hS x1 (hx1)) FU 1000000 16 0)
theorem ok_X3_farFrom {l : Launch} {E : Ev} (x1 : Nat) (hx1 : isI x1 8) : Ok l E Gall yX3_farFrom cX3_farFrom 7 ((some .int)) (rmz 3 75) eI [.ref (E.2.1 53), .ref (E.2.1 x1)] (f_X3_farFrom x1) := by
  refine ok_of0 (by decide) (Nat.le_of_ble_eq_true rfl) (fun X hX hV hS => ?_)
  subst hV
  exact t_X3_farFrom_0 hX hS x1 hx1
def f_X4_append_20 (x2 : Int64) (s20 : Int32 → M Int32) (x4 : Int32) : M Int32 :=
  if x4 < 0 then (rI 1 1 (fun v1 => rt v1)) else (rI 1 1 (fun v2 => sI 2 300 v2 (vp_nar .byte ((((x2 >>> (((8 * x4) : Int32).toInt64 &&& 63)) : Int64).toInt32 : Int32).toInt8.toInt32)) (rI 1 1 (fun v3 => wI 1 1 (v3 + 1) (s20 (x4 + (-1)))))))
set_option maxRecDepth 10000 in
set_option maxHeartbeats 4000000 in
theorem t_X4_append_20 {X : Cx} (hX : Good X RX4 cX4_append ((some .int))) (hS : Sta X 0 0 5) (x2 : Int64) : ∀ s20 : Int32 → M Int32, (∀ x4 : Int32, Tr X eI 0 0 20 [(0, .ref (cxAd X 1)), (2, .long x2), (4, .int x4)] [] (s20 x4)) → ∀ x4 : Int32, Tr X eI 0 0 20 [(0, .ref (cxAd X 1)), (2, .long x2), (4, .int x4)] [] (f_X4_append_20 x2 s20 x4) := by
  intro s20 hs20 x4
  unfold f_X4_append_20
  refine tr_iload 2 hX dX4_append_20 rfl ?_
  refine tr_if_lt 59 hX dX4_append_22 (by decide) (fun c4 => ?_) (fun c4 => ?_)
  · refine tr_aload_n 0 hX dX4_append_59 rfl rfl ?_
    refine tr_getI hX dX4_append_60 sh_1 (by decide) rfl inlX4 (by decide) rfl (hS.e (Nat.le_of_ble_eq_true rfl)) k_8_0 (fun v1 => ?_)
    exact tr_iret0 hX hS dX4_append_63
  · refine tr_aload_n 0 hX dX4_append_25 rfl rfl ?_
    refine tr_getF hX dX4_append_26 sh_1 (by decide) rfl inlX4 (by decide) rfl (hS.g (Nat.le_of_ble_eq_true rfl)) cr_1_0 k_3_3 mq_1 ?_
    refine tr_aload_n 0 hX dX4_append_29 rfl rfl ?_
    refine tr_getI hX dX4_append_30 sh_1 (by decide) rfl inlX4 (by decide) rfl (hS.e (Nat.le_of_ble_eq_true rfl)) k_8_0 (fun v2 => ?_)
    refine tr_lload_n 1 hX dX4_append_33 rfl rfl ?_
    refine tr_bipush 8 hX dX4_append_34 (by decide) ?_
    refine tr_iload 2 hX dX4_append_36 rfl ?_
    refine tr_imul hX dX4_append_38 ?_
    refine tr_lshr hX dX4_append_39 ?_
    refine tr_l2i hX dX4_append_40 ?_
    refine tr_i2b hX dX4_append_41 ?_
    refine tr_bast hX dX4_append_42 sh_2 (hS.e (Nat.le_of_ble_eq_true rfl)) (fun _ => ?_)
    refine tr_aload_n 0 hX dX4_append_43 rfl rfl ?_
    refine tr_dup hX dX4_append_44 rfl ?_
    refine tr_getI hX dX4_append_45 sh_1 (by decide) rfl inlX4 (by decide) rfl (hS.e (Nat.le_of_ble_eq_true rfl)) k_8_0 (fun v3 => ?_)
    refine tr_iconst 1 hX dX4_append_48 (by decide) ?_
    refine tr_iadd hX dX4_append_49 ?_
    refine tr_putI hX dX4_append_50 sh_1 (by decide) rfl inlX4 tyX4 tyX4_ok nmX4 (by decide) rfl (hS.e (Nat.le_of_ble_eq_true rfl)) k_8_0 rfl rfl rfl rfl ?_
    refine tr_iinc (x4 + (-1)) 2 hX dX4_append_53 rfl (congrArg (fun z => x4 + z) (by decide)) (hS.n (by decide)) rfl ?_
    refine tr_goto 20 hX dX4_append_56 (by decide) ?_
    exact tr_sub [1, 2, 0] rfl (hs20 (x4 + (-1)))
def f_X4_append (x1 : Int32) (x2 : Int64) : M Int32 :=
  rI 1 1 (fun v1 => if (v1 + x1) ≤ 300 then (nm ((x1 - 1)) (fun v2 => fix1 FU (f_X4_append_20 x2) v2)) else (rt (-3)))
set_option maxRecDepth 10000 in
set_option maxHeartbeats 4000000 in
theorem t_X4_append_0 {X : Cx} (hX : Good X RX4 cX4_append ((some .int))) (hS : Sta X 0 0 5) (x1 : Int32) (x2 : Int64) : Tr X eI 0 0 0 [(0, .ref (cxAd X 1)), (1, .int x1), (2, .long x2)] [] (f_X4_append x1 x2) := by
  unfold f_X4_append
  refine tr_aload_n 0 hX dX4_append_0 rfl rfl ?_
  refine tr_getI hX dX4_append_1 sh_1 (by decide) rfl inlX4 (by decide) rfl (hS.e (Nat.le_of_ble_eq_true rfl)) k_8_0 (fun v1 => ?_)
  refine tr_iload_n 1 hX dX4_append_4 rfl rfl ?_
  refine tr_iadd hX dX4_append_5 ?_
  refine tr_sipush 300 hX dX4_append_6 (by decide) ?_
  refine tr_ic_le 15 hX dX4_append_9 (by decide) (fun c3 => ?_) (fun c3 => ?_)
  · refine tr_iload_n 1 hX dX4_append_15 rfl rfl ?_
    refine tr_iconst 1 hX dX4_append_16 (by decide) ?_
    refine tr_isub hX dX4_append_17 ?_
    refine tr_nm (fun v2 ev2 => ?_)
    refine tr_istore hX dX4_append_18 (hS.n (by decide)) rfl ?_
    exact tr_sub [1, 3, 0] rfl (tr_fix1 (lvf := fun x4 => [(0, .ref (cxAd X 1)), (2, .long x2), (4, .int x4)]) (t_X4_append_20 hX hS x2) FU v2)
  · refine tr_bipush (-3) hX dX4_append_12 (by decide) ?_
    exact tr_iret0 hX hS dX4_append_14
theorem ok_X4_append {l : Launch} {E : Ev} (x1 : Int32) (x2 : Int64)  : Ok l E Gall yX4_append cX4_append 5 ((some .int)) (rmz 0 0) eI [.ref (E.2.1 1), .int x1, .long x2] (f_X4_append x1 x2) := by
  refine ok_of0 (by decide) (Nat.le_of_ble_eq_true rfl) (fun X hX hV hS => ?_)
  subst hV
  exact t_X4_append_0 hX hS x1 x2
def f_X4_isFigure_17 (p0 : Int32) : M Int32 :=
  gd (p0 = 0 ∨ p0 = 1) (rt p0)
set_option maxRecDepth 10000 in
set_option maxHeartbeats 4000000 in
theorem t_X4_isFigure_17 {X : Cx} (hX : Good X RX4 cX4_isFigure ((some .boolean))) (hS : Sta X 0 0 1) (p0 : Int32) : Tr X eI 0 0 17 [] [.int p0] (f_X4_isFigure_17 p0) := by
  unfold f_X4_isFigure_17
  exact tr_zret0 hX hS dX4_isFigure_17
def f_X4_isFigure_16  : M Int32 :=
  f_X4_isFigure_17 0
set_option maxRecDepth 10000 in
set_option maxHeartbeats 4000000 in
theorem t_X4_isFigure_16 {X : Cx} (hX : Good X RX4 cX4_isFigure ((some .boolean))) (hS : Sta X 0 0 1) : Tr X eI 0 0 16 [] [] (f_X4_isFigure_16) := by
  unfold f_X4_isFigure_16
  refine tr_iconst 0 hX dX4_isFigure_16 (by decide) ?_
  exact tr_sub [] rfl (t_X4_isFigure_17 hX hS 0)
def f_X4_isFigure (x0 : Int32) : M Int32 :=
  if x0 < 48 then (f_X4_isFigure_16) else (if 57 < x0 then (f_X4_isFigure_16) else (f_X4_isFigure_17 1))
set_option maxRecDepth 10000 in
set_option maxHeartbeats 4000000 in
theorem t_X4_isFigure_0 {X : Cx} (hX : Good X RX4 cX4_isFigure ((some .boolean))) (hS : Sta X 0 0 1) (x0 : Int32) : Tr X eI 0 0 0 [(0, .int x0)] [] (f_X4_isFigure x0) := by
  unfold f_X4_isFigure
  refine tr_iload_n 0 hX dX4_isFigure_0 rfl rfl ?_
  refine tr_bipush 48 hX dX4_isFigure_1 (by decide) ?_
  refine tr_ic_lt 16 hX dX4_isFigure_3 (by decide) (fun c2 => ?_) (fun c2 => ?_)
  · exact tr_sub [] rfl (t_X4_isFigure_16 hX hS)
  · refine tr_iload_n 0 hX dX4_isFigure_6 rfl rfl ?_
    refine tr_bipush 57 hX dX4_isFigure_7 (by decide) ?_
    refine tr_ic_gt 16 hX dX4_isFigure_9 (by decide) (fun c1 => ?_) (fun c1 => ?_)
    · exact tr_sub [] rfl (t_X4_isFigure_16 hX hS)
    · refine tr_iconst 1 hX dX4_isFigure_12 (by decide) ?_
      refine tr_goto 17 hX dX4_isFigure_13 (by decide) ?_
      exact tr_sub [] rfl (t_X4_isFigure_17 hX hS 1)
theorem ok_X4_isFigure {l : Launch} {E : Ev} (x0 : Int32)  : Ok l E Gall yX4_isFigure cX4_isFigure 1 ((some .boolean)) (rmz 0 0) eI [.int x0] (f_X4_isFigure x0) := by
  refine ok_of0 (by decide) (Nat.le_of_ble_eq_true rfl) (fun X hX hV hS => ?_)
  subst hV
  exact t_X4_isFigure_0 hX hS x0
def f_X4_readNumbers_133  : M Int32 :=
  gd ((0 : Int32) = 0 ∨ (0 : Int32) = 1) (rt 0)
set_option maxRecDepth 10000 in
set_option maxHeartbeats 4000000 in
theorem t_X4_readNumbers_133 {X : Cx} (hX : Good X RX4 cX4_readNumbers ((some .boolean))) (hS : Sta X 1 20 6) : Tr X eI 0 0 133 [] [] (f_X4_readNumbers_133) := by
  unfold f_X4_readNumbers_133
  refine tr_iconst 0 hX dX4_readNumbers_133 (by decide) ?_
  exact tr_zret0 hX hS dX4_readNumbers_134
def f_X4_readNumbers_98 (s2 : Int32 → M Int32) (x1 : Int32) (x2 : Int32) (x3 : Int32) (x4 : Int32) (p0 : Int32) : M Int32 :=
  rI 1 2 (fun v1 => if v1 = x3 then (f_X4_readNumbers_133) else (rI 1 2 (fun v2 => rI 1 1 (fun v3 => if v3 ≤ v2 then (f_X4_readNumbers_133) else (rI 1 2 (fun v4 => aI 2 300 v4 (fun v5 => if v5 = p0 then (rI 1 2 (fun v7 => wI 1 2 (v7 + 1) (sI 3 4 x2 x4 (s2 (x2 + 1))))) else (f_X4_readNumbers_133))))))))
set_option maxRecDepth 10000 in
set_option maxHeartbeats 4000000 in
theorem t_X4_readNumbers_98 {X : Cx} (hX : Good X RX4 cX4_readNumbers ((some .boolean))) (hS : Sta X 1 20 6) (s2 : Int32 → M Int32) (x1 : Int32) (x2 : Int32) (x3 : Int32) (x4 : Int32) (p0 : Int32) (hs2 : ∀ x2 : Int32, Tr X eI 0 0 2 [(0, .ref (cxAd X 1)), (1, .int x1), (2, .int x2)] [] (s2 x2)) : Tr X eI 0 0 98 [(0, .ref (cxAd X 1)), (1, .int x1), (2, .int x2), (3, .int x3), (4, .int x4)] [.int p0] (f_X4_readNumbers_98 s2 x1 x2 x3 x4 p0) := by
  unfold f_X4_readNumbers_98
  refine tr_istore hX dX4_readNumbers_98 (hS.n (by decide)) rfl ?_
  refine tr_aload_n 1 hX dX4_readNumbers_100 rfl rfl ?_
  refine tr_getI hX dX4_readNumbers_101 sh_1 (by decide) rfl inlX4 (by decide) rfl (hS.e (Nat.le_of_ble_eq_true rfl)) k_9_4 (fun v1 => ?_)
  refine tr_iload_n 4 hX dX4_readNumbers_104 rfl rfl ?_
  refine tr_ic_eq 133 hX dX4_readNumbers_105 (by decide) (fun c10 => ?_) (fun c10 => ?_)
  · exact tr_sub [] rfl (t_X4_readNumbers_133 hX hS)
  · refine tr_aload_n 1 hX dX4_readNumbers_108 rfl rfl ?_
    refine tr_getI hX dX4_readNumbers_109 sh_1 (by decide) rfl inlX4 (by decide) rfl (hS.e (Nat.le_of_ble_eq_true rfl)) k_9_4 (fun v2 => ?_)
    refine tr_aload_n 1 hX dX4_readNumbers_112 rfl rfl ?_
    refine tr_getI hX dX4_readNumbers_113 sh_1 (by decide) rfl inlX4 (by decide) rfl (hS.e (Nat.le_of_ble_eq_true rfl)) k_8_0 (fun v3 => ?_)
    refine tr_ic_ge 133 hX dX4_readNumbers_116 (by decide) (fun c9 => ?_) (fun c9 => ?_)
    · exact tr_sub [] rfl (t_X4_readNumbers_133 hX hS)
    · refine tr_aload_n 1 hX dX4_readNumbers_119 rfl rfl ?_
      refine tr_getF hX dX4_readNumbers_120 sh_1 (by decide) rfl inlX4 (by decide) rfl (hS.g (Nat.le_of_ble_eq_true rfl)) cr_1_0 k_3_3 mq_1 ?_
      refine tr_aload_n 1 hX dX4_readNumbers_123 rfl rfl ?_
      refine tr_getI hX dX4_readNumbers_124 sh_1 (by decide) rfl inlX4 (by decide) rfl (hS.e (Nat.le_of_ble_eq_true rfl)) k_9_4 (fun v4 => ?_)
      refine tr_bald hX dX4_readNumbers_127 sh_2 (hS.e (Nat.le_of_ble_eq_true rfl)) (fun hb6 v5 => ?_)
      refine tr_iload 0 hX dX4_readNumbers_128 rfl ?_
      refine tr_ic_eq 135 hX dX4_readNumbers_130 (by decide) (fun c8 => ?_) (fun c8 => ?_)
      · refine tr_aload_n 1 hX dX4_readNumbers_135 rfl rfl ?_
        refine tr_dup hX dX4_readNumbers_136 rfl ?_
        refine tr_getI hX dX4_readNumbers_137 sh_1 (by decide) rfl inlX4 (by decide) rfl (hS.e (Nat.le_of_ble_eq_true rfl)) k_9_4 (fun v7 => ?_)
        refine tr_iconst 1 hX dX4_readNumbers_140 (by decide) ?_
        refine tr_iadd hX dX4_readNumbers_141 ?_
        refine tr_putI hX dX4_readNumbers_142 sh_1 (by decide) rfl inlX4 tyX4 tyX4_ok nmX4 (by decide) rfl (hS.e (Nat.le_of_ble_eq_true rfl)) k_9_4 rfl rfl rfl rfl ?_
        refine tr_aload_n 1 hX dX4_readNumbers_145 rfl rfl ?_
        refine tr_getF hX dX4_readNumbers_146 sh_1 (by decide) rfl inlX4 (by decide) rfl (hS.g (Nat.le_of_ble_eq_true rfl)) cr_1_3 k_3_4 mq_1 ?_
        refine tr_iload_n 3 hX dX4_readNumbers_149 rfl rfl ?_
        refine tr_iload 5 hX dX4_readNumbers_150 rfl ?_
        refine tr_iast hX dX4_readNumbers_152 sh_3 (hS.e (Nat.le_of_ble_eq_true rfl)) (fun _ => ?_)
        refine tr_iinc (x2 + 1) 3 hX dX4_readNumbers_153 rfl (congrArg (fun z => x2 + z) (by decide)) (hS.n (by decide)) rfl ?_
        refine tr_goto 2 hX dX4_readNumbers_156 (by decide) ?_
        exact tr_sub [2, 3, 0] rfl (hs2 (x2 + 1))
      · exact tr_sub [] rfl (t_X4_readNumbers_133 hX hS)
def f_X4_readNumbers_84 (s2 : Int32 → M Int32) (x1 : Int32) (x2 : Int32) (x3 : Int32) (x4 : Int32) : M Int32 :=
  if x2 = (x1 - 1) then (f_X4_readNumbers_98 s2 x1 x2 x3 x4 59) else (f_X4_readNumbers_98 s2 x1 x2 x3 x4 44)
set_option maxRecDepth 10000 in
set_option maxHeartbeats 4000000 in
theorem t_X4_readNumbers_84 {X : Cx} (hX : Good X RX4 cX4_readNumbers ((some .boolean))) (hS : Sta X 1 20 6) (s2 : Int32 → M Int32) (x1 : Int32) (x2 : Int32) (x3 : Int32) (x4 : Int32) (hs2 : ∀ x2 : Int32, Tr X eI 0 0 2 [(0, .ref (cxAd X 1)), (1, .int x1), (2, .int x2)] [] (s2 x2)) : Tr X eI 0 0 84 [(0, .ref (cxAd X 1)), (1, .int x1), (2, .int x2), (3, .int x3), (4, .int x4)] [] (f_X4_readNumbers_84 s2 x1 x2 x3 x4) := by
  unfold f_X4_readNumbers_84
  refine tr_iload_n 2 hX dX4_readNumbers_84 rfl rfl ?_
  refine tr_iload_n 1 hX dX4_readNumbers_85 rfl rfl ?_
  refine tr_iconst 1 hX dX4_readNumbers_86 (by decide) ?_
  refine tr_isub hX dX4_readNumbers_87 ?_
  refine tr_ic_ne 96 hX dX4_readNumbers_88 (by decide) (fun c1 => ?_) (fun c1 => ?_)
  · refine tr_bipush 59 hX dX4_readNumbers_91 (by decide) ?_
    refine tr_goto 98 hX dX4_readNumbers_93 (by decide) ?_
    exact tr_sub [0, 1, 2, 3, 4] rfl (t_X4_readNumbers_98 hX hS s2 x1 x2 x3 x4 59 hs2)
  · refine tr_bipush 44 hX dX4_readNumbers_96 (by decide) ?_
    exact tr_sub [0, 1, 2, 3, 4] rfl (t_X4_readNumbers_98 hX hS s2 x1 x2 x3 x4 44 hs2)
def f_X4_readNumbers_15 (s2 : Int32 → M Int32) (x1 : Int32) (x2 : Int32) (x3 : Int32) (s15 : Int32 → M Int32) (x4 : Int32) : M Int32 :=
  rI 1 2 (fun v1 => rI 1 1 (fun v2 => if v2 ≤ v1 then (f_X4_readNumbers_84 s2 x1 x2 x3 x4) else (rI 1 2 (fun v3 => if (x3 + 2) ≤ v3 then (f_X4_readNumbers_84 s2 x1 x2 x3 x4) else (rI 1 2 (fun v4 => aI 2 300 v4 (fun v5 => bnd (f_X4_isFigure v5) (fun v7 => if v7 = 0 then (f_X4_readNumbers_84 s2 x1 x2 x3 x4) else (rI 1 2 (fun v8 => aI 2 300 v8 (fun v9 => nm ((((10 * x4) + v9) - 48)) (fun v11 => rI 1 2 (fun v12 => wI 1 2 (v12 + 1) (s15 v11))))))))))))))
set_option maxRecDepth 10000 in
set_option maxHeartbeats 4000000 in
theorem t_X4_readNumbers_15 {X : Cx} (hX : Good X RX4 cX4_readNumbers ((some .boolean))) (hS : Sta X 1 20 6) (s2 : Int32 → M Int32) (x1 : Int32) (x2 : Int32) (x3 : Int32) (hs2 : ∀ x2 : Int32, Tr X eI 0 0 2 [(0, .ref (cxAd X 1)), (1, .int x1), (2, .int x2)] [] (s2 x2)) : ∀ s15 : Int32 → M Int32, (∀ x4 : Int32, Tr X eI 0 0 15 [(0, .ref (cxAd X 1)), (1, .int x1), (2, .int x2), (3, .int x3), (4, .int x4)] [] (s15 x4)) → ∀ x4 : Int32, Tr X eI 0 0 15 [(0, .ref (cxAd X 1)), (1, .int x1), (2, .int x2), (3, .int x3), (4, .int x4)] [] (f_X4_readNumbers_15 s2 x1 x2 x3 s15 x4) := by
  intro s15 hs15 x4
  unfold f_X4_readNumbers_15
  refine tr_aload_n 0 hX dX4_readNumbers_15 rfl rfl ?_
  refine tr_getI hX dX4_readNumbers_16 sh_1 (by decide) rfl inlX4 (by decide) rfl (hS.e (Nat.le_of_ble_eq_true rfl)) k_9_4 (fun v1 => ?_)
  refine tr_aload_n 0 hX dX4_readNumbers_19 rfl rfl ?_
  refine tr_getI hX dX4_readNumbers_20 sh_1 (by decide) rfl inlX4 (by decide) rfl (hS.e (Nat.le_of_ble_eq_true rfl)) k_8_0 (fun v2 => ?_)
  refine tr_ic_ge 84 hX dX4_readNumbers_23 (by decide) (fun c15 => ?_) (fun c15 => ?_)
  · exact tr_sub [0, 1, 2, 3, 4] rfl (t_X4_readNumbers_84 hX hS s2 x1 x2 x3 x4 hs2)
  · refine tr_aload_n 0 hX dX4_readNumbers_26 rfl rfl ?_
    refine tr_getI hX dX4_readNumbers_27 sh_1 (by decide) rfl inlX4 (by decide) rfl (hS.e (Nat.le_of_ble_eq_true rfl)) k_9_4 (fun v3 => ?_)
    refine tr_iload_n 3 hX dX4_readNumbers_30 rfl rfl ?_
    refine tr_iconst 2 hX dX4_readNumbers_31 (by decide) ?_
    refine tr_iadd hX dX4_readNumbers_32 ?_
    refine tr_ic_ge 84 hX dX4_readNumbers_33 (by decide) (fun c14 => ?_) (fun c14 => ?_)
    · exact tr_sub [0, 1, 2, 3, 4] rfl (t_X4_readNumbers_84 hX hS s2 x1 x2 x3 x4 hs2)
    · refine tr_aload_n 0 hX dX4_readNumbers_36 rfl rfl ?_
      refine tr_getF hX dX4_readNumbers_37 sh_1 (by decide) rfl inlX4 (by decide) rfl (hS.g (Nat.le_of_ble_eq_true rfl)) cr_1_0 k_3_3 mq_1 ?_
      refine tr_aload_n 0 hX dX4_readNumbers_40 rfl rfl ?_
      refine tr_getI hX dX4_readNumbers_41 sh_1 (by decide) rfl inlX4 (by decide) rfl (hS.e (Nat.le_of_ble_eq_true rfl)) k_9_4 (fun v4 => ?_)
      refine tr_bald hX dX4_readNumbers_44 sh_2 (hS.e (Nat.le_of_ble_eq_true rfl)) (fun hb6 v5 => ?_)
      refine tr_callS0I (st := []) 1 hX hS dX4_readNumbers_45 (ok_X4_isFigure v5) k_9_14 k_9_15 k_1_15 k_9_16 hy_X4_isFigure.2 rfl rfl (Nat.le_of_ble_eq_true rfl) rfl (fun v7 => ?_)
      refine tr_if_eq 84 hX dX4_readNumbers_48 (by decide) (fun c13 => ?_) (fun c13 => ?_)
      · exact tr_sub [0, 1, 2, 3, 4] rfl (t_X4_readNumbers_84 hX hS s2 x1 x2 x3 x4 hs2)
      · refine tr_bipush 10 hX dX4_readNumbers_51 (by decide) ?_
        refine tr_iload 4 hX dX4_readNumbers_53 rfl ?_
        refine tr_imul hX dX4_readNumbers_55 ?_
        refine tr_aload_n 0 hX dX4_readNumbers_56 rfl rfl ?_
        refine tr_getF hX dX4_readNumbers_57 sh_1 (by decide) rfl inlX4 (by decide) rfl (hS.g (Nat.le_of_ble_eq_true rfl)) cr_1_0 k_3_3 mq_1 ?_
        refine tr_aload_n 0 hX dX4_readNumbers_60 rfl rfl ?_
        refine tr_getI hX dX4_readNumbers_61 sh_1 (by decide) rfl inlX4 (by decide) rfl (hS.e (Nat.le_of_ble_eq_true rfl)) k_9_4 (fun v8 => ?_)
        refine tr_bald hX dX4_readNumbers_64 sh_2 (hS.e (Nat.le_of_ble_eq_true rfl)) (fun hb10 v9 => ?_)
        refine tr_iadd hX dX4_readNumbers_65 ?_
        refine tr_bipush 48 hX dX4_readNumbers_66 (by decide) ?_
        refine tr_isub hX dX4_readNumbers_68 ?_
        refine tr_nm (fun v11 ev11 => ?_)
        refine tr_istore hX dX4_readNumbers_69 (hS.n (by decide)) rfl ?_
        refine tr_aload_n 1 hX dX4_readNumbers_71 rfl rfl ?_
        refine tr_dup hX dX4_readNumbers_72 rfl ?_
        refine tr_getI hX dX4_readNumbers_73 sh_1 (by decide) rfl inlX4 (by decide) rfl (hS.e (Nat.le_of_ble_eq_true rfl)) k_9_4 (fun v12 => ?_)
        refine tr_iconst 1 hX dX4_readNumbers_76 (by decide) ?_
        refine tr_iadd hX dX4_readNumbers_77 ?_
        refine tr_putI hX dX4_readNumbers_78 sh_1 (by decide) rfl inlX4 tyX4 tyX4_ok nmX4 (by decide) rfl (hS.e (Nat.le_of_ble_eq_true rfl)) k_9_4 rfl rfl rfl rfl ?_
        refine tr_goto 15 hX dX4_readNumbers_81 (by decide) ?_
        exact tr_sub [1, 2, 3, 4, 0] rfl (hs15 v11)
def f_X4_readNumbers_2 (x1 : Int32) (s2 : Int32 → M Int32) (x2 : Int32) : M Int32 :=
  if x1 ≤ x2 then (gd ((1 : Int32) = 0 ∨ (1 : Int32) = 1) (rt 1)) else (rI 1 2 (fun v1 => fix1 FU (f_X4_readNumbers_15 s2 x1 x2 v1) 0))
set_option maxRecDepth 10000 in
set_option maxHeartbeats 4000000 in
theorem t_X4_readNumbers_2 {X : Cx} (hX : Good X RX4 cX4_readNumbers ((some .boolean))) (hS : Sta X 1 20 6) (x1 : Int32) : ∀ s2 : Int32 → M Int32, (∀ x2 : Int32, Tr X eI 0 0 2 [(0, .ref (cxAd X 1)), (1, .int x1), (2, .int x2)] [] (s2 x2)) → ∀ x2 : Int32, Tr X eI 0 0 2 [(0, .ref (cxAd X 1)), (1, .int x1), (2, .int x2)] [] (f_X4_readNumbers_2 x1 s2 x2) := by
  intro s2 hs2 x2
  unfold f_X4_readNumbers_2
  refine tr_iload_n 2 hX dX4_readNumbers_2 rfl rfl ?_
  refine tr_iload_n 1 hX dX4_readNumbers_3 rfl rfl ?_
  refine tr_ic_ge 159 hX dX4_readNumbers_4 (by decide) (fun c2 => ?_) (fun c2 => ?_)
  · refine tr_iconst 1 hX dX4_readNumbers_159 (by decide) ?_
    exact tr_zret0 hX hS dX4_readNumbers_160
  · refine tr_aload_n 0 hX dX4_readNumbers_7 rfl rfl ?_
    refine tr_getI hX dX4_readNumbers_8 sh_1 (by decide) rfl inlX4 (by decide) rfl (hS.e (Nat.le_of_ble_eq_true rfl)) k_9_4 (fun v1 => ?_)
    refine tr_istore_n hX dX4_readNumbers_11 rfl (hS.n (by decide)) rfl ?_
    refine tr_iconst 0 hX dX4_readNumbers_12 (by decide) ?_
    refine tr_istore hX dX4_readNumbers_13 (hS.n (by decide)) rfl ?_
    exact tr_sub [2, 3, 4, 1, 0] rfl (tr_fix1 (lvf := fun x4 => [(0, .ref (cxAd X 1)), (1, .int x1), (2, .int x2), (3, .int v1), (4, .int x4)]) (t_X4_readNumbers_15 hX hS s2 x1 x2 v1 hs2) FU 0)
def f_X4_readNumbers (x1 : Int32) : M Int32 :=
  fix1 FU (f_X4_readNumbers_2 x1) 0
set_option maxRecDepth 10000 in
set_option maxHeartbeats 4000000 in
theorem t_X4_readNumbers_0 {X : Cx} (hX : Good X RX4 cX4_readNumbers ((some .boolean))) (hS : Sta X 1 20 6) (x1 : Int32) : Tr X eI 0 0 0 [(0, .ref (cxAd X 1)), (1, .int x1)] [] (f_X4_readNumbers x1) := by
  unfold f_X4_readNumbers
  refine tr_iconst 0 hX dX4_readNumbers_0 (by decide) ?_
  refine tr_istore_n hX dX4_readNumbers_1 rfl (hS.n (by decide)) rfl ?_
  exact tr_sub [1, 2, 0] rfl (tr_fix1 (lvf := fun x2 => [(0, .ref (cxAd X 1)), (1, .int x1), (2, .int x2)]) (t_X4_readNumbers_2 hX hS x1) FU 0)
theorem ok_X4_readNumbers {l : Launch} {E : Ev} (x1 : Int32)  : Ok l E Gall yX4_readNumbers cX4_readNumbers 6 ((some .boolean)) (rmz 1 20) eI [.ref (E.2.1 1), .int x1] (f_X4_readNumbers x1) := by
  refine ok_of0 (by decide) (Nat.le_of_ble_eq_true rfl) (fun X hX hV hS => ?_)
  subst hV
  exact t_X4_readNumbers_0 hX hS x1
def f_X6_learnHours (x0 : Nat) : M Int32 :=
  aI 3 4 0 (fun v1 => if v1 < 5 then (aI 3 4 0 (fun v3 => aI 3 4 1 (fun v5 => sI (x0 + 5) 5 v3 v5 (gd ((1 : Int32) = 0 ∨ (1 : Int32) = 1) (rt 1))))) else (gd ((0 : Int32) = 0 ∨ (0 : Int32) = 1) (rt 0)))
set_option maxRecDepth 10000 in
set_option maxHeartbeats 4000000 in
theorem t_X6_learnHours_0 {X : Cx} (hX : Good X RX6 cX6_learnHours ((some .boolean))) (hS : Sta X 0 0 2) (x0 : Nat) (hx0 : isT x0) : Tr X eI 0 0 0 [(0, .ref (cxAd X x0)), (1, .ref (cxAd X 3))] [] (f_X6_learnHours x0) := by
  unfold f_X6_learnHours
  refine tr_aload_n 1 hX dX6_learnHours_0 rfl rfl ?_
  refine tr_iconst 0 hX dX6_learnHours_1 (by decide) ?_
  refine tr_iald hX dX6_learnHours_2 sh_3 (hS.e (Nat.le_of_ble_eq_true rfl)) (fun hb2 v1 => ?_)
  refine tr_iconst 5 hX dX6_learnHours_3 (by decide) ?_
  refine tr_ic_lt 9 hX dX6_learnHours_4 (by decide) (fun c7 => ?_) (fun c7 => ?_)
  · refine tr_aload_n 0 hX dX6_learnHours_9 rfl rfl ?_
    refine tr_getF hX dX6_learnHours_10 (shT hx0) (by decide) rfl inlX6 (by decide) rfl (hS.g (leT hx0)) (crT_5 hx0) k_3_13 (mqT hx0) ?_
    refine tr_aload_n 1 hX dX6_learnHours_13 rfl rfl ?_
    refine tr_iconst 0 hX dX6_learnHours_14 (by decide) ?_
    refine tr_iald hX dX6_learnHours_15 sh_3 (hS.e (Nat.le_of_ble_eq_true rfl)) (fun hb4 v3 => ?_)
    refine tr_aload_n 1 hX dX6_learnHours_16 rfl rfl ?_
    refine tr_iconst 1 hX dX6_learnHours_17 (by decide) ?_
    refine tr_iald hX dX6_learnHours_18 sh_3 (hS.e (Nat.le_of_ble_eq_true rfl)) (fun hb6 v5 => ?_)
    refine tr_iast hX dX6_learnHours_19 (shT_5 hx0) (hS.e (leT_5 hx0)) (fun _ => ?_)
    refine tr_iconst 1 hX dX6_learnHours_20 (by decide) ?_
    exact tr_zret0 hX hS dX6_learnHours_21
  · refine tr_iconst 0 hX dX6_learnHours_7 (by decide) ?_
    exact tr_zret0 hX hS dX6_learnHours_8
theorem ok_X6_learnHours {l : Launch} {E : Ev} (x0 : Nat) (hx0 : isT x0) : Ok l E Gall yX6_learnHours cX6_learnHours 2 ((some .boolean)) (rmz 0 0) eI [.ref (E.2.1 x0), .ref (E.2.1 3)] (f_X6_learnHours x0) := by
  refine ok_of0 (by decide) (Nat.le_of_ble_eq_true rfl) (fun X hX hV hS => ?_)
  subst hV
  exact t_X6_learnHours_0 hX hS x0 hx0
def f_X6_learnJoining_2 (x0 : Nat) (s2 : Int32 → M Int32) (x2 : Int32) : M Int32 :=
  if 4 ≤ x2 then (aI 3 4 0 (fun v1 => aI 3 4 1 (fun v3 => aI 3 4 2 (fun v5 => aI 3 4 3 (fun v7 => sI (x0 + 4) 64 ((8 * v1) + v3) ((8 * v5) + v7) (gd ((1 : Int32) = 0 ∨ (1 : Int32) = 1) (rt 1))))))) else (aI 3 4 x2 (fun v9 => if v9 < 8 then (s2 (x2 + 1)) else (gd ((0 : Int32) = 0 ∨ (0 : Int32) = 1) (rt 0))))
set_option maxRecDepth 10000 in
set_option maxHeartbeats 4000000 in
theorem t_X6_learnJoining_2 {X : Cx} (hX : Good X RX6 cX6_learnJoining ((some .boolean))) (hS : Sta X 0 0 3) (x0 : Nat) (hx0 : isT x0) : ∀ s2 : Int32 → M Int32, (∀ x2 : Int32, Tr X eI 0 0 2 [(0, .ref (cxAd X x0)), (1, .ref (cxAd X 3)), (2, .int x2)] [] (s2 x2)) → ∀ x2 : Int32, Tr X eI 0 0 2 [(0, .ref (cxAd X x0)), (1, .ref (cxAd X 3)), (2, .int x2)] [] (f_X6_learnJoining_2 x0 s2 x2) := by
  intro s2 hs2 x2
  unfold f_X6_learnJoining_2
  refine tr_iload_n 2 hX dX6_learnJoining_2 rfl rfl ?_
  refine tr_iconst 4 hX dX6_learnJoining_3 (by decide) ?_
  refine tr_ic_ge 23 hX dX6_learnJoining_4 (by decide) (fun c12 => ?_) (fun c12 => ?_)
  · refine tr_aload_n 0 hX dX6_learnJoining_23 rfl rfl ?_
    refine tr_getF hX dX6_learnJoining_24 (shT hx0) (by decide) rfl inlX6 (by decide) rfl (hS.g (leT hx0)) (crT_4 hx0) k_3_12 (mqT hx0) ?_
    refine tr_bipush 8 hX dX6_learnJoining_27 (by decide) ?_
    refine tr_aload_n 1 hX dX6_learnJoining_29 rfl rfl ?_
    refine tr_iconst 0 hX dX6_learnJoining_30 (by decide) ?_
    refine tr_iald hX dX6_learnJoining_31 sh_3 (hS.e (Nat.le_of_ble_eq_true rfl)) (fun hb2 v1 => ?_)
    refine tr_imul hX dX6_learnJoining_32 ?_
    refine tr_aload_n 1 hX dX6_learnJoining_33 rfl rfl ?_
    refine tr_iconst 1 hX dX6_learnJoining_34 (by decide) ?_
    refine tr_iald hX dX6_learnJoining_35 sh_3 (hS.e (Nat.le_of_ble_eq_true rfl)) (fun hb4 v3 => ?_)
    refine tr_iadd hX dX6_learnJoining_36 ?_
    refine tr_bipush 8 hX dX6_learnJoining_37 (by decide) ?_
    refine tr_aload_n 1 hX dX6_learnJoining_39 rfl rfl ?_
    refine tr_iconst 2 hX dX6_learnJoining_40 (by decide) ?_
    refine tr_iald hX dX6_learnJoining_41 sh_3 (hS.e (Nat.le_of_ble_eq_true rfl)) (fun hb6 v5 => ?_)
    refine tr_imul hX dX6_learnJoining_42 ?_
    refine tr_aload_n 1 hX dX6_learnJoining_43 rfl rfl ?_
    refine tr_iconst 3 hX dX6_learnJoining_44 (by decide) ?_
    refine tr_iald hX dX6_learnJoining_45 sh_3 (hS.e (Nat.le_of_ble_eq_true rfl)) (fun hb8 v7 => ?_)
    refine tr_iadd hX dX6_learnJoining_46 ?_
    refine tr_iast hX dX6_learnJoining_47 (shT_4 hx0) (hS.e (leT_4 hx0)) (fun _ => ?_)
    refine tr_iconst 1 hX dX6_learnJoining_48 (by decide) ?_
    exact tr_zret0 hX hS dX6_learnJoining_49
  · refine tr_aload_n 1 hX dX6_learnJoining_7 rfl rfl ?_
    refine tr_iload_n 2 hX dX6_learnJoining_8 rfl rfl ?_
    refine tr_iald hX dX6_learnJoining_9 sh_3 (hS.e (Nat.le_of_ble_eq_true rfl)) (fun hb10 v9 => ?_)
    refine tr_bipush 8 hX dX6_learnJoining_10 (by decide) ?_
    refine tr_ic_lt 17 hX dX6_learnJoining_12 (by decide) (fun c11 => ?_) (fun c11 => ?_)
    · refine tr_iinc (x2 + 1) 2 hX dX6_learnJoining_17 rfl (congrArg (fun z => x2 + z) (by decide)) (hS.n (by decide)) rfl ?_
      refine tr_goto 2 hX dX6_learnJoining_20 (by decide) ?_
      exact tr_sub [1, 2, 0] rfl (hs2 (x2 + 1))
    · refine tr_iconst 0 hX dX6_learnJoining_15 (by decide) ?_
      exact tr_zret0 hX hS dX6_learnJoining_16
def f_X6_learnJoining (x0 : Nat) : M Int32 :=
  fix1 FU (f_X6_learnJoining_2 x0) 0
set_option maxRecDepth 10000 in
set_option maxHeartbeats 4000000 in
theorem t_X6_learnJoining_0 {X : Cx} (hX : Good X RX6 cX6_learnJoining ((some .boolean))) (hS : Sta X 0 0 3) (x0 : Nat) (hx0 : isT x0) : Tr X eI 0 0 0 [(0, .ref (cxAd X x0)), (1, .ref (cxAd X 3))] [] (f_X6_learnJoining x0) := by
  unfold f_X6_learnJoining
  refine tr_iconst 0 hX dX6_learnJoining_0 (by decide) ?_
  refine tr_istore_n hX dX6_learnJoining_1 rfl (hS.n (by decide)) rfl ?_
  exact tr_sub [1, 2, 0] rfl (tr_fix1 (lvf := fun x2 => [(0, .ref (cxAd X x0)), (1, .ref (cxAd X 3)), (2, .int x2)]) (t_X6_learnJoining_2 hX hS x0 hx0) FU 0)
theorem ok_X6_learnJoining {l : Launch} {E : Ev} (x0 : Nat) (hx0 : isT x0) : Ok l E Gall yX6_learnJoining cX6_learnJoining 3 ((some .boolean)) (rmz 0 0) eI [.ref (E.2.1 x0), .ref (E.2.1 3)] (f_X6_learnJoining x0) := by
  refine ok_of0 (by decide) (Nat.le_of_ble_eq_true rfl) (fun X hX hV hS => ?_)
  subst hV
  exact t_X6_learnJoining_0 hX hS x0 hx0
