def f_X9_list_19  : M Int32 :=
  rt (-1)
set_option maxRecDepth 10000 in
set_option maxHeartbeats 4000000 in
theorem t_X9_list_19 {X : Cx} (hX : Good X RX9 cX9_list ((some .int))) (hS : Sta X 2 45 6) : Tr X eI 0 0 19 [] [] (f_X9_list_19) := by
  unfold f_X9_list_19
  refine tr_iconst (-1) hX dX9_list_19 (by decide) ?_
  exact tr_iret0 hX hS dX9_list_20
def f_X9_list_110 (p0 : Int32) : M Int32 :=
  rt p0
set_option maxRecDepth 10000 in
set_option maxHeartbeats 4000000 in
theorem t_X9_list_110 {X : Cx} (hX : Good X RX9 cX9_list ((some .int))) (hS : Sta X 2 45 6) (p0 : Int32) : Tr X eI 0 0 110 [] [.int p0] (f_X9_list_110 p0) := by
  unfold f_X9_list_110
  exact tr_iret0 hX hS dX9_list_110
def f_X9_list_88 (s26 : Int32 → Int32 → M Int32) (x1 : Int32) (x2 : Int32) (x4 : Int32) (p0 : Int32) (p1 : Int32) : M Int32 :=
  nm ((p1 + p0)) (fun v1 => s26 v1 (x4 + 1))
set_option maxRecDepth 10000 in
set_option maxHeartbeats 4000000 in
theorem t_X9_list_88 {X : Cx} (hX : Good X RX9 cX9_list ((some .int))) (hS : Sta X 2 45 6) (s26 : Int32 → Int32 → M Int32) (x1 : Int32) (x2 : Int32) (x4 : Int32) (p0 : Int32) (p1 : Int32) (hs26 : ∀ x3 : Int32, ∀ x4 : Int32, Tr X eI 0 0 26 [(0, .ref (cxAd X 161)), (1, .int x1), (2, .int x2), (3, .int x3), (4, .int x4)] [] (s26 x3 x4)) : Tr X eI 0 0 88 [(0, .ref (cxAd X 161)), (1, .int x1), (2, .int x2), (4, .int x4)] [.int p0, .int p1] (f_X9_list_88 s26 x1 x2 x4 p0 p1) := by
  unfold f_X9_list_88
  refine tr_iadd hX dX9_list_88 ?_
  refine tr_nm (fun v1 ev1 => ?_)
  refine tr_istore_n hX dX9_list_89 rfl (hS.n (by decide)) rfl ?_
  refine tr_iinc (x4 + 1) 4 hX dX9_list_90 rfl (congrArg (fun z => x4 + z) (by decide)) (hS.n (by decide)) rfl ?_
  refine tr_goto 26 hX dX9_list_93 (by decide) ?_
  exact tr_sub [2, 3, 4, 1, 0] rfl (hs26 v1 (x4 + 1))
def f_X9_list_26 (x1 : Int32) (x2 : Int32) (s26 : Int32 → Int32 → M Int32) (x3 : Int32) (x4 : Int32) : M Int32 :=
  aI 167 18 x1 (fun v1 => if v1 ≤ x4 then (if x2 = 8 then (gd (¬ (16 : Int32) = 0) (f_X9_list_110 (x3 - x3 / 16 * 16))) else (f_X9_list_110 x3)) else (aI 168 144 ((8 * x1) + x4) (fun v4 => nm ((3 * v4)) (fun v6 => if x2 = 8 then (aI 164 96 (v6 + 1) (fun v7 => f_X9_list_88 s26 x1 x2 x4 v7 x3)) else (aI 164 96 v6 (fun v9 => if v9 = x2 then (f_X9_list_88 s26 x1 x2 x4 1 x3) else (f_X9_list_88 s26 x1 x2 x4 0 x3)))))))
set_option maxRecDepth 10000 in
set_option maxHeartbeats 4000000 in
theorem t_X9_list_26 {X : Cx} (hX : Good X RX9 cX9_list ((some .int))) (hS : Sta X 2 45 6) (x1 : Int32) (x2 : Int32) : ∀ s26 : Int32 → Int32 → M Int32, (∀ x3 : Int32, ∀ x4 : Int32, Tr X eI 0 0 26 [(0, .ref (cxAd X 161)), (1, .int x1), (2, .int x2), (3, .int x3), (4, .int x4)] [] (s26 x3 x4)) → ∀ x3 : Int32, ∀ x4 : Int32, Tr X eI 0 0 26 [(0, .ref (cxAd X 161)), (1, .int x1), (2, .int x2), (3, .int x3), (4, .int x4)] [] (f_X9_list_26 x1 x2 s26 x3 x4) := by
  intro s26 hs26 x3 x4
  unfold f_X9_list_26
  refine tr_iload 4 hX dX9_list_26 rfl ?_
  refine tr_aload_n 0 hX dX9_list_28 rfl rfl ?_
  refine tr_getF hX dX9_list_29 sh_161 (by decide) rfl inlX9 (by decide) rfl (hS.g (Nat.le_of_ble_eq_true rfl)) cr_161_6 k_6_16 mq_161 ?_
  refine tr_iload_n 1 hX dX9_list_32 rfl rfl ?_
  refine tr_iald hX dX9_list_33 sh_167 (hS.e (Nat.le_of_ble_eq_true rfl)) (fun hb2 v1 => ?_)
  refine tr_ic_ge 96 hX dX9_list_34 (by decide) (fun c13 => ?_) (fun c13 => ?_)
  · refine tr_iload_n 2 hX dX9_list_96 rfl rfl ?_
    refine tr_bipush 8 hX dX9_list_97 (by decide) ?_
    refine tr_ic_ne 109 hX dX9_list_99 (by decide) (fun c3 => ?_) (fun c3 => ?_)
    · refine tr_iload_n 3 hX dX9_list_102 rfl rfl ?_
      refine tr_bipush 16 hX dX9_list_103 (by decide) ?_
      refine tr_irem hX dX9_list_105 (fun _ => ?_)
      refine tr_goto 110 hX dX9_list_106 (by decide) ?_
      exact tr_sub [] rfl (t_X9_list_110 hX hS (x3 - x3 / 16 * 16))
    · refine tr_iload_n 3 hX dX9_list_109 rfl rfl ?_
      exact tr_sub [] rfl (t_X9_list_110 hX hS x3)
  · refine tr_iconst 3 hX dX9_list_37 (by decide) ?_
    refine tr_aload_n 0 hX dX9_list_38 rfl rfl ?_
    refine tr_getF hX dX9_list_39 sh_161 (by decide) rfl inlX9 (by decide) rfl (hS.g (Nat.le_of_ble_eq_true rfl)) cr_161_7 k_6_17 mq_161 ?_
    refine tr_bipush 8 hX dX9_list_42 (by decide) ?_
    refine tr_iload_n 1 hX dX9_list_44 rfl rfl ?_
    refine tr_imul hX dX9_list_45 ?_
    refine tr_iload 4 hX dX9_list_46 rfl ?_
    refine tr_iadd hX dX9_list_48 ?_
    refine tr_iald hX dX9_list_49 sh_168 (hS.e (Nat.le_of_ble_eq_true rfl)) (fun hb5 v4 => ?_)
    refine tr_imul hX dX9_list_50 ?_
    refine tr_nm (fun v6 ev6 => ?_)
    refine tr_istore hX dX9_list_51 (hS.n (by decide)) rfl ?_
    refine tr_iload_n 4 hX dX9_list_53 rfl rfl ?_
    refine tr_iload_n 3 hX dX9_list_54 rfl rfl ?_
    refine tr_bipush 8 hX dX9_list_55 (by decide) ?_
    refine tr_ic_ne 72 hX dX9_list_57 (by decide) (fun c12 => ?_) (fun c12 => ?_)
    · refine tr_aload_n 1 hX dX9_list_60 rfl rfl ?_
      refine tr_getF hX dX9_list_61 sh_161 (by decide) rfl inlX9 (by decide) rfl (hS.g (Nat.le_of_ble_eq_true rfl)) cr_161_3 k_6_13 mq_161 ?_
      refine tr_iload 0 hX dX9_list_64 rfl ?_
      refine tr_iconst 1 hX dX9_list_66 (by decide) ?_
      refine tr_iadd hX dX9_list_67 ?_
      refine tr_iald hX dX9_list_68 sh_164 (hS.e (Nat.le_of_ble_eq_true rfl)) (fun hb8 v7 => ?_)
      refine tr_goto 88 hX dX9_list_69 (by decide) ?_
      exact tr_sub [1, 2, 3, 5] rfl (t_X9_list_88 hX hS s26 x1 x2 x4 v7 x3 hs26)
    · refine tr_aload_n 1 hX dX9_list_72 rfl rfl ?_
      refine tr_getF hX dX9_list_73 sh_161 (by decide) rfl inlX9 (by decide) rfl (hS.g (Nat.le_of_ble_eq_true rfl)) cr_161_3 k_6_13 mq_161 ?_
      refine tr_iload 0 hX dX9_list_76 rfl ?_
      refine tr_iald hX dX9_list_78 sh_164 (hS.e (Nat.le_of_ble_eq_true rfl)) (fun hb10 v9 => ?_)
      refine tr_iload_n 3 hX dX9_list_79 rfl rfl ?_
      refine tr_ic_ne 87 hX dX9_list_80 (by decide) (fun c11 => ?_) (fun c11 => ?_)
      · refine tr_iconst 1 hX dX9_list_83 (by decide) ?_
        refine tr_goto 88 hX dX9_list_84 (by decide) ?_
        exact tr_sub [1, 2, 3, 5] rfl (t_X9_list_88 hX hS s26 x1 x2 x4 1 x3 hs26)
      · refine tr_iconst 0 hX dX9_list_87 (by decide) ?_
        exact tr_sub [1, 2, 3, 5] rfl (t_X9_list_88 hX hS s26 x1 x2 x4 0 x3 hs26)
def f_X9_list (x1 : Int32) (x2 : Int32) : M Int32 :=
  bnd (f_X9_isVerse x1) (fun v1 => if v1 = 0 then (f_X9_list_19) else (bnd (f_X9_in x2.toInt64 0 8) (fun v2 => if v2 = 0 then (f_X9_list_19) else (fix2 FU (f_X9_list_26 x1 x2) 0 0))))
set_option maxRecDepth 10000 in
set_option maxHeartbeats 4000000 in
theorem t_X9_list_0 {X : Cx} (hX : Good X RX9 cX9_list ((some .int))) (hS : Sta X 2 45 6) (x1 : Int32) (x2 : Int32) : Tr X eI 0 0 0 [(0, .ref (cxAd X 161)), (1, .int x1), (2, .int x2)] [] (f_X9_list x1 x2) := by
  unfold f_X9_list
  refine tr_iload_n 1 hX dX9_list_0 rfl rfl ?_
  refine tr_callS0I (st := []) 1 hX hS dX9_list_1 (ok_X9_isVerse x1) k_13_12 k_13_13 k_1_5 k_13_14 hy_X9_isVerse.2 rfl rfl (Nat.le_of_ble_eq_true rfl) rfl (fun v1 => ?_)
  refine tr_if_eq 19 hX dX9_list_4 (by decide) (fun c4 => ?_) (fun c4 => ?_)
  · exact tr_sub [] rfl (t_X9_list_19 hX hS)
  · refine tr_iload_n 2 hX dX9_list_7 rfl rfl ?_
    refine tr_i2l hX dX9_list_8 ?_
    refine tr_lconst 0 hX dX9_list_9 (by decide) ?_
    refine tr_ldc2 hX dX9_list_10 k_8_5 ?_
    refine tr_callS0I (st := []) 3 hX hS dX9_list_13 (ok_X9_in x2.toInt64 0 8) k_8_8 k_8_9 k_1_5 k_8_10 hy_X9_in.2 rfl rfl (Nat.le_of_ble_eq_true rfl) rfl (fun v2 => ?_)
    refine tr_if_ne 21 hX dX9_list_16 (by decide) (fun c3 => ?_) (fun c3 => ?_)
    · exact tr_sub [] rfl (t_X9_list_19 hX hS)
    · refine tr_iconst 0 hX dX9_list_21 (by decide) ?_
      refine tr_istore_n hX dX9_list_22 rfl (hS.n (by decide)) rfl ?_
      refine tr_iconst 0 hX dX9_list_23 (by decide) ?_
      refine tr_istore hX dX9_list_24 (hS.n (by decide)) rfl ?_
      exact tr_sub [2, 3, 4, 1, 0] rfl (tr_fix2 (lvf := fun x3 x4 => [(0, .ref (cxAd X 161)), (1, .int x1), (2, .int x2), (3, .int x3), (4, .int x4)]) (t_X9_list_26 hX hS x1 x2) FU 0 0)
theorem ok_X9_list {l : Launch} {E : Ev} (x1 : Int32) (x2 : Int32)  : Ok l E Gall yX9_list cX9_list 6 ((some .int)) (rmz 2 45) eI [.ref (E.2.1 161), .int x1, .int x2] (f_X9_list x1 x2) := by
  refine ok_of0 (by decide) (Nat.le_of_ble_eq_true rfl) (fun X hX hV hS => ?_)
  subst hV
  exact t_X9_list_0 hX hS x1 x2
def f_X9_isHead (x1 : Int32) : M Int32 :=
  rI 161 15 (fun v1 => bnd (f_X9_in x1.toInt64 0 (((v1 - 1) : Int32).toInt64)) (fun v2 => gd (v2 = 0 ∨ v2 = 1) (rt v2)))
set_option maxRecDepth 10000 in
set_option maxHeartbeats 4000000 in
theorem t_X9_isHead_0 {X : Cx} (hX : Good X RX9 cX9_isHead ((some .boolean))) (hS : Sta X 1 25 2) (x1 : Int32) : Tr X eI 0 0 0 [(0, .ref (cxAd X 161)), (1, .int x1)] [] (f_X9_isHead x1) := by
  unfold f_X9_isHead
  refine tr_iload_n 1 hX dX9_isHead_0 rfl rfl ?_
  refine tr_i2l hX dX9_isHead_1 ?_
  refine tr_lconst 0 hX dX9_isHead_2 (by decide) ?_
  refine tr_aload_n 0 hX dX9_isHead_3 rfl rfl ?_
  refine tr_getI hX dX9_isHead_4 sh_161 (by decide) rfl inlX9 (by decide) rfl (hS.e (Nat.le_of_ble_eq_true rfl)) k_12_13 (fun v1 => ?_)
  refine tr_iconst 1 hX dX9_isHead_7 (by decide) ?_
  refine tr_isub hX dX9_isHead_8 ?_
  refine tr_i2l hX dX9_isHead_9 ?_
  refine tr_callS0I (st := []) 3 hX hS dX9_isHead_10 (ok_X9_in x1.toInt64 0 (((v1 - 1) : Int32).toInt64)) k_8_8 k_8_9 k_1_5 k_8_10 hy_X9_in.2 rfl rfl (Nat.le_of_ble_eq_true rfl) rfl (fun v2 => ?_)
  exact tr_zret0 hX hS dX9_isHead_13
theorem ok_X9_isHead {l : Launch} {E : Ev} (x1 : Int32)  : Ok l E Gall yX9_isHead cX9_isHead 2 ((some .boolean)) (rmz 1 25) eI [.ref (E.2.1 161), .int x1] (f_X9_isHead x1) := by
  refine ok_of0 (by decide) (Nat.le_of_ble_eq_true rfl) (fun X hX hV hS => ?_)
  subst hV
  exact t_X9_isHead_0 hX hS x1
def f_X9_head_53  : M Int32 :=
  rt (-1)
set_option maxRecDepth 10000 in
set_option maxHeartbeats 4000000 in
theorem t_X9_head_53 {X : Cx} (hX : Good X RX9 cX9_head ((some .int))) (hS : Sta X 2 45 5) : Tr X eI 0 0 53 [] [] (f_X9_head_53) := by
  unfold f_X9_head_53
  refine tr_iconst (-1) hX dX9_head_53 (by decide) ?_
  exact tr_iret0 hX hS dX9_head_54
def f_X9_head_55 (x1 : Int32) (x2 : Int32) (x3 : Int32) : M Int32 :=
  rI 161 15 (fun v1 => if v1 = 16 then (rt (-3)) else (rI 161 15 (fun v2 => nm ((4 * v2)) (fun v3 => sI 174 64 v3 x1 (sI 174 64 (v3 + 1) x2 (sI 174 64 (v3 + 2) x3 (sI 174 64 (v3 + 3) 1 (rI 161 15 (fun v4 => wI 161 15 (v4 + 1) (rI 161 15 (fun v5 => rt (v5 - 1))))))))))))
set_option maxRecDepth 10000 in
set_option maxHeartbeats 4000000 in
theorem t_X9_head_55 {X : Cx} (hX : Good X RX9 cX9_head ((some .int))) (hS : Sta X 2 45 5) (x1 : Int32) (x2 : Int32) (x3 : Int32) : Tr X eI 0 0 55 [(0, .ref (cxAd X 161)), (1, .int x1), (2, .int x2), (3, .int x3)] [] (f_X9_head_55 x1 x2 x3) := by
  unfold f_X9_head_55
  refine tr_aload_n 0 hX dX9_head_55 rfl rfl ?_
  refine tr_getI hX dX9_head_56 sh_161 (by decide) rfl inlX9 (by decide) rfl (hS.e (Nat.le_of_ble_eq_true rfl)) k_12_13 (fun v1 => ?_)
  refine tr_bipush 16 hX dX9_head_59 (by decide) ?_
  refine tr_ic_ne 67 hX dX9_head_61 (by decide) (fun c6 => ?_) (fun c6 => ?_)
  · refine tr_bipush (-3) hX dX9_head_64 (by decide) ?_
    exact tr_iret0 hX hS dX9_head_66
  · refine tr_iconst 4 hX dX9_head_67 (by decide) ?_
    refine tr_aload_n 0 hX dX9_head_68 rfl rfl ?_
    refine tr_getI hX dX9_head_69 sh_161 (by decide) rfl inlX9 (by decide) rfl (hS.e (Nat.le_of_ble_eq_true rfl)) k_12_13 (fun v2 => ?_)
    refine tr_imul hX dX9_head_72 ?_
    refine tr_nm (fun v3 ev3 => ?_)
    refine tr_istore hX dX9_head_73 (hS.n (by decide)) rfl ?_
    refine tr_aload_n 1 hX dX9_head_75 rfl rfl ?_
    refine tr_getF hX dX9_head_76 sh_161 (by decide) rfl inlX9 (by decide) rfl (hS.g (Nat.le_of_ble_eq_true rfl)) cr_161_16 k_6_23 mq_161 ?_
    refine tr_iload 0 hX dX9_head_79 rfl ?_
    refine tr_iload_n 2 hX dX9_head_81 rfl rfl ?_
    refine tr_iast hX dX9_head_82 sh_174 (hS.e (Nat.le_of_ble_eq_true rfl)) (fun _ => ?_)
    refine tr_aload_n 1 hX dX9_head_83 rfl rfl ?_
    refine tr_getF hX dX9_head_84 sh_161 (by decide) rfl inlX9 (by decide) rfl (hS.g (Nat.le_of_ble_eq_true rfl)) cr_161_16 k_6_23 mq_161 ?_
    refine tr_iload 0 hX dX9_head_87 rfl ?_
    refine tr_iconst 1 hX dX9_head_89 (by decide) ?_
    refine tr_iadd hX dX9_head_90 ?_
    refine tr_iload_n 3 hX dX9_head_91 rfl rfl ?_
    refine tr_iast hX dX9_head_92 sh_174 (hS.e (Nat.le_of_ble_eq_true rfl)) (fun _ => ?_)
    refine tr_aload_n 1 hX dX9_head_93 rfl rfl ?_
    refine tr_getF hX dX9_head_94 sh_161 (by decide) rfl inlX9 (by decide) rfl (hS.g (Nat.le_of_ble_eq_true rfl)) cr_161_16 k_6_23 mq_161 ?_
    refine tr_iload 0 hX dX9_head_97 rfl ?_
    refine tr_iconst 2 hX dX9_head_99 (by decide) ?_
    refine tr_iadd hX dX9_head_100 ?_
    refine tr_iload_n 4 hX dX9_head_101 rfl rfl ?_
    refine tr_iast hX dX9_head_102 sh_174 (hS.e (Nat.le_of_ble_eq_true rfl)) (fun _ => ?_)
    refine tr_aload_n 1 hX dX9_head_103 rfl rfl ?_
    refine tr_getF hX dX9_head_104 sh_161 (by decide) rfl inlX9 (by decide) rfl (hS.g (Nat.le_of_ble_eq_true rfl)) cr_161_16 k_6_23 mq_161 ?_
    refine tr_iload 0 hX dX9_head_107 rfl ?_
    refine tr_iconst 3 hX dX9_head_109 (by decide) ?_
    refine tr_iadd hX dX9_head_110 ?_
    refine tr_iconst 1 hX dX9_head_111 (by decide) ?_
    refine tr_iast hX dX9_head_112 sh_174 (hS.e (Nat.le_of_ble_eq_true rfl)) (fun _ => ?_)
    refine tr_aload_n 1 hX dX9_head_113 rfl rfl ?_
    refine tr_dup hX dX9_head_114 rfl ?_
    refine tr_getI hX dX9_head_115 sh_161 (by decide) rfl inlX9 (by decide) rfl (hS.e (Nat.le_of_ble_eq_true rfl)) k_12_13 (fun v4 => ?_)
    refine tr_iconst 1 hX dX9_head_118 (by decide) ?_
    refine tr_iadd hX dX9_head_119 ?_
    refine tr_putI hX dX9_head_120 sh_161 (by decide) rfl inlX9 tyX9 tyX9_ok nmX9 (by decide) rfl (hS.e (Nat.le_of_ble_eq_true rfl)) k_12_13 rfl rfl rfl rfl ?_
    refine tr_aload_n 1 hX dX9_head_123 rfl rfl ?_
    refine tr_getI hX dX9_head_124 sh_161 (by decide) rfl inlX9 (by decide) rfl (hS.e (Nat.le_of_ble_eq_true rfl)) k_12_13 (fun v5 => ?_)
    refine tr_iconst 1 hX dX9_head_127 (by decide) ?_
    refine tr_isub hX dX9_head_128 ?_
    exact tr_iret0 hX hS dX9_head_129
def f_X9_head (x1 : Int32) (x2 : Int32) (x3 : Int32) : M Int32 :=
  bnd (f_X9_in x1.toInt64 0 3000) (fun v1 => if v1 = 0 then (f_X9_head_53) else (rI 161 15 (fun v2 => bnd (f_X9_in x2.toInt64 (-1) (((v2 - 1) : Int32).toInt64)) (fun v3 => if v3 = 0 then (f_X9_head_53) else (bnd (f_X9_isVerse x3) (fun v4 => if v4 = 0 then (f_X9_head_53) else (if x2 < 0 then (f_X9_head_55 x1 x2 x3) else (aI 174 64 (4 * x2) (fun v5 => if v5 < x1 then (f_X9_head_55 x1 x2 x3) else (f_X9_head_53))))))))))
set_option maxRecDepth 10000 in
set_option maxHeartbeats 4000000 in
theorem t_X9_head_0 {X : Cx} (hX : Good X RX9 cX9_head ((some .int))) (hS : Sta X 2 45 5) (x1 : Int32) (x2 : Int32) (x3 : Int32) : Tr X eI 0 0 0 [(0, .ref (cxAd X 161)), (1, .int x1), (2, .int x2), (3, .int x3)] [] (f_X9_head x1 x2 x3) := by
  unfold f_X9_head
  refine tr_iload_n 1 hX dX9_head_0 rfl rfl ?_
  refine tr_i2l hX dX9_head_1 ?_
  refine tr_lconst 0 hX dX9_head_2 (by decide) ?_
  refine tr_ldc2 hX dX9_head_3 k_33_15 ?_
  refine tr_callS0I (st := []) 3 hX hS dX9_head_6 (ok_X9_in x1.toInt64 0 3000) k_8_8 k_8_9 k_1_5 k_8_10 hy_X9_in.2 rfl rfl (Nat.le_of_ble_eq_true rfl) rfl (fun v1 => ?_)
  refine tr_if_eq 53 hX dX9_head_9 (by decide) (fun c11 => ?_) (fun c11 => ?_)
  · exact tr_sub [] rfl (t_X9_head_53 hX hS)
  · refine tr_iload_n 2 hX dX9_head_12 rfl rfl ?_
    refine tr_i2l hX dX9_head_13 ?_
    refine tr_ldc2 hX dX9_head_14 k_33_16 ?_
    refine tr_aload_n 0 hX dX9_head_17 rfl rfl ?_
    refine tr_getI hX dX9_head_18 sh_161 (by decide) rfl inlX9 (by decide) rfl (hS.e (Nat.le_of_ble_eq_true rfl)) k_12_13 (fun v2 => ?_)
    refine tr_iconst 1 hX dX9_head_21 (by decide) ?_
    refine tr_isub hX dX9_head_22 ?_
    refine tr_i2l hX dX9_head_23 ?_
    refine tr_callS0I (st := []) 3 hX hS dX9_head_24 (ok_X9_in x2.toInt64 (-1) (((v2 - 1) : Int32).toInt64)) k_8_8 k_8_9 k_1_5 k_8_10 hy_X9_in.2 rfl rfl (Nat.le_of_ble_eq_true rfl) rfl (fun v3 => ?_)
    refine tr_if_eq 53 hX dX9_head_27 (by decide) (fun c10 => ?_) (fun c10 => ?_)
    · exact tr_sub [] rfl (t_X9_head_53 hX hS)
    · refine tr_iload_n 3 hX dX9_head_30 rfl rfl ?_
      refine tr_callS0I (st := []) 1 hX hS dX9_head_31 (ok_X9_isVerse x3) k_13_12 k_13_13 k_1_5 k_13_14 hy_X9_isVerse.2 rfl rfl (Nat.le_of_ble_eq_true rfl) rfl (fun v4 => ?_)
      refine tr_if_eq 53 hX dX9_head_34 (by decide) (fun c9 => ?_) (fun c9 => ?_)
      · exact tr_sub [] rfl (t_X9_head_53 hX hS)
      · refine tr_iload_n 2 hX dX9_head_37 rfl rfl ?_
        refine tr_if_lt 55 hX dX9_head_38 (by decide) (fun c8 => ?_) (fun c8 => ?_)
        · exact tr_sub [0, 1, 2, 3] rfl (t_X9_head_55 hX hS x1 x2 x3)
        · refine tr_aload_n 0 hX dX9_head_41 rfl rfl ?_
          refine tr_getF hX dX9_head_42 sh_161 (by decide) rfl inlX9 (by decide) rfl (hS.g (Nat.le_of_ble_eq_true rfl)) cr_161_16 k_6_23 mq_161 ?_
          refine tr_iconst 4 hX dX9_head_45 (by decide) ?_
          refine tr_iload_n 2 hX dX9_head_46 rfl rfl ?_
          refine tr_imul hX dX9_head_47 ?_
          refine tr_iald hX dX9_head_48 sh_174 (hS.e (Nat.le_of_ble_eq_true rfl)) (fun hb6 v5 => ?_)
          refine tr_iload_n 1 hX dX9_head_49 rfl rfl ?_
          refine tr_ic_lt 55 hX dX9_head_50 (by decide) (fun c7 => ?_) (fun c7 => ?_)
          · exact tr_sub [0, 1, 2, 3] rfl (t_X9_head_55 hX hS x1 x2 x3)
          · exact tr_sub [] rfl (t_X9_head_53 hX hS)
theorem ok_X9_head {l : Launch} {E : Ev} (x1 : Int32) (x2 : Int32) (x3 : Int32)  : Ok l E Gall yX9_head cX9_head 5 ((some .int)) (rmz 2 45) eI [.ref (E.2.1 161), .int x1, .int x2, .int x3] (f_X9_head x1 x2 x3) := by
  refine ok_of0 (by decide) (Nat.le_of_ble_eq_true rfl) (fun X hX hV hS => ?_)
  subst hV
  exact t_X9_head_0 hX hS x1 x2 x3
def f_X9_isAlive_19 (p0 : Int32) : M Int32 :=
  gd (p0 = 0 ∨ p0 = 1) (rt p0)
set_option maxRecDepth 10000 in
set_option maxHeartbeats 4000000 in
theorem t_X9_isAlive_19 {X : Cx} (hX : Good X RX9 cX9_isAlive ((some .boolean))) (hS : Sta X 0 0 2) (p0 : Int32) : Tr X eI 0 0 19 [] [.int p0] (f_X9_isAlive_19 p0) := by
  unfold f_X9_isAlive_19
  exact tr_zret0 hX hS dX9_isAlive_19
def f_X9_isAlive (x1 : Int32) : M Int32 :=
  aI 174 64 ((4 * x1) + 3) (fun v1 => if v1 = 1 then (f_X9_isAlive_19 1) else (f_X9_isAlive_19 0))
set_option maxRecDepth 10000 in
set_option maxHeartbeats 4000000 in
theorem t_X9_isAlive_0 {X : Cx} (hX : Good X RX9 cX9_isAlive ((some .boolean))) (hS : Sta X 0 0 2) (x1 : Int32) : Tr X eI 0 0 0 [(0, .ref (cxAd X 161)), (1, .int x1)] [] (f_X9_isAlive x1) := by
  unfold f_X9_isAlive
  refine tr_aload_n 0 hX dX9_isAlive_0 rfl rfl ?_
  refine tr_getF hX dX9_isAlive_1 sh_161 (by decide) rfl inlX9 (by decide) rfl (hS.g (Nat.le_of_ble_eq_true rfl)) cr_161_16 k_6_23 mq_161 ?_
  refine tr_iconst 4 hX dX9_isAlive_4 (by decide) ?_
  refine tr_iload_n 1 hX dX9_isAlive_5 rfl rfl ?_
  refine tr_imul hX dX9_isAlive_6 ?_
  refine tr_iconst 3 hX dX9_isAlive_7 (by decide) ?_
  refine tr_iadd hX dX9_isAlive_8 ?_
  refine tr_iald hX dX9_isAlive_9 sh_174 (hS.e (Nat.le_of_ble_eq_true rfl)) (fun hb2 v1 => ?_)
  refine tr_iconst 1 hX dX9_isAlive_10 (by decide) ?_
  refine tr_ic_ne 18 hX dX9_isAlive_11 (by decide) (fun c3 => ?_) (fun c3 => ?_)
  · refine tr_iconst 1 hX dX9_isAlive_14 (by decide) ?_
    refine tr_goto 19 hX dX9_isAlive_15 (by decide) ?_
    exact tr_sub [] rfl (t_X9_isAlive_19 hX hS 1)
  · refine tr_iconst 0 hX dX9_isAlive_18 (by decide) ?_
    exact tr_sub [] rfl (t_X9_isAlive_19 hX hS 0)
theorem ok_X9_isAlive {l : Launch} {E : Ev} (x1 : Int32)  : Ok l E Gall yX9_isAlive cX9_isAlive 2 ((some .boolean)) (rmz 0 0) eI [.ref (E.2.1 161), .int x1] (f_X9_isAlive x1) := by
  refine ok_of0 (by decide) (Nat.le_of_ble_eq_true rfl) (fun X hX hV hS => ?_)
  subst hV
  exact t_X9_isAlive_0 hX hS x1
def f_X9_alive_39 (x3 : Int32) (p0 : Int32) (p1 : Int32) : M Int32 :=
  sI 174 64 p1 p0 (rt x3)
set_option maxRecDepth 10000 in
set_option maxHeartbeats 4000000 in
theorem t_X9_alive_39 {X : Cx} (hX : Good X RX9 cX9_alive ((some .int))) (hS : Sta X 2 46 4) (x3 : Int32) (p0 : Int32) (p1 : Int32) : Tr X eI 0 0 39 [(3, .int x3)] [.int p0, .int p1, .ref (cxAd X 174)] (f_X9_alive_39 x3 p0 p1) := by
  unfold f_X9_alive_39
  refine tr_iast hX dX9_alive_39 sh_174 (hS.e (Nat.le_of_ble_eq_true rfl)) (fun _ => ?_)
  refine tr_iload_n 0 hX dX9_alive_40 rfl rfl ?_
  exact tr_iret0 hX hS dX9_alive_41
def f_X9_alive (x1 : Int32) (x2 : Int32) : M Int32 :=
  bnd (f_X9_isHead x1) (fun v1 => if v1 = 0 then (rt (-1)) else (aI 174 64 ((4 * x1) + 3) (fun v2 => if x2 = 0 then (f_X9_alive_39 v2 0 ((4 * x1) + 3)) else (f_X9_alive_39 v2 1 ((4 * x1) + 3)))))
set_option maxRecDepth 10000 in
set_option maxHeartbeats 4000000 in
theorem t_X9_alive_0 {X : Cx} (hX : Good X RX9 cX9_alive ((some .int))) (hS : Sta X 2 46 4) (x1 : Int32) (x2 : Int32) : Tr X eI 0 0 0 [(0, .ref (cxAd X 161)), (1, .int x1), (2, .int x2)] [] (f_X9_alive x1 x2) := by
  unfold f_X9_alive
  refine tr_aload_n 0 hX dX9_alive_0 rfl rfl ?_
  refine tr_iload_n 1 hX dX9_alive_1 rfl rfl ?_
  refine tr_callV0I (st := []) 1 hX hS dX9_alive_2 (ok_X9_isHead x1) sh_161 (by decide) rfl (Nat.le_of_ble_eq_true rfl) k_34_2 k_34_3 k_34_4 k_1_5 k_34_5 hy_X9_isHead rfl rfl (Nat.le_of_ble_eq_true rfl) rfl (fun v1 => ?_)
  refine tr_if_ne 10 hX dX9_alive_5 (by decide) (fun c5 => ?_) (fun c5 => ?_)
  · refine tr_iconst (-1) hX dX9_alive_8 (by decide) ?_
    exact tr_iret0 hX hS dX9_alive_9
  · refine tr_aload_n 0 hX dX9_alive_10 rfl rfl ?_
    refine tr_getF hX dX9_alive_11 sh_161 (by decide) rfl inlX9 (by decide) rfl (hS.g (Nat.le_of_ble_eq_true rfl)) cr_161_16 k_6_23 mq_161 ?_
    refine tr_iconst 4 hX dX9_alive_14 (by decide) ?_
    refine tr_iload_n 1 hX dX9_alive_15 rfl rfl ?_
    refine tr_imul hX dX9_alive_16 ?_
    refine tr_iconst 3 hX dX9_alive_17 (by decide) ?_
    refine tr_iadd hX dX9_alive_18 ?_
    refine tr_iald hX dX9_alive_19 sh_174 (hS.e (Nat.le_of_ble_eq_true rfl)) (fun hb3 v2 => ?_)
    refine tr_istore_n hX dX9_alive_20 rfl (hS.n (by decide)) rfl ?_
    refine tr_aload_n 1 hX dX9_alive_21 rfl rfl ?_
    refine tr_getF hX dX9_alive_22 sh_161 (by decide) rfl inlX9 (by decide) rfl (hS.g (Nat.le_of_ble_eq_true rfl)) cr_161_16 k_6_23 mq_161 ?_
    refine tr_iconst 4 hX dX9_alive_25 (by decide) ?_
    refine tr_iload_n 2 hX dX9_alive_26 rfl rfl ?_
    refine tr_imul hX dX9_alive_27 ?_
    refine tr_iconst 3 hX dX9_alive_28 (by decide) ?_
    refine tr_iadd hX dX9_alive_29 ?_
    refine tr_iload_n 3 hX dX9_alive_30 rfl rfl ?_
    refine tr_if_eq 38 hX dX9_alive_31 (by decide) (fun c4 => ?_) (fun c4 => ?_)
    · refine tr_iconst 0 hX dX9_alive_38 (by decide) ?_
      exact tr_sub [0] rfl (t_X9_alive_39 hX hS v2 0 ((4 * x1) + 3))
    · refine tr_iconst 1 hX dX9_alive_34 (by decide) ?_
      refine tr_goto 39 hX dX9_alive_35 (by decide) ?_
      exact tr_sub [0] rfl (t_X9_alive_39 hX hS v2 1 ((4 * x1) + 3))
theorem ok_X9_alive {l : Launch} {E : Ev} (x1 : Int32) (x2 : Int32)  : Ok l E Gall yX9_alive cX9_alive 4 ((some .int)) (rmz 2 46) eI [.ref (E.2.1 161), .int x1, .int x2] (f_X9_alive x1 x2) := by
  refine ok_of0 (by decide) (Nat.le_of_ble_eq_true rfl) (fun X hX hV hS => ?_)
  subst hV
  exact t_X9_alive_0 hX hS x1 x2
def f_X9_wordOf_37 (p0 : Int32) : M Int32 :=
  rt p0
set_option maxRecDepth 10000 in
set_option maxHeartbeats 4000000 in
theorem t_X9_wordOf_37 {X : Cx} (hX : Good X RX9 cX9_wordOf ((some .int))) (hS : Sta X 0 0 4) (p0 : Int32) : Tr X eI 0 0 37 [] [.int p0] (f_X9_wordOf_37 p0) := by
  unfold f_X9_wordOf_37
  exact tr_iret0 hX hS dX9_wordOf_37
def f_X9_wordOf (x1 : Int32) (x2 : Int32) : M Int32 :=
  aI 174 64 ((4 * x1) + 2) (fun v1 => aI 167 18 v1 (fun v3 => if v3 ≤ x2 then (f_X9_wordOf_37 (-4)) else (aI 168 144 ((8 * v1) + x2) (fun v5 => f_X9_wordOf_37 v5))))
set_option maxRecDepth 10000 in
set_option maxHeartbeats 4000000 in
theorem t_X9_wordOf_0 {X : Cx} (hX : Good X RX9 cX9_wordOf ((some .int))) (hS : Sta X 0 0 4) (x1 : Int32) (x2 : Int32) : Tr X eI 0 0 0 [(0, .ref (cxAd X 161)), (1, .int x1), (2, .int x2)] [] (f_X9_wordOf x1 x2) := by
  unfold f_X9_wordOf
  refine tr_aload_n 0 hX dX9_wordOf_0 rfl rfl ?_
  refine tr_getF hX dX9_wordOf_1 sh_161 (by decide) rfl inlX9 (by decide) rfl (hS.g (Nat.le_of_ble_eq_true rfl)) cr_161_16 k_6_23 mq_161 ?_
  refine tr_iconst 4 hX dX9_wordOf_4 (by decide) ?_
  refine tr_iload_n 1 hX dX9_wordOf_5 rfl rfl ?_
  refine tr_imul hX dX9_wordOf_6 ?_
  refine tr_iconst 2 hX dX9_wordOf_7 (by decide) ?_
  refine tr_iadd hX dX9_wordOf_8 ?_
  refine tr_iald hX dX9_wordOf_9 sh_174 (hS.e (Nat.le_of_ble_eq_true rfl)) (fun hb2 v1 => ?_)
  refine tr_istore_n hX dX9_wordOf_10 rfl (hS.n (by decide)) rfl ?_
  refine tr_iload_n 3 hX dX9_wordOf_11 rfl rfl ?_
  refine tr_aload_n 1 hX dX9_wordOf_12 rfl rfl ?_
  refine tr_getF hX dX9_wordOf_13 sh_161 (by decide) rfl inlX9 (by decide) rfl (hS.g (Nat.le_of_ble_eq_true rfl)) cr_161_6 k_6_16 mq_161 ?_
  refine tr_iload_n 0 hX dX9_wordOf_16 rfl rfl ?_
  refine tr_iald hX dX9_wordOf_17 sh_167 (hS.e (Nat.le_of_ble_eq_true rfl)) (fun hb4 v3 => ?_)
  refine tr_ic_ge 35 hX dX9_wordOf_18 (by decide) (fun c7 => ?_) (fun c7 => ?_)
  · refine tr_bipush (-4) hX dX9_wordOf_35 (by decide) ?_
    exact tr_sub [] rfl (t_X9_wordOf_37 hX hS (-4))
  · refine tr_aload_n 1 hX dX9_wordOf_21 rfl rfl ?_
    refine tr_getF hX dX9_wordOf_22 sh_161 (by decide) rfl inlX9 (by decide) rfl (hS.g (Nat.le_of_ble_eq_true rfl)) cr_161_7 k_6_17 mq_161 ?_
    refine tr_bipush 8 hX dX9_wordOf_25 (by decide) ?_
    refine tr_iload_n 0 hX dX9_wordOf_27 rfl rfl ?_
    refine tr_imul hX dX9_wordOf_28 ?_
    refine tr_iload_n 3 hX dX9_wordOf_29 rfl rfl ?_
    refine tr_iadd hX dX9_wordOf_30 ?_
    refine tr_iald hX dX9_wordOf_31 sh_168 (hS.e (Nat.le_of_ble_eq_true rfl)) (fun hb6 v5 => ?_)
    refine tr_goto 37 hX dX9_wordOf_32 (by decide) ?_
    exact tr_sub [] rfl (t_X9_wordOf_37 hX hS v5)
theorem ok_X9_wordOf {l : Launch} {E : Ev} (x1 : Int32) (x2 : Int32)  : Ok l E Gall yX9_wordOf cX9_wordOf 4 ((some .int)) (rmz 0 0) eI [.ref (E.2.1 161), .int x1, .int x2] (f_X9_wordOf x1 x2) := by
  refine ok_of0 (by decide) (Nat.le_of_ble_eq_true rfl) (fun X hX hV hS => ?_)
  subst hV
  exact t_X9_wordOf_0 hX hS x1 x2
def f_X9_same_107 (p0 : Int32) : M Int32 :=
  rt p0
set_option maxRecDepth 10000 in
set_option maxHeartbeats 4000000 in
theorem t_X9_same_107 {X : Cx} (hX : Good X RX9 cX9_same ((some .int))) (hS : Sta X 2 45 6) (p0 : Int32) : Tr X eI 0 0 107 [] [.int p0] (f_X9_same_107 p0) := by
  unfold f_X9_same_107
  exact tr_iret0 hX hS dX9_same_107
def f_X9_same_91 (s17 : Int32 → Int32 → Int32 → M Int32) (x1 : Int32) (x3 : Int32) (x4 : Int32) (p0 : Int32) : M Int32 :=
  s17 p0 x3 (x4 + 1)
set_option maxRecDepth 10000 in
set_option maxHeartbeats 4000000 in
theorem t_X9_same_91 {X : Cx} (hX : Good X RX9 cX9_same ((some .int))) (hS : Sta X 2 45 6) (s17 : Int32 → Int32 → Int32 → M Int32) (x1 : Int32) (x3 : Int32) (x4 : Int32) (p0 : Int32) (hs17 : ∀ x2 : Int32, ∀ x3 : Int32, ∀ x4 : Int32, Tr X eI 0 0 17 [(0, .ref (cxAd X 161)), (1, .int x1), (2, .int x2), (3, .int x3), (4, .int x4)] [] (s17 x2 x3 x4)) : Tr X eI 0 0 91 [(0, .ref (cxAd X 161)), (1, .int x1), (3, .int x3), (4, .int x4)] [.int p0] (f_X9_same_91 s17 x1 x3 x4 p0) := by
  unfold f_X9_same_91
  refine tr_istore_n hX dX9_same_91 rfl (hS.n (by decide)) rfl ?_
  refine tr_iinc (x4 + 1) 4 hX dX9_same_92 rfl (congrArg (fun z => x4 + z) (by decide)) (hS.n (by decide)) rfl ?_
  refine tr_goto 17 hX dX9_same_95 (by decide) ?_
  exact tr_sub [2, 3, 1, 4, 0] rfl (hs17 p0 x3 (x4 + 1))
def f_X9_same_77 (s17 : Int32 → Int32 → Int32 → M Int32) (x1 : Int32) (x2 : Int32) (x4 : Int32) (x5 : Int32) (p0 : Int32) : M Int32 :=
  if x5 = (-4) then (f_X9_same_91 s17 x1 p0 x4 x2) else (f_X9_same_91 s17 x1 p0 x4 x5)
set_option maxRecDepth 10000 in
set_option maxHeartbeats 4000000 in
theorem t_X9_same_77 {X : Cx} (hX : Good X RX9 cX9_same ((some .int))) (hS : Sta X 2 45 6) (s17 : Int32 → Int32 → Int32 → M Int32) (x1 : Int32) (x2 : Int32) (x4 : Int32) (x5 : Int32) (p0 : Int32) (hs17 : ∀ x2 : Int32, ∀ x3 : Int32, ∀ x4 : Int32, Tr X eI 0 0 17 [(0, .ref (cxAd X 161)), (1, .int x1), (2, .int x2), (3, .int x3), (4, .int x4)] [] (s17 x2 x3 x4)) : Tr X eI 0 0 77 [(0, .ref (cxAd X 161)), (1, .int x1), (2, .int x2), (4, .int x4), (5, .int x5)] [.int p0] (f_X9_same_77 s17 x1 x2 x4 x5 p0) := by
  unfold f_X9_same_77
  refine tr_istore_n hX dX9_same_77 rfl (hS.n (by decide)) rfl ?_
  refine tr_iload 5 hX dX9_same_78 rfl ?_
  refine tr_bipush (-4) hX dX9_same_80 (by decide) ?_
  refine tr_ic_ne 89 hX dX9_same_82 (by decide) (fun c1 => ?_) (fun c1 => ?_)
  · refine tr_iload_n 3 hX dX9_same_85 rfl rfl ?_
    refine tr_goto 91 hX dX9_same_86 (by decide) ?_
    exact tr_sub [1, 2, 0, 4] rfl (t_X9_same_91 hX hS s17 x1 p0 x4 x2 hs17)
  · refine tr_iload 5 hX dX9_same_89 rfl ?_
    exact tr_sub [1, 2, 0, 4] rfl (t_X9_same_91 hX hS s17 x1 p0 x4 x5 hs17)
def f_X9_same_76 (s17 : Int32 → Int32 → Int32 → M Int32) (x1 : Int32) (x2 : Int32) (x4 : Int32) (x5 : Int32) : M Int32 :=
  f_X9_same_77 s17 x1 x2 x4 x5 0
set_option maxRecDepth 10000 in
set_option maxHeartbeats 4000000 in
theorem t_X9_same_76 {X : Cx} (hX : Good X RX9 cX9_same ((some .int))) (hS : Sta X 2 45 6) (s17 : Int32 → Int32 → Int32 → M Int32) (x1 : Int32) (x2 : Int32) (x4 : Int32) (x5 : Int32) (hs17 : ∀ x2 : Int32, ∀ x3 : Int32, ∀ x4 : Int32, Tr X eI 0 0 17 [(0, .ref (cxAd X 161)), (1, .int x1), (2, .int x2), (3, .int x3), (4, .int x4)] [] (s17 x2 x3 x4)) : Tr X eI 0 0 76 [(0, .ref (cxAd X 161)), (1, .int x1), (2, .int x2), (4, .int x4), (5, .int x5)] [] (f_X9_same_76 s17 x1 x2 x4 x5) := by
  unfold f_X9_same_76
  refine tr_iconst 0 hX dX9_same_76 (by decide) ?_
  exact tr_sub [0, 1, 2, 3, 4] rfl (t_X9_same_77 hX hS s17 x1 x2 x4 x5 0 hs17)
def f_X9_same_72 (s17 : Int32 → Int32 → Int32 → M Int32) (x1 : Int32) (x2 : Int32) (x4 : Int32) (x5 : Int32) : M Int32 :=
  f_X9_same_77 s17 x1 x2 x4 x5 1
set_option maxRecDepth 10000 in
set_option maxHeartbeats 4000000 in
theorem t_X9_same_72 {X : Cx} (hX : Good X RX9 cX9_same ((some .int))) (hS : Sta X 2 45 6) (s17 : Int32 → Int32 → Int32 → M Int32) (x1 : Int32) (x2 : Int32) (x4 : Int32) (x5 : Int32) (hs17 : ∀ x2 : Int32, ∀ x3 : Int32, ∀ x4 : Int32, Tr X eI 0 0 17 [(0, .ref (cxAd X 161)), (1, .int x1), (2, .int x2), (3, .int x3), (4, .int x4)] [] (s17 x2 x3 x4)) : Tr X eI 0 0 72 [(0, .ref (cxAd X 161)), (1, .int x1), (2, .int x2), (4, .int x4), (5, .int x5)] [] (f_X9_same_72 s17 x1 x2 x4 x5) := by
  unfold f_X9_same_72
  refine tr_iconst 1 hX dX9_same_72 (by decide) ?_
  refine tr_goto 77 hX dX9_same_73 (by decide) ?_
  exact tr_sub [0, 1, 2, 3, 4] rfl (t_X9_same_77 hX hS s17 x1 x2 x4 x5 1 hs17)
def f_X9_same_47 (s17 : Int32 → Int32 → Int32 → M Int32) (x1 : Int32) (x2 : Int32) (x3 : Int32) (x4 : Int32) (p0 : Int32) : M Int32 :=
  if x3 = 0 then (f_X9_same_76 s17 x1 x2 x4 p0) else (if p0 = (-4) then (f_X9_same_72 s17 x1 x2 x4 p0) else (if x2 = (-4) then (f_X9_same_72 s17 x1 x2 x4 p0) else (if p0 = x2 then (f_X9_same_72 s17 x1 x2 x4 p0) else (f_X9_same_76 s17 x1 x2 x4 p0))))
set_option maxRecDepth 10000 in
set_option maxHeartbeats 4000000 in
theorem t_X9_same_47 {X : Cx} (hX : Good X RX9 cX9_same ((some .int))) (hS : Sta X 2 45 6) (s17 : Int32 → Int32 → Int32 → M Int32) (x1 : Int32) (x2 : Int32) (x3 : Int32) (x4 : Int32) (p0 : Int32) (hs17 : ∀ x2 : Int32, ∀ x3 : Int32, ∀ x4 : Int32, Tr X eI 0 0 17 [(0, .ref (cxAd X 161)), (1, .int x1), (2, .int x2), (3, .int x3), (4, .int x4)] [] (s17 x2 x3 x4)) : Tr X eI 0 0 47 [(0, .ref (cxAd X 161)), (1, .int x1), (2, .int x2), (3, .int x3), (4, .int x4)] [.int p0] (f_X9_same_47 s17 x1 x2 x3 x4 p0) := by
  unfold f_X9_same_47
  refine tr_istore hX dX9_same_47 (hS.n (by decide)) rfl ?_
  refine tr_iload_n 4 hX dX9_same_49 rfl rfl ?_
  refine tr_if_eq 76 hX dX9_same_50 (by decide) (fun c4 => ?_) (fun c4 => ?_)
  · exact tr_sub [1, 2, 3, 5, 0] rfl (t_X9_same_76 hX hS s17 x1 x2 x4 p0 hs17)
  · refine tr_iload 0 hX dX9_same_53 rfl ?_
    refine tr_bipush (-4) hX dX9_same_55 (by decide) ?_
    refine tr_ic_eq 72 hX dX9_same_57 (by decide) (fun c3 => ?_) (fun c3 => ?_)
    · exact tr_sub [1, 2, 3, 5, 0] rfl (t_X9_same_72 hX hS s17 x1 x2 x4 p0 hs17)
    · refine tr_iload_n 3 hX dX9_same_60 rfl rfl ?_
      refine tr_bipush (-4) hX dX9_same_61 (by decide) ?_
      refine tr_ic_eq 72 hX dX9_same_63 (by decide) (fun c2 => ?_) (fun c2 => ?_)
      · exact tr_sub [1, 2, 3, 5, 0] rfl (t_X9_same_72 hX hS s17 x1 x2 x4 p0 hs17)
      · refine tr_iload 0 hX dX9_same_66 rfl ?_
        refine tr_iload_n 3 hX dX9_same_68 rfl rfl ?_
        refine tr_ic_ne 76 hX dX9_same_69 (by decide) (fun c1 => ?_) (fun c1 => ?_)
        · exact tr_sub [1, 2, 3, 5, 0] rfl (t_X9_same_72 hX hS s17 x1 x2 x4 p0 hs17)
        · exact tr_sub [1, 2, 3, 5, 0] rfl (t_X9_same_76 hX hS s17 x1 x2 x4 p0 hs17)
def f_X9_same_17 (x1 : Int32) (s17 : Int32 → Int32 → Int32 → M Int32) (x2 : Int32) (x3 : Int32) (x4 : Int32) : M Int32 :=
  rI 161 15 (fun v1 => if v1 ≤ x4 then (if x3 = 0 then (f_X9_same_107 0) else (f_X9_same_107 1)) else (bnd (f_X9_isAlive x4) (fun v3 => if v3 = 0 then (f_X9_same_47 s17 x1 x2 x3 x4 (-4)) else (bnd (f_X9_wordOf x4 x1) (fun v4 => f_X9_same_47 s17 x1 x2 x3 x4 v4)))))
set_option maxRecDepth 10000 in
set_option maxHeartbeats 4000000 in
theorem t_X9_same_17 {X : Cx} (hX : Good X RX9 cX9_same ((some .int))) (hS : Sta X 2 45 6) (x1 : Int32) : ∀ s17 : Int32 → Int32 → Int32 → M Int32, (∀ x2 : Int32, ∀ x3 : Int32, ∀ x4 : Int32, Tr X eI 0 0 17 [(0, .ref (cxAd X 161)), (1, .int x1), (2, .int x2), (3, .int x3), (4, .int x4)] [] (s17 x2 x3 x4)) → ∀ x2 : Int32, ∀ x3 : Int32, ∀ x4 : Int32, Tr X eI 0 0 17 [(0, .ref (cxAd X 161)), (1, .int x1), (2, .int x2), (3, .int x3), (4, .int x4)] [] (f_X9_same_17 x1 s17 x2 x3 x4) := by
  intro s17 hs17 x2 x3 x4
  unfold f_X9_same_17
  refine tr_iload 4 hX dX9_same_17 rfl ?_
  refine tr_aload_n 0 hX dX9_same_19 rfl rfl ?_
  refine tr_getI hX dX9_same_20 sh_161 (by decide) rfl inlX9 (by decide) rfl (hS.e (Nat.le_of_ble_eq_true rfl)) k_12_13 (fun v1 => ?_)
  refine tr_ic_ge 98 hX dX9_same_23 (by decide) (fun c6 => ?_) (fun c6 => ?_)
  · refine tr_iload_n 3 hX dX9_same_98 rfl rfl ?_
    refine tr_if_eq 106 hX dX9_same_99 (by decide) (fun c2 => ?_) (fun c2 => ?_)
    · refine tr_iconst 0 hX dX9_same_106 (by decide) ?_
      exact tr_sub [] rfl (t_X9_same_107 hX hS 0)
    · refine tr_iconst 1 hX dX9_same_102 (by decide) ?_
      refine tr_goto 107 hX dX9_same_103 (by decide) ?_
      exact tr_sub [] rfl (t_X9_same_107 hX hS 1)
  · refine tr_aload_n 0 hX dX9_same_26 rfl rfl ?_
    refine tr_iload 4 hX dX9_same_27 rfl ?_
    refine tr_callV0I (st := []) 1 hX hS dX9_same_29 (ok_X9_isAlive x4) sh_161 (by decide) rfl (Nat.le_of_ble_eq_true rfl) k_34_20 k_34_21 k_34_22 k_1_5 k_34_23 hy_X9_isAlive rfl rfl (Nat.le_of_ble_eq_true rfl) rfl (fun v3 => ?_)
    refine tr_if_eq 45 hX dX9_same_32 (by decide) (fun c5 => ?_) (fun c5 => ?_)
    · refine tr_bipush (-4) hX dX9_same_45 (by decide) ?_
      exact tr_sub [0, 1, 2, 3, 4] rfl (t_X9_same_47 hX hS s17 x1 x2 x3 x4 (-4) hs17)
    · refine tr_aload_n 0 hX dX9_same_35 rfl rfl ?_
      refine tr_iload 4 hX dX9_same_36 rfl ?_
      refine tr_iload_n 1 hX dX9_same_38 rfl rfl ?_
      refine tr_callV0I (st := []) 2 hX hS dX9_same_39 (ok_X9_wordOf x4 x1) sh_161 (by decide) rfl (Nat.le_of_ble_eq_true rfl) k_35_0 k_35_1 k_35_2 k_1_5 k_35_3 hy_X9_wordOf rfl rfl (Nat.le_of_ble_eq_true rfl) rfl (fun v4 => ?_)
      refine tr_goto 47 hX dX9_same_42 (by decide) ?_
      exact tr_sub [0, 1, 2, 3, 4] rfl (t_X9_same_47 hX hS s17 x1 x2 x3 x4 v4 hs17)
def f_X9_same (x1 : Int32) : M Int32 :=
  bnd (f_X9_isPlace x1) (fun v1 => if v1 = 0 then (rt (-1)) else (fix3 FU (f_X9_same_17 x1) (-4) 1 0))
set_option maxRecDepth 10000 in
set_option maxHeartbeats 4000000 in
theorem t_X9_same_0 {X : Cx} (hX : Good X RX9 cX9_same ((some .int))) (hS : Sta X 2 45 6) (x1 : Int32) : Tr X eI 0 0 0 [(0, .ref (cxAd X 161)), (1, .int x1)] [] (f_X9_same x1) := by
  unfold f_X9_same
  refine tr_iload_n 1 hX dX9_same_0 rfl rfl ?_
  refine tr_callS0I (st := []) 1 hX hS dX9_same_1 (ok_X9_isPlace x1) k_14_12 k_14_13 k_1_5 k_14_14 hy_X9_isPlace.2 rfl rfl (Nat.le_of_ble_eq_true rfl) rfl (fun v1 => ?_)
  refine tr_if_ne 9 hX dX9_same_4 (by decide) (fun c2 => ?_) (fun c2 => ?_)
  · refine tr_iconst (-1) hX dX9_same_7 (by decide) ?_
    exact tr_iret0 hX hS dX9_same_8
  · refine tr_bipush (-4) hX dX9_same_9 (by decide) ?_
    refine tr_istore_n hX dX9_same_11 rfl (hS.n (by decide)) rfl ?_
    refine tr_iconst 1 hX dX9_same_12 (by decide) ?_
    refine tr_istore_n hX dX9_same_13 rfl (hS.n (by decide)) rfl ?_
    refine tr_iconst 0 hX dX9_same_14 (by decide) ?_
    refine tr_istore hX dX9_same_15 (hS.n (by decide)) rfl ?_
    exact tr_sub [3, 4, 2, 1, 0] rfl (tr_fix3 (lvf := fun x2 x3 x4 => [(0, .ref (cxAd X 161)), (1, .int x1), (2, .int x2), (3, .int x3), (4, .int x4)]) (t_X9_same_17 hX hS x1) FU (-4) 1 0)
theorem ok_X9_same {l : Launch} {E : Ev} (x1 : Int32)  : Ok l E Gall yX9_same cX9_same 6 ((some .int)) (rmz 2 45) eI [.ref (E.2.1 161), .int x1] (f_X9_same x1) := by
  refine ok_of0 (by decide) (Nat.le_of_ble_eq_true rfl) (fun X hX hV hS => ?_)
  subst hV
  exact t_X9_same_0 hX hS x1
def f_X9_isFrom_35 (p0 : Int32) : M Int32 :=
  gd (p0 = 0 ∨ p0 = 1) (rt p0)
set_option maxRecDepth 10000 in
set_option maxHeartbeats 4000000 in
theorem t_X9_isFrom_35 {X : Cx} (hX : Good X RX9 cX9_isFrom ((some .boolean))) (hS : Sta X 0 0 4) (p0 : Int32) : Tr X eI 0 0 35 [] [.int p0] (f_X9_isFrom_35 p0) := by
  unfold f_X9_isFrom_35
  exact tr_zret0 hX hS dX9_isFrom_35
def f_X9_isFrom_25 (x2 : Int32) (x3 : Int32) : M Int32 :=
  if x3 = x2 then (f_X9_isFrom_35 1) else (f_X9_isFrom_35 0)
set_option maxRecDepth 10000 in
set_option maxHeartbeats 4000000 in
theorem t_X9_isFrom_25 {X : Cx} (hX : Good X RX9 cX9_isFrom ((some .boolean))) (hS : Sta X 0 0 4) (x2 : Int32) (x3 : Int32) : Tr X eI 0 0 25 [(2, .int x2), (3, .int x3)] [] (f_X9_isFrom_25 x2 x3) := by
  unfold f_X9_isFrom_25
  refine tr_iload_n 1 hX dX9_isFrom_25 rfl rfl ?_
  refine tr_iload_n 0 hX dX9_isFrom_26 rfl rfl ?_
  refine tr_ic_ne 34 hX dX9_isFrom_27 (by decide) (fun c1 => ?_) (fun c1 => ?_)
  · refine tr_iconst 1 hX dX9_isFrom_30 (by decide) ?_
    refine tr_goto 35 hX dX9_isFrom_31 (by decide) ?_
    exact tr_sub [] rfl (t_X9_isFrom_35 hX hS 1)
  · refine tr_iconst 0 hX dX9_isFrom_34 (by decide) ?_
    exact tr_sub [] rfl (t_X9_isFrom_35 hX hS 0)
def f_X9_isFrom_2 (x2 : Int32) (s2 : Int32 → M Int32) (x3 : Int32) : M Int32 :=
  if x3 < 0 then (f_X9_isFrom_25 x2 x3) else (if x3 = x2 then (f_X9_isFrom_25 x2 x3) else (aI 174 64 ((4 * x3) + 1) (fun v1 => s2 v1)))
set_option maxRecDepth 10000 in
set_option maxHeartbeats 4000000 in
theorem t_X9_isFrom_2 {X : Cx} (hX : Good X RX9 cX9_isFrom ((some .boolean))) (hS : Sta X 0 0 4) (x2 : Int32) : ∀ s2 : Int32 → M Int32, (∀ x3 : Int32, Tr X eI 0 0 2 [(0, .ref (cxAd X 161)), (2, .int x2), (3, .int x3)] [] (s2 x3)) → ∀ x3 : Int32, Tr X eI 0 0 2 [(0, .ref (cxAd X 161)), (2, .int x2), (3, .int x3)] [] (f_X9_isFrom_2 x2 s2 x3) := by
  intro s2 hs2 x3
  unfold f_X9_isFrom_2
  refine tr_iload_n 2 hX dX9_isFrom_2 rfl rfl ?_
  refine tr_if_lt 25 hX dX9_isFrom_3 (by decide) (fun c4 => ?_) (fun c4 => ?_)
  · exact tr_sub [1, 2] rfl (t_X9_isFrom_25 hX hS x2 x3)
  · refine tr_iload_n 2 hX dX9_isFrom_6 rfl rfl ?_
    refine tr_iload_n 1 hX dX9_isFrom_7 rfl rfl ?_
    refine tr_ic_eq 25 hX dX9_isFrom_8 (by decide) (fun c3 => ?_) (fun c3 => ?_)
    · exact tr_sub [1, 2] rfl (t_X9_isFrom_25 hX hS x2 x3)
    · refine tr_aload_n 0 hX dX9_isFrom_11 rfl rfl ?_
      refine tr_getF hX dX9_isFrom_12 sh_161 (by decide) rfl inlX9 (by decide) rfl (hS.g (Nat.le_of_ble_eq_true rfl)) cr_161_16 k_6_23 mq_161 ?_
      refine tr_iconst 4 hX dX9_isFrom_15 (by decide) ?_
      refine tr_iload_n 2 hX dX9_isFrom_16 rfl rfl ?_
      refine tr_imul hX dX9_isFrom_17 ?_
      refine tr_iconst 1 hX dX9_isFrom_18 (by decide) ?_
      refine tr_iadd hX dX9_isFrom_19 ?_
      refine tr_iald hX dX9_isFrom_20 sh_174 (hS.e (Nat.le_of_ble_eq_true rfl)) (fun hb2 v1 => ?_)
      refine tr_istore_n hX dX9_isFrom_21 rfl (hS.n (by decide)) rfl ?_
      refine tr_goto 2 hX dX9_isFrom_22 (by decide) ?_
      exact tr_sub [1, 2, 0] rfl (hs2 v1)
def f_X9_isFrom (x1 : Int32) (x2 : Int32) : M Int32 :=
  fix1 FU (f_X9_isFrom_2 x2) x1
set_option maxRecDepth 10000 in
set_option maxHeartbeats 4000000 in
theorem t_X9_isFrom_0 {X : Cx} (hX : Good X RX9 cX9_isFrom ((some .boolean))) (hS : Sta X 0 0 4) (x1 : Int32) (x2 : Int32) : Tr X eI 0 0 0 [(0, .ref (cxAd X 161)), (1, .int x1), (2, .int x2)] [] (f_X9_isFrom x1 x2) := by
  unfold f_X9_isFrom
  refine tr_iload_n 1 hX dX9_isFrom_0 rfl rfl ?_
  refine tr_istore_n hX dX9_isFrom_1 rfl (hS.n (by decide)) rfl ?_
  exact tr_sub [1, 3, 0] rfl (tr_fix1 (lvf := fun x3 => [(0, .ref (cxAd X 161)), (2, .int x2), (3, .int x3)]) (t_X9_isFrom_2 hX hS x2) FU x1)
theorem ok_X9_isFrom {l : Launch} {E : Ev} (x1 : Int32) (x2 : Int32)  : Ok l E Gall yX9_isFrom cX9_isFrom 4 ((some .boolean)) (rmz 0 0) eI [.ref (E.2.1 161), .int x1, .int x2] (f_X9_isFrom x1 x2) := by
  refine ok_of0 (by decide) (Nat.le_of_ble_eq_true rfl) (fun X hX hV hS => ?_)
  subst hV
  exact t_X9_isFrom_0 hX hS x1 x2
def f_X9_since_15  : M Int32 :=
  rt (-1)
set_option maxRecDepth 10000 in
set_option maxHeartbeats 4000000 in
theorem t_X9_since_15 {X : Cx} (hX : Good X RX9 cX9_since ((some .int))) (hS : Sta X 2 46 9) : Tr X eI 0 0 15 [] [] (f_X9_since_15) := by
  unfold f_X9_since_15
  refine tr_iconst (-1) hX dX9_since_15 (by decide) ?_
  exact tr_iret0 hX hS dX9_since_16
def f_X9_since_210 (x3 : Int32) : M Int32 :=
  rt x3
set_option maxRecDepth 10000 in
set_option maxHeartbeats 4000000 in
theorem t_X9_since_210 {X : Cx} (hX : Good X RX9 cX9_since ((some .int))) (hS : Sta X 2 46 9) (x3 : Int32) : Tr X eI 0 0 210 [(3, .int x3)] [] (f_X9_since_210 x3) := by
  unfold f_X9_since_210
  refine tr_iload_n 0 hX dX9_since_210 rfl rfl ?_
  exact tr_iret0 hX hS dX9_since_211
def f_X9_since_203 (s100 : Int32 → Int32 → M Int32) (x4 : Int32) (x5 : Int32) (x6 : Int32) (p0 : Int32) : M Int32 :=
  s100 p0 (x6 + 1)
set_option maxRecDepth 10000 in
set_option maxHeartbeats 4000000 in
theorem t_X9_since_203 {X : Cx} (hX : Good X RX9 cX9_since ((some .int))) (hS : Sta X 2 46 9) (s100 : Int32 → Int32 → M Int32) (x4 : Int32) (x5 : Int32) (x6 : Int32) (p0 : Int32) (hs100 : ∀ x3 : Int32, ∀ x6 : Int32, Tr X eI 0 0 100 [(0, .ref (cxAd X 161)), (3, .int x3), (4, .int x4), (5, .int x5), (6, .int x6)] [] (s100 x3 x6)) : Tr X eI 0 0 203 [(0, .ref (cxAd X 161)), (4, .int x4), (5, .int x5), (6, .int x6)] [.int p0] (f_X9_since_203 s100 x4 x5 x6 p0) := by
  unfold f_X9_since_203
  refine tr_istore_n hX dX9_since_203 rfl (hS.n (by decide)) rfl ?_
  refine tr_iinc (x6 + 1) 4 hX dX9_since_204 rfl (congrArg (fun z => x6 + z) (by decide)) (hS.n (by decide)) rfl ?_
  refine tr_goto 100 hX dX9_since_207 (by decide) ?_
  exact tr_sub [2, 1, 3, 4, 0] rfl (hs100 p0 (x6 + 1))
def f_X9_since_202 (s100 : Int32 → Int32 → M Int32) (x3 : Int32) (x4 : Int32) (x5 : Int32) (x6 : Int32) : M Int32 :=
  f_X9_since_203 s100 x4 x5 x6 x3
set_option maxRecDepth 10000 in
set_option maxHeartbeats 4000000 in
theorem t_X9_since_202 {X : Cx} (hX : Good X RX9 cX9_since ((some .int))) (hS : Sta X 2 46 9) (s100 : Int32 → Int32 → M Int32) (x3 : Int32) (x4 : Int32) (x5 : Int32) (x6 : Int32) (hs100 : ∀ x3 : Int32, ∀ x6 : Int32, Tr X eI 0 0 100 [(0, .ref (cxAd X 161)), (3, .int x3), (4, .int x4), (5, .int x5), (6, .int x6)] [] (s100 x3 x6)) : Tr X eI 0 0 202 [(0, .ref (cxAd X 161)), (3, .int x3), (4, .int x4), (5, .int x5), (6, .int x6)] [] (f_X9_since_202 s100 x3 x4 x5 x6) := by
  unfold f_X9_since_202
  refine tr_iload_n 1 hX dX9_since_202 rfl rfl ?_
  exact tr_sub [0, 2, 3, 4] rfl (t_X9_since_203 hX hS s100 x4 x5 x6 x3 hs100)
def f_X9_since_164 (s100 : Int32 → Int32 → M Int32) (s125 : Int32 → Int32 → M Int32) (x3 : Int32) (x4 : Int32) (x5 : Int32) (x6 : Int32) (x8 : Int32) (p0 : Int32) : M Int32 :=
  s125 p0 (x8 + 1)
set_option maxRecDepth 10000 in
set_option maxHeartbeats 4000000 in
theorem t_X9_since_164 {X : Cx} (hX : Good X RX9 cX9_since ((some .int))) (hS : Sta X 2 46 9) (s100 : Int32 → Int32 → M Int32) (s125 : Int32 → Int32 → M Int32) (x3 : Int32) (x4 : Int32) (x5 : Int32) (x6 : Int32) (x8 : Int32) (p0 : Int32) (hs100 : ∀ x3 : Int32, ∀ x6 : Int32, Tr X eI 0 0 100 [(0, .ref (cxAd X 161)), (3, .int x3), (4, .int x4), (5, .int x5), (6, .int x6)] [] (s100 x3 x6)) (hs125 : ∀ x7 : Int32, ∀ x8 : Int32, Tr X eI 0 0 125 [(0, .ref (cxAd X 161)), (3, .int x3), (4, .int x4), (5, .int x5), (6, .int x6), (7, .int x7), (8, .int x8)] [] (s125 x7 x8)) : Tr X eI 0 0 164 [(0, .ref (cxAd X 161)), (3, .int x3), (4, .int x4), (5, .int x5), (6, .int x6), (8, .int x8)] [.int p0] (f_X9_since_164 s100 s125 x3 x4 x5 x6 x8 p0) := by
  unfold f_X9_since_164
  refine tr_istore hX dX9_since_164 (hS.n (by decide)) rfl ?_
  refine tr_iinc (x8 + 1) 6 hX dX9_since_166 rfl (congrArg (fun z => x8 + z) (by decide)) (hS.n (by decide)) rfl ?_
  refine tr_goto 125 hX dX9_since_169 (by decide) ?_
  exact tr_sub [2, 3, 4, 5, 6, 1, 0] rfl (hs125 p0 (x8 + 1))
def f_X9_since_163 (s100 : Int32 → Int32 → M Int32) (s125 : Int32 → Int32 → M Int32) (x3 : Int32) (x4 : Int32) (x5 : Int32) (x6 : Int32) (x8 : Int32) : M Int32 :=
  f_X9_since_164 s100 s125 x3 x4 x5 x6 x8 0
set_option maxRecDepth 10000 in
set_option maxHeartbeats 4000000 in
theorem t_X9_since_163 {X : Cx} (hX : Good X RX9 cX9_since ((some .int))) (hS : Sta X 2 46 9) (s100 : Int32 → Int32 → M Int32) (s125 : Int32 → Int32 → M Int32) (x3 : Int32) (x4 : Int32) (x5 : Int32) (x6 : Int32) (x8 : Int32) (hs100 : ∀ x3 : Int32, ∀ x6 : Int32, Tr X eI 0 0 100 [(0, .ref (cxAd X 161)), (3, .int x3), (4, .int x4), (5, .int x5), (6, .int x6)] [] (s100 x3 x6)) (hs125 : ∀ x7 : Int32, ∀ x8 : Int32, Tr X eI 0 0 125 [(0, .ref (cxAd X 161)), (3, .int x3), (4, .int x4), (5, .int x5), (6, .int x6), (7, .int x7), (8, .int x8)] [] (s125 x7 x8)) : Tr X eI 0 0 163 [(0, .ref (cxAd X 161)), (3, .int x3), (4, .int x4), (5, .int x5), (6, .int x6), (8, .int x8)] [] (f_X9_since_163 s100 s125 x3 x4 x5 x6 x8) := by
  unfold f_X9_since_163
  refine tr_iconst 0 hX dX9_since_163 (by decide) ?_
  exact tr_sub [0, 1, 2, 3, 4, 5] rfl (t_X9_since_164 hX hS s100 s125 x3 x4 x5 x6 x8 0 hs100 hs125)
def f_X9_since_159 (s100 : Int32 → Int32 → M Int32) (s125 : Int32 → Int32 → M Int32) (x3 : Int32) (x4 : Int32) (x5 : Int32) (x6 : Int32) (x8 : Int32) : M Int32 :=
  f_X9_since_164 s100 s125 x3 x4 x5 x6 x8 1
set_option maxRecDepth 10000 in
set_option maxHeartbeats 4000000 in
theorem t_X9_since_159 {X : Cx} (hX : Good X RX9 cX9_since ((some .int))) (hS : Sta X 2 46 9) (s100 : Int32 → Int32 → M Int32) (s125 : Int32 → Int32 → M Int32) (x3 : Int32) (x4 : Int32) (x5 : Int32) (x6 : Int32) (x8 : Int32) (hs100 : ∀ x3 : Int32, ∀ x6 : Int32, Tr X eI 0 0 100 [(0, .ref (cxAd X 161)), (3, .int x3), (4, .int x4), (5, .int x5), (6, .int x6)] [] (s100 x3 x6)) (hs125 : ∀ x7 : Int32, ∀ x8 : Int32, Tr X eI 0 0 125 [(0, .ref (cxAd X 161)), (3, .int x3), (4, .int x4), (5, .int x5), (6, .int x6), (7, .int x7), (8, .int x8)] [] (s125 x7 x8)) : Tr X eI 0 0 159 [(0, .ref (cxAd X 161)), (3, .int x3), (4, .int x4), (5, .int x5), (6, .int x6), (8, .int x8)] [] (f_X9_since_159 s100 s125 x3 x4 x5 x6 x8) := by
  unfold f_X9_since_159
  refine tr_iconst 1 hX dX9_since_159 (by decide) ?_
  refine tr_goto 164 hX dX9_since_160 (by decide) ?_
  exact tr_sub [0, 1, 2, 3, 4, 5] rfl (t_X9_since_164 hX hS s100 s125 x3 x4 x5 x6 x8 1 hs100 hs125)
def f_X9_since_125 (s100 : Int32 → Int32 → M Int32) (x3 : Int32) (x4 : Int32) (x5 : Int32) (x6 : Int32) (s125 : Int32 → Int32 → M Int32) (x7 : Int32) (x8 : Int32) : M Int32 :=
  rI 161 15 (fun v1 => if v1 ≤ x8 then (if x7 = 0 then (f_X9_since_202 s100 x3 x4 x5 x6) else (aI 174 64 (4 * x6) (fun v2 => if v2 ≤ x3 then (f_X9_since_202 s100 x3 x4 x5 x6) else (aI 174 64 (4 * x6) (fun v4 => f_X9_since_203 s100 x4 x5 x6 v4))))) else (if x7 = 0 then (f_X9_since_163 s100 s125 x3 x4 x5 x6 x8) else (bnd (f_X9_isAlive x8) (fun v8 => if v8 = 0 then (f_X9_since_159 s100 s125 x3 x4 x5 x6 x8) else (bnd (f_X9_isFrom x8 x6) (fun v9 => if v9 = 0 then (f_X9_since_163 s100 s125 x3 x4 x5 x6 x8) else (f_X9_since_159 s100 s125 x3 x4 x5 x6 x8)))))))
set_option maxRecDepth 10000 in
set_option maxHeartbeats 4000000 in
theorem t_X9_since_125 {X : Cx} (hX : Good X RX9 cX9_since ((some .int))) (hS : Sta X 2 46 9) (s100 : Int32 → Int32 → M Int32) (x3 : Int32) (x4 : Int32) (x5 : Int32) (x6 : Int32) (hs100 : ∀ x3 : Int32, ∀ x6 : Int32, Tr X eI 0 0 100 [(0, .ref (cxAd X 161)), (3, .int x3), (4, .int x4), (5, .int x5), (6, .int x6)] [] (s100 x3 x6)) : ∀ s125 : Int32 → Int32 → M Int32, (∀ x7 : Int32, ∀ x8 : Int32, Tr X eI 0 0 125 [(0, .ref (cxAd X 161)), (3, .int x3), (4, .int x4), (5, .int x5), (6, .int x6), (7, .int x7), (8, .int x8)] [] (s125 x7 x8)) → ∀ x7 : Int32, ∀ x8 : Int32, Tr X eI 0 0 125 [(0, .ref (cxAd X 161)), (3, .int x3), (4, .int x4), (5, .int x5), (6, .int x6), (7, .int x7), (8, .int x8)] [] (f_X9_since_125 s100 x3 x4 x5 x6 s125 x7 x8) := by
  intro s125 hs125 x7 x8
  unfold f_X9_since_125
  refine tr_iload 6 hX dX9_since_125 rfl ?_
  refine tr_aload_n 0 hX dX9_since_127 rfl rfl ?_
  refine tr_getI hX dX9_since_128 sh_161 (by decide) rfl inlX9 (by decide) rfl (hS.e (Nat.le_of_ble_eq_true rfl)) k_12_13 (fun v1 => ?_)
  refine tr_ic_ge 172 hX dX9_since_131 (by decide) (fun c13 => ?_) (fun c13 => ?_)
  · refine tr_iload 5 hX dX9_since_172 rfl ?_
    refine tr_if_eq 202 hX dX9_since_174 (by decide) (fun c7 => ?_) (fun c7 => ?_)
    · exact tr_sub [0, 1, 2, 3, 4] rfl (t_X9_since_202 hX hS s100 x3 x4 x5 x6 hs100)
    · refine tr_aload_n 0 hX dX9_since_177 rfl rfl ?_
      refine tr_getF hX dX9_since_178 sh_161 (by decide) rfl inlX9 (by decide) rfl (hS.g (Nat.le_of_ble_eq_true rfl)) cr_161_16 k_6_23 mq_161 ?_
      refine tr_iconst 4 hX dX9_since_181 (by decide) ?_
      refine tr_iload 4 hX dX9_since_182 rfl ?_
      refine tr_imul hX dX9_since_184 ?_
      refine tr_iald hX dX9_since_185 sh_174 (hS.e (Nat.le_of_ble_eq_true rfl)) (fun hb3 v2 => ?_)
      refine tr_iload_n 1 hX dX9_since_186 rfl rfl ?_
      refine tr_ic_le 202 hX dX9_since_187 (by decide) (fun c6 => ?_) (fun c6 => ?_)
      · exact tr_sub [0, 1, 2, 3, 4] rfl (t_X9_since_202 hX hS s100 x3 x4 x5 x6 hs100)
      · refine tr_aload_n 0 hX dX9_since_190 rfl rfl ?_
        refine tr_getF hX dX9_since_191 sh_161 (by decide) rfl inlX9 (by decide) rfl (hS.g (Nat.le_of_ble_eq_true rfl)) cr_161_16 k_6_23 mq_161 ?_
        refine tr_iconst 4 hX dX9_since_194 (by decide) ?_
        refine tr_iload 4 hX dX9_since_195 rfl ?_
        refine tr_imul hX dX9_since_197 ?_
        refine tr_iald hX dX9_since_198 sh_174 (hS.e (Nat.le_of_ble_eq_true rfl)) (fun hb5 v4 => ?_)
        refine tr_goto 203 hX dX9_since_199 (by decide) ?_
        exact tr_sub [0, 2, 3, 4] rfl (t_X9_since_203 hX hS s100 x4 x5 x6 v4 hs100)
  · refine tr_iload 5 hX dX9_since_134 rfl ?_
    refine tr_if_eq 163 hX dX9_since_136 (by decide) (fun c12 => ?_) (fun c12 => ?_)
    · exact tr_sub [0, 1, 2, 3, 4, 6] rfl (t_X9_since_163 hX hS s100 s125 x3 x4 x5 x6 x8 hs100 hs125)
    · refine tr_aload_n 0 hX dX9_since_139 rfl rfl ?_
      refine tr_iload 6 hX dX9_since_140 rfl ?_
      refine tr_callV0I (st := []) 1 hX hS dX9_since_142 (ok_X9_isAlive x8) sh_161 (by decide) rfl (Nat.le_of_ble_eq_true rfl) k_34_20 k_34_21 k_34_22 k_1_5 k_34_23 hy_X9_isAlive rfl rfl (Nat.le_of_ble_eq_true rfl) rfl (fun v8 => ?_)
      refine tr_if_eq 159 hX dX9_since_145 (by decide) (fun c11 => ?_) (fun c11 => ?_)
      · exact tr_sub [0, 1, 2, 3, 4, 6] rfl (t_X9_since_159 hX hS s100 s125 x3 x4 x5 x6 x8 hs100 hs125)
      · refine tr_aload_n 0 hX dX9_since_148 rfl rfl ?_
        refine tr_iload 6 hX dX9_since_149 rfl ?_
        refine tr_iload 4 hX dX9_since_151 rfl ?_
        refine tr_callV0I (st := []) 2 hX hS dX9_since_153 (ok_X9_isFrom x8 x6) sh_161 (by decide) rfl (Nat.le_of_ble_eq_true rfl) k_36_1 k_36_2 k_36_3 k_1_5 k_36_4 hy_X9_isFrom rfl rfl (Nat.le_of_ble_eq_true rfl) rfl (fun v9 => ?_)
        refine tr_if_eq 163 hX dX9_since_156 (by decide) (fun c10 => ?_) (fun c10 => ?_)
        · exact tr_sub [0, 1, 2, 3, 4, 6] rfl (t_X9_since_163 hX hS s100 s125 x3 x4 x5 x6 x8 hs100 hs125)
        · exact tr_sub [0, 1, 2, 3, 4, 6] rfl (t_X9_since_159 hX hS s100 s125 x3 x4 x5 x6 x8 hs100 hs125)
def f_X9_since_100 (x4 : Int32) (x5 : Int32) (s100 : Int32 → Int32 → M Int32) (x3 : Int32) (x6 : Int32) : M Int32 :=
  rI 161 15 (fun v1 => if v1 ≤ x6 then (f_X9_since_210 x3) else (if x4 = 0 then (f_X9_since_210 x3) else (if x5 = 0 then (f_X9_since_210 x3) else (fix2 FU (f_X9_since_125 s100 x3 x4 x5 x6) 1 0))))
set_option maxRecDepth 10000 in
set_option maxHeartbeats 4000000 in
theorem t_X9_since_100 {X : Cx} (hX : Good X RX9 cX9_since ((some .int))) (hS : Sta X 2 46 9) (x4 : Int32) (x5 : Int32) : ∀ s100 : Int32 → Int32 → M Int32, (∀ x3 : Int32, ∀ x6 : Int32, Tr X eI 0 0 100 [(0, .ref (cxAd X 161)), (3, .int x3), (4, .int x4), (5, .int x5), (6, .int x6)] [] (s100 x3 x6)) → ∀ x3 : Int32, ∀ x6 : Int32, Tr X eI 0 0 100 [(0, .ref (cxAd X 161)), (3, .int x3), (4, .int x4), (5, .int x5), (6, .int x6)] [] (f_X9_since_100 x4 x5 s100 x3 x6) := by
  intro s100 hs100 x3 x6
  unfold f_X9_since_100
  refine tr_iload 4 hX dX9_since_100 rfl ?_
  refine tr_aload_n 0 hX dX9_since_102 rfl rfl ?_
  refine tr_getI hX dX9_since_103 sh_161 (by decide) rfl inlX9 (by decide) rfl (hS.e (Nat.le_of_ble_eq_true rfl)) k_12_13 (fun v1 => ?_)
  refine tr_ic_ge 210 hX dX9_since_106 (by decide) (fun c4 => ?_) (fun c4 => ?_)
  · exact tr_sub [1] rfl (t_X9_since_210 hX hS x3)
  · refine tr_iload 2 hX dX9_since_109 rfl ?_
    refine tr_if_eq 210 hX dX9_since_111 (by decide) (fun c3 => ?_) (fun c3 => ?_)
    · exact tr_sub [1] rfl (t_X9_since_210 hX hS x3)
    · refine tr_iload 3 hX dX9_since_114 rfl ?_
      refine tr_if_eq 210 hX dX9_since_116 (by decide) (fun c2 => ?_) (fun c2 => ?_)
      · exact tr_sub [1] rfl (t_X9_since_210 hX hS x3)
      · refine tr_iconst 1 hX dX9_since_119 (by decide) ?_
        refine tr_istore hX dX9_since_120 (hS.n (by decide)) rfl ?_
        refine tr_iconst 0 hX dX9_since_122 (by decide) ?_
        refine tr_istore hX dX9_since_123 (hS.n (by decide)) rfl ?_
        exact tr_sub [2, 3, 4, 5, 6, 1, 0] rfl (tr_fix2 (lvf := fun x7 x8 => [(0, .ref (cxAd X 161)), (3, .int x3), (4, .int x4), (5, .int x5), (6, .int x6), (7, .int x7), (8, .int x8)]) (t_X9_since_125 hX hS s100 x3 x4 x5 x6 hs100) FU 1 0)
def f_X9_since_89 (s29 : Int32 → Int32 → Int32 → M Int32) (x1 : Int32) (x2 : Int32) (x3 : Int32) (x4 : Int32) (x6 : Int32) (p0 : Int32) : M Int32 :=
  s29 x4 p0 (x6 + 1)
set_option maxRecDepth 10000 in
set_option maxHeartbeats 4000000 in
theorem t_X9_since_89 {X : Cx} (hX : Good X RX9 cX9_since ((some .int))) (hS : Sta X 2 46 9) (s29 : Int32 → Int32 → Int32 → M Int32) (x1 : Int32) (x2 : Int32) (x3 : Int32) (x4 : Int32) (x6 : Int32) (p0 : Int32) (hs29 : ∀ x4 : Int32, ∀ x5 : Int32, ∀ x6 : Int32, Tr X eI 0 0 29 [(0, .ref (cxAd X 161)), (1, .int x1), (2, .int x2), (3, .int x3), (4, .int x4), (5, .int x5), (6, .int x6)] [] (s29 x4 x5 x6)) : Tr X eI 0 0 89 [(0, .ref (cxAd X 161)), (1, .int x1), (2, .int x2), (3, .int x3), (4, .int x4), (6, .int x6)] [.int p0] (f_X9_since_89 s29 x1 x2 x3 x4 x6 p0) := by
  unfold f_X9_since_89
  refine tr_istore hX dX9_since_89 (hS.n (by decide)) rfl ?_
  refine tr_iinc (x6 + 1) 6 hX dX9_since_91 rfl (congrArg (fun z => x6 + z) (by decide)) (hS.n (by decide)) rfl ?_
  refine tr_goto 29 hX dX9_since_94 (by decide) ?_
  exact tr_sub [2, 3, 4, 5, 6, 1, 0] rfl (hs29 x4 p0 (x6 + 1))
def f_X9_since_88 (s29 : Int32 → Int32 → Int32 → M Int32) (x1 : Int32) (x2 : Int32) (x3 : Int32) (x4 : Int32) (x6 : Int32) : M Int32 :=
  f_X9_since_89 s29 x1 x2 x3 x4 x6 0
set_option maxRecDepth 10000 in
set_option maxHeartbeats 4000000 in
theorem t_X9_since_88 {X : Cx} (hX : Good X RX9 cX9_since ((some .int))) (hS : Sta X 2 46 9) (s29 : Int32 → Int32 → Int32 → M Int32) (x1 : Int32) (x2 : Int32) (x3 : Int32) (x4 : Int32) (x6 : Int32) (hs29 : ∀ x4 : Int32, ∀ x5 : Int32, ∀ x6 : Int32, Tr X eI 0 0 29 [(0, .ref (cxAd X 161)), (1, .int x1), (2, .int x2), (3, .int x3), (4, .int x4), (5, .int x5), (6, .int x6)] [] (s29 x4 x5 x6)) : Tr X eI 0 0 88 [(0, .ref (cxAd X 161)), (1, .int x1), (2, .int x2), (3, .int x3), (4, .int x4), (6, .int x6)] [] (f_X9_since_88 s29 x1 x2 x3 x4 x6) := by
  unfold f_X9_since_88
  refine tr_iconst 0 hX dX9_since_88 (by decide) ?_
  exact tr_sub [0, 1, 2, 3, 4, 5] rfl (t_X9_since_89 hX hS s29 x1 x2 x3 x4 x6 0 hs29)
def f_X9_since_84 (s29 : Int32 → Int32 → Int32 → M Int32) (x1 : Int32) (x2 : Int32) (x3 : Int32) (x4 : Int32) (x6 : Int32) : M Int32 :=
  f_X9_since_89 s29 x1 x2 x3 x4 x6 1
set_option maxRecDepth 10000 in
set_option maxHeartbeats 4000000 in
theorem t_X9_since_84 {X : Cx} (hX : Good X RX9 cX9_since ((some .int))) (hS : Sta X 2 46 9) (s29 : Int32 → Int32 → Int32 → M Int32) (x1 : Int32) (x2 : Int32) (x3 : Int32) (x4 : Int32) (x6 : Int32) (hs29 : ∀ x4 : Int32, ∀ x5 : Int32, ∀ x6 : Int32, Tr X eI 0 0 29 [(0, .ref (cxAd X 161)), (1, .int x1), (2, .int x2), (3, .int x3), (4, .int x4), (5, .int x5), (6, .int x6)] [] (s29 x4 x5 x6)) : Tr X eI 0 0 84 [(0, .ref (cxAd X 161)), (1, .int x1), (2, .int x2), (3, .int x3), (4, .int x4), (6, .int x6)] [] (f_X9_since_84 s29 x1 x2 x3 x4 x6) := by
  unfold f_X9_since_84
  refine tr_iconst 1 hX dX9_since_84 (by decide) ?_
  refine tr_goto 89 hX dX9_since_85 (by decide) ?_
  exact tr_sub [0, 1, 2, 3, 4, 5] rfl (t_X9_since_89 hX hS s29 x1 x2 x3 x4 x6 1 hs29)
def f_X9_since_57 (s29 : Int32 → Int32 → Int32 → M Int32) (x1 : Int32) (x2 : Int32) (x3 : Int32) (x5 : Int32) (x6 : Int32) (p0 : Int32) : M Int32 :=
  if x5 = 0 then (f_X9_since_88 s29 x1 x2 x3 p0 x6) else (bnd (f_X9_isAlive x6) (fun v1 => if v1 = 0 then (f_X9_since_84 s29 x1 x2 x3 p0 x6) else (bnd (f_X9_wordOf x6 x1) (fun v2 => if v2 = x2 then (f_X9_since_84 s29 x1 x2 x3 p0 x6) else (f_X9_since_88 s29 x1 x2 x3 p0 x6)))))
set_option maxRecDepth 10000 in
set_option maxHeartbeats 4000000 in
theorem t_X9_since_57 {X : Cx} (hX : Good X RX9 cX9_since ((some .int))) (hS : Sta X 2 46 9) (s29 : Int32 → Int32 → Int32 → M Int32) (x1 : Int32) (x2 : Int32) (x3 : Int32) (x5 : Int32) (x6 : Int32) (p0 : Int32) (hs29 : ∀ x4 : Int32, ∀ x5 : Int32, ∀ x6 : Int32, Tr X eI 0 0 29 [(0, .ref (cxAd X 161)), (1, .int x1), (2, .int x2), (3, .int x3), (4, .int x4), (5, .int x5), (6, .int x6)] [] (s29 x4 x5 x6)) : Tr X eI 0 0 57 [(0, .ref (cxAd X 161)), (1, .int x1), (2, .int x2), (3, .int x3), (5, .int x5), (6, .int x6)] [.int p0] (f_X9_since_57 s29 x1 x2 x3 x5 x6 p0) := by
  unfold f_X9_since_57
  refine tr_istore hX dX9_since_57 (hS.n (by decide)) rfl ?_
  refine tr_iload 5 hX dX9_since_59 rfl ?_
  refine tr_if_eq 88 hX dX9_since_61 (by decide) (fun c5 => ?_) (fun c5 => ?_)
  · exact tr_sub [1, 2, 3, 4, 0, 6] rfl (t_X9_since_88 hX hS s29 x1 x2 x3 p0 x6 hs29)
  · refine tr_aload_n 1 hX dX9_since_64 rfl rfl ?_
    refine tr_iload 6 hX dX9_since_65 rfl ?_
    refine tr_callV0I (st := []) 1 hX hS dX9_since_67 (ok_X9_isAlive x6) sh_161 (by decide) rfl (Nat.le_of_ble_eq_true rfl) k_34_20 k_34_21 k_34_22 k_1_5 k_34_23 hy_X9_isAlive rfl rfl (Nat.le_of_ble_eq_true rfl) rfl (fun v1 => ?_)
    refine tr_if_eq 84 hX dX9_since_70 (by decide) (fun c4 => ?_) (fun c4 => ?_)
    · exact tr_sub [1, 2, 3, 4, 0, 6] rfl (t_X9_since_84 hX hS s29 x1 x2 x3 p0 x6 hs29)
    · refine tr_aload_n 1 hX dX9_since_73 rfl rfl ?_
      refine tr_iload 6 hX dX9_since_74 rfl ?_
      refine tr_iload_n 2 hX dX9_since_76 rfl rfl ?_
      refine tr_callV0I (st := []) 2 hX hS dX9_since_77 (ok_X9_wordOf x6 x1) sh_161 (by decide) rfl (Nat.le_of_ble_eq_true rfl) k_35_0 k_35_1 k_35_2 k_1_5 k_35_3 hy_X9_wordOf rfl rfl (Nat.le_of_ble_eq_true rfl) rfl (fun v2 => ?_)
      refine tr_iload_n 3 hX dX9_since_80 rfl rfl ?_
      refine tr_ic_ne 88 hX dX9_since_81 (by decide) (fun c3 => ?_) (fun c3 => ?_)
      · exact tr_sub [1, 2, 3, 4, 0, 6] rfl (t_X9_since_84 hX hS s29 x1 x2 x3 p0 x6 hs29)
      · exact tr_sub [1, 2, 3, 4, 0, 6] rfl (t_X9_since_88 hX hS s29 x1 x2 x3 p0 x6 hs29)
def f_X9_since_52 (s29 : Int32 → Int32 → Int32 → M Int32) (x1 : Int32) (x2 : Int32) (x3 : Int32) (x5 : Int32) (x6 : Int32) : M Int32 :=
  f_X9_since_57 s29 x1 x2 x3 x5 x6 1
set_option maxRecDepth 10000 in
set_option maxHeartbeats 4000000 in
theorem t_X9_since_52 {X : Cx} (hX : Good X RX9 cX9_since ((some .int))) (hS : Sta X 2 46 9) (s29 : Int32 → Int32 → Int32 → M Int32) (x1 : Int32) (x2 : Int32) (x3 : Int32) (x5 : Int32) (x6 : Int32) (hs29 : ∀ x4 : Int32, ∀ x5 : Int32, ∀ x6 : Int32, Tr X eI 0 0 29 [(0, .ref (cxAd X 161)), (1, .int x1), (2, .int x2), (3, .int x3), (4, .int x4), (5, .int x5), (6, .int x6)] [] (s29 x4 x5 x6)) : Tr X eI 0 0 52 [(0, .ref (cxAd X 161)), (1, .int x1), (2, .int x2), (3, .int x3), (5, .int x5), (6, .int x6)] [] (f_X9_since_52 s29 x1 x2 x3 x5 x6) := by
  unfold f_X9_since_52
  refine tr_iconst 1 hX dX9_since_52 (by decide) ?_
  refine tr_goto 57 hX dX9_since_53 (by decide) ?_
  exact tr_sub [0, 1, 2, 3, 4, 5] rfl (t_X9_since_57 hX hS s29 x1 x2 x3 x5 x6 1 hs29)
def f_X9_since_29 (x1 : Int32) (x2 : Int32) (x3 : Int32) (s29 : Int32 → Int32 → Int32 → M Int32) (x4 : Int32) (x5 : Int32) (x6 : Int32) : M Int32 :=
  rI 161 15 (fun v1 => if v1 ≤ x6 then (fix2 FU (f_X9_since_100 x4 x5) x3 0) else (if x4 = 0 then (bnd (f_X9_isAlive x6) (fun v2 => if v2 = 0 then (f_X9_since_57 s29 x1 x2 x3 x5 x6 0) else (f_X9_since_52 s29 x1 x2 x3 x5 x6))) else (f_X9_since_52 s29 x1 x2 x3 x5 x6)))
set_option maxRecDepth 10000 in
set_option maxHeartbeats 4000000 in
theorem t_X9_since_29 {X : Cx} (hX : Good X RX9 cX9_since ((some .int))) (hS : Sta X 2 46 9) (x1 : Int32) (x2 : Int32) (x3 : Int32) : ∀ s29 : Int32 → Int32 → Int32 → M Int32, (∀ x4 : Int32, ∀ x5 : Int32, ∀ x6 : Int32, Tr X eI 0 0 29 [(0, .ref (cxAd X 161)), (1, .int x1), (2, .int x2), (3, .int x3), (4, .int x4), (5, .int x5), (6, .int x6)] [] (s29 x4 x5 x6)) → ∀ x4 : Int32, ∀ x5 : Int32, ∀ x6 : Int32, Tr X eI 0 0 29 [(0, .ref (cxAd X 161)), (1, .int x1), (2, .int x2), (3, .int x3), (4, .int x4), (5, .int x5), (6, .int x6)] [] (f_X9_since_29 x1 x2 x3 s29 x4 x5 x6) := by
  intro s29 hs29 x4 x5 x6
  unfold f_X9_since_29
  refine tr_iload 6 hX dX9_since_29 rfl ?_
  refine tr_aload_n 0 hX dX9_since_31 rfl rfl ?_
  refine tr_getI hX dX9_since_32 sh_161 (by decide) rfl inlX9 (by decide) rfl (hS.e (Nat.le_of_ble_eq_true rfl)) k_12_13 (fun v1 => ?_)
  refine tr_ic_ge 97 hX dX9_since_35 (by decide) (fun c5 => ?_) (fun c5 => ?_)
  · refine tr_iconst 0 hX dX9_since_97 (by decide) ?_
    refine tr_istore hX dX9_since_98 (hS.n (by decide)) rfl ?_
    exact tr_sub [1, 4, 5, 6, 0] rfl (tr_fix2 (lvf := fun x3 x6 => [(0, .ref (cxAd X 161)), (3, .int x3), (4, .int x4), (5, .int x5), (6, .int x6)]) (t_X9_since_100 hX hS x4 x5) FU x3 0)
  · refine tr_iload 4 hX dX9_since_38 rfl ?_
    refine tr_if_ne 52 hX dX9_since_40 (by decide) (fun c4 => ?_) (fun c4 => ?_)
    · refine tr_aload_n 0 hX dX9_since_43 rfl rfl ?_
      refine tr_iload 6 hX dX9_since_44 rfl ?_
      refine tr_callV0I (st := []) 1 hX hS dX9_since_46 (ok_X9_isAlive x6) sh_161 (by decide) rfl (Nat.le_of_ble_eq_true rfl) k_34_20 k_34_21 k_34_22 k_1_5 k_34_23 hy_X9_isAlive rfl rfl (Nat.le_of_ble_eq_true rfl) rfl (fun v2 => ?_)
      refine tr_if_eq 56 hX dX9_since_49 (by decide) (fun c3 => ?_) (fun c3 => ?_)
      · refine tr_iconst 0 hX dX9_since_56 (by decide) ?_
        exact tr_sub [0, 1, 2, 3, 5, 6] rfl (t_X9_since_57 hX hS s29 x1 x2 x3 x5 x6 0 hs29)
      · exact tr_sub [0, 1, 2, 3, 5, 6] rfl (t_X9_since_52 hX hS s29 x1 x2 x3 x5 x6 hs29)
    · exact tr_sub [0, 1, 2, 3, 5, 6] rfl (t_X9_since_52 hX hS s29 x1 x2 x3 x5 x6 hs29)
def f_X9_since (x1 : Int32) (x2 : Int32) : M Int32 :=
  bnd (f_X9_isPlace x1) (fun v1 => if v1 = 0 then (f_X9_since_15) else (bnd (f_X9_isWord x2) (fun v2 => if v2 = 0 then (f_X9_since_15) else (fix3 FU (f_X9_since_29 x1 x2 (-4)) 0 1 0))))
set_option maxRecDepth 10000 in
set_option maxHeartbeats 4000000 in
theorem t_X9_since_0 {X : Cx} (hX : Good X RX9 cX9_since ((some .int))) (hS : Sta X 2 46 9) (x1 : Int32) (x2 : Int32) : Tr X eI 0 0 0 [(0, .ref (cxAd X 161)), (1, .int x1), (2, .int x2)] [] (f_X9_since x1 x2) := by
  unfold f_X9_since
  refine tr_iload_n 1 hX dX9_since_0 rfl rfl ?_
  refine tr_callS0I (st := []) 1 hX hS dX9_since_1 (ok_X9_isPlace x1) k_14_12 k_14_13 k_1_5 k_14_14 hy_X9_isPlace.2 rfl rfl (Nat.le_of_ble_eq_true rfl) rfl (fun v1 => ?_)
  refine tr_if_eq 15 hX dX9_since_4 (by decide) (fun c4 => ?_) (fun c4 => ?_)
  · exact tr_sub [] rfl (t_X9_since_15 hX hS)
  · refine tr_aload_n 0 hX dX9_since_7 rfl rfl ?_
    refine tr_iload_n 2 hX dX9_since_8 rfl rfl ?_
    refine tr_callV0I (st := []) 1 hX hS dX9_since_9 (ok_X9_isWord x2) sh_161 (by decide) rfl (Nat.le_of_ble_eq_true rfl) k_13_16 k_13_17 k_13_18 k_1_5 k_13_19 hy_X9_isWord rfl rfl (Nat.le_of_ble_eq_true rfl) rfl (fun v2 => ?_)
    refine tr_if_ne 17 hX dX9_since_12 (by decide) (fun c3 => ?_) (fun c3 => ?_)
    · exact tr_sub [] rfl (t_X9_since_15 hX hS)
    · refine tr_bipush (-4) hX dX9_since_17 (by decide) ?_
      refine tr_istore_n hX dX9_since_19 rfl (hS.n (by decide)) rfl ?_
      refine tr_iconst 0 hX dX9_since_20 (by decide) ?_
      refine tr_istore hX dX9_since_21 (hS.n (by decide)) rfl ?_
      refine tr_iconst 1 hX dX9_since_23 (by decide) ?_
      refine tr_istore hX dX9_since_24 (hS.n (by decide)) rfl ?_
      refine tr_iconst 0 hX dX9_since_26 (by decide) ?_
      refine tr_istore hX dX9_since_27 (hS.n (by decide)) rfl ?_
      exact tr_sub [4, 5, 6, 3, 2, 1, 0] rfl (tr_fix3 (lvf := fun x4 x5 x6 => [(0, .ref (cxAd X 161)), (1, .int x1), (2, .int x2), (3, .int (-4)), (4, .int x4), (5, .int x5), (6, .int x6)]) (t_X9_since_29 hX hS x1 x2 (-4)) FU 0 1 0)
theorem ok_X9_since {l : Launch} {E : Ev} (x1 : Int32) (x2 : Int32)  : Ok l E Gall yX9_since cX9_since 9 ((some .int)) (rmz 2 46) eI [.ref (E.2.1 161), .int x1, .int x2] (f_X9_since x1 x2) := by
  refine ok_of0 (by decide) (Nat.le_of_ble_eq_true rfl) (fun X hX hV hS => ?_)
  subst hV
  exact t_X9_since_0 hX hS x1 x2
def f_X9_areHeads (x1 : Int32) : M Int32 :=
  rI 161 15 (fun v1 => bnd (f_X9_in x1.toInt64 0 ((((1 <<< (v1 &&& 31)) - 1) : Int32).toInt64)) (fun v2 => gd (v2 = 0 ∨ v2 = 1) (rt v2)))
set_option maxRecDepth 10000 in
set_option maxHeartbeats 4000000 in
theorem t_X9_areHeads_0 {X : Cx} (hX : Good X RX9 cX9_areHeads ((some .boolean))) (hS : Sta X 1 25 2) (x1 : Int32) : Tr X eI 0 0 0 [(0, .ref (cxAd X 161)), (1, .int x1)] [] (f_X9_areHeads x1) := by
  unfold f_X9_areHeads
  refine tr_iload_n 1 hX dX9_areHeads_0 rfl rfl ?_
  refine tr_i2l hX dX9_areHeads_1 ?_
  refine tr_lconst 0 hX dX9_areHeads_2 (by decide) ?_
  refine tr_iconst 1 hX dX9_areHeads_3 (by decide) ?_
  refine tr_aload_n 0 hX dX9_areHeads_4 rfl rfl ?_
  refine tr_getI hX dX9_areHeads_5 sh_161 (by decide) rfl inlX9 (by decide) rfl (hS.e (Nat.le_of_ble_eq_true rfl)) k_12_13 (fun v1 => ?_)
  refine tr_ishl hX dX9_areHeads_8 ?_
  refine tr_iconst 1 hX dX9_areHeads_9 (by decide) ?_
  refine tr_isub hX dX9_areHeads_10 ?_
  refine tr_i2l hX dX9_areHeads_11 ?_
  refine tr_callS0I (st := []) 3 hX hS dX9_areHeads_12 (ok_X9_in x1.toInt64 0 ((((1 <<< (v1 &&& 31)) - 1) : Int32).toInt64)) k_8_8 k_8_9 k_1_5 k_8_10 hy_X9_in.2 rfl rfl (Nat.le_of_ble_eq_true rfl) rfl (fun v2 => ?_)
  exact tr_zret0 hX hS dX9_areHeads_15
theorem ok_X9_areHeads {l : Launch} {E : Ev} (x1 : Int32)  : Ok l E Gall yX9_areHeads cX9_areHeads 2 ((some .boolean)) (rmz 1 25) eI [.ref (E.2.1 161), .int x1] (f_X9_areHeads x1) := by
  refine ok_of0 (by decide) (Nat.le_of_ble_eq_true rfl) (fun X hX hV hS => ?_)
  subst hV
  exact t_X9_areHeads_0 hX hS x1
def f_X9_lost_75 (s17 : Int32 → Int32 → Int32 → M Int32) (x1 : Int32) (x2 : Int32) (x4 : Int32) (p0 : Int32) (p1 : Int32) : M Int32 :=
  nm ((p1 ||| p0)) (fun v1 => s17 x2 v1 (x4 + 1))
set_option maxRecDepth 10000 in
set_option maxHeartbeats 4000000 in
theorem t_X9_lost_75 {X : Cx} (hX : Good X RX9 cX9_lost ((some .int))) (hS : Sta X 2 46 6) (s17 : Int32 → Int32 → Int32 → M Int32) (x1 : Int32) (x2 : Int32) (x4 : Int32) (p0 : Int32) (p1 : Int32) (hs17 : ∀ x2 : Int32, ∀ x3 : Int32, ∀ x4 : Int32, Tr X eI 0 0 17 [(0, .ref (cxAd X 161)), (1, .int x1), (2, .int x2), (3, .int x3), (4, .int x4)] [] (s17 x2 x3 x4)) : Tr X eI 0 0 75 [(0, .ref (cxAd X 161)), (1, .int x1), (2, .int x2), (4, .int x4)] [.int p0, .int p1] (f_X9_lost_75 s17 x1 x2 x4 p0 p1) := by
  unfold f_X9_lost_75
  refine tr_ior hX dX9_lost_75 ?_
  refine tr_nm (fun v1 ev1 => ?_)
  refine tr_istore_n hX dX9_lost_76 rfl (hS.n (by decide)) rfl ?_
  refine tr_iinc (x4 + 1) 4 hX dX9_lost_77 rfl (congrArg (fun z => x4 + z) (by decide)) (hS.n (by decide)) rfl ?_
  refine tr_goto 17 hX dX9_lost_80 (by decide) ?_
  exact tr_sub [2, 3, 4, 1, 0] rfl (hs17 x2 v1 (x4 + 1))
def f_X9_lost_52 (s17 : Int32 → Int32 → Int32 → M Int32) (x1 : Int32) (x2 : Int32) (x3 : Int32) (x4 : Int32) (p0 : Int32) : M Int32 :=
  nm ((x2 ||| p0)) (fun v1 => bnd (f_X9_has x1 x4) (fun v2 => if v2 = 0 then (f_X9_lost_75 s17 x1 v1 x4 p0 x3) else (f_X9_lost_75 s17 x1 v1 x4 0 x3)))
set_option maxRecDepth 10000 in
set_option maxHeartbeats 4000000 in
theorem t_X9_lost_52 {X : Cx} (hX : Good X RX9 cX9_lost ((some .int))) (hS : Sta X 2 46 6) (s17 : Int32 → Int32 → Int32 → M Int32) (x1 : Int32) (x2 : Int32) (x3 : Int32) (x4 : Int32) (p0 : Int32) (hs17 : ∀ x2 : Int32, ∀ x3 : Int32, ∀ x4 : Int32, Tr X eI 0 0 17 [(0, .ref (cxAd X 161)), (1, .int x1), (2, .int x2), (3, .int x3), (4, .int x4)] [] (s17 x2 x3 x4)) : Tr X eI 0 0 52 [(0, .ref (cxAd X 161)), (1, .int x1), (2, .int x2), (3, .int x3), (4, .int x4)] [.int p0] (f_X9_lost_52 s17 x1 x2 x3 x4 p0) := by
  unfold f_X9_lost_52
  refine tr_istore hX dX9_lost_52 (hS.n (by decide)) rfl ?_
  refine tr_iload_n 3 hX dX9_lost_54 rfl rfl ?_
  refine tr_iload 0 hX dX9_lost_55 rfl ?_
  refine tr_ior hX dX9_lost_57 ?_
  refine tr_nm (fun v1 ev1 => ?_)
  refine tr_istore_n hX dX9_lost_58 rfl (hS.n (by decide)) rfl ?_
  refine tr_iload_n 4 hX dX9_lost_59 rfl rfl ?_
  refine tr_iload_n 3 hX dX9_lost_60 rfl rfl ?_
  refine tr_iload 5 hX dX9_lost_61 rfl ?_
  refine tr_callS0I (st := [.int x3]) 2 hX hS dX9_lost_63 (ok_X9_has x1 x4) k_16_16 k_16_17 k_1_5 k_16_18 hy_X9_has.2 rfl rfl (Nat.le_of_ble_eq_true rfl) rfl (fun v2 => ?_)
  refine tr_if_eq 73 hX dX9_lost_66 (by decide) (fun c3 => ?_) (fun c3 => ?_)
  · refine tr_iload 1 hX dX9_lost_73 rfl ?_
    exact tr_sub [2, 3, 0, 5] rfl (t_X9_lost_75 hX hS s17 x1 v1 x4 p0 x3 hs17)
  · refine tr_iconst 0 hX dX9_lost_69 (by decide) ?_
    refine tr_goto 75 hX dX9_lost_70 (by decide) ?_
    exact tr_sub [2, 3, 0, 5] rfl (t_X9_lost_75 hX hS s17 x1 v1 x4 0 x3 hs17)
def f_X9_lost_17 (x1 : Int32) (s17 : Int32 → Int32 → Int32 → M Int32) (x2 : Int32) (x3 : Int32) (x4 : Int32) : M Int32 :=
  rI 161 15 (fun v1 => if v1 ≤ x4 then (rt (x2 &&& (x3 ^^^ (-1)))) else (bnd (f_X9_isAlive x4) (fun v2 => if v2 = 0 then (f_X9_lost_52 s17 x1 x2 x3 x4 0) else (aI 174 64 ((4 * x4) + 2) (fun v3 => f_X9_lost_52 s17 x1 x2 x3 x4 (1 <<< (v3 &&& 31)))))))
set_option maxRecDepth 10000 in
set_option maxHeartbeats 4000000 in
theorem t_X9_lost_17 {X : Cx} (hX : Good X RX9 cX9_lost ((some .int))) (hS : Sta X 2 46 6) (x1 : Int32) : ∀ s17 : Int32 → Int32 → Int32 → M Int32, (∀ x2 : Int32, ∀ x3 : Int32, ∀ x4 : Int32, Tr X eI 0 0 17 [(0, .ref (cxAd X 161)), (1, .int x1), (2, .int x2), (3, .int x3), (4, .int x4)] [] (s17 x2 x3 x4)) → ∀ x2 : Int32, ∀ x3 : Int32, ∀ x4 : Int32, Tr X eI 0 0 17 [(0, .ref (cxAd X 161)), (1, .int x1), (2, .int x2), (3, .int x3), (4, .int x4)] [] (f_X9_lost_17 x1 s17 x2 x3 x4) := by
  intro s17 hs17 x2 x3 x4
  unfold f_X9_lost_17
  refine tr_iload 4 hX dX9_lost_17 rfl ?_
  refine tr_aload_n 0 hX dX9_lost_19 rfl rfl ?_
  refine tr_getI hX dX9_lost_20 sh_161 (by decide) rfl inlX9 (by decide) rfl (hS.e (Nat.le_of_ble_eq_true rfl)) k_12_13 (fun v1 => ?_)
  refine tr_ic_ge 83 hX dX9_lost_23 (by decide) (fun c6 => ?_) (fun c6 => ?_)
  · refine tr_iload_n 2 hX dX9_lost_83 rfl rfl ?_
    refine tr_iload_n 3 hX dX9_lost_84 rfl rfl ?_
    refine tr_iconst (-1) hX dX9_lost_85 (by decide) ?_
    refine tr_ixor hX dX9_lost_86 ?_
    refine tr_iand hX dX9_lost_87 ?_
    exact tr_iret0 hX hS dX9_lost_88
  · refine tr_aload_n 0 hX dX9_lost_26 rfl rfl ?_
    refine tr_iload 4 hX dX9_lost_27 rfl ?_
    refine tr_callV0I (st := []) 1 hX hS dX9_lost_29 (ok_X9_isAlive x4) sh_161 (by decide) rfl (Nat.le_of_ble_eq_true rfl) k_34_20 k_34_21 k_34_22 k_1_5 k_34_23 hy_X9_isAlive rfl rfl (Nat.le_of_ble_eq_true rfl) rfl (fun v2 => ?_)
    refine tr_if_eq 51 hX dX9_lost_32 (by decide) (fun c5 => ?_) (fun c5 => ?_)
    · refine tr_iconst 0 hX dX9_lost_51 (by decide) ?_
      exact tr_sub [0, 1, 2, 3, 4] rfl (t_X9_lost_52 hX hS s17 x1 x2 x3 x4 0 hs17)
    · refine tr_iconst 1 hX dX9_lost_35 (by decide) ?_
      refine tr_aload_n 0 hX dX9_lost_36 rfl rfl ?_
      refine tr_getF hX dX9_lost_37 sh_161 (by decide) rfl inlX9 (by decide) rfl (hS.g (Nat.le_of_ble_eq_true rfl)) cr_161_16 k_6_23 mq_161 ?_
      refine tr_iconst 4 hX dX9_lost_40 (by decide) ?_
      refine tr_iload 4 hX dX9_lost_41 rfl ?_
      refine tr_imul hX dX9_lost_43 ?_
      refine tr_iconst 2 hX dX9_lost_44 (by decide) ?_
      refine tr_iadd hX dX9_lost_45 ?_
      refine tr_iald hX dX9_lost_46 sh_174 (hS.e (Nat.le_of_ble_eq_true rfl)) (fun hb4 v3 => ?_)
      refine tr_ishl hX dX9_lost_47 ?_
      refine tr_goto 52 hX dX9_lost_48 (by decide) ?_
      exact tr_sub [0, 1, 2, 3, 4] rfl (t_X9_lost_52 hX hS s17 x1 x2 x3 x4 (1 <<< (v3 &&& 31)) hs17)
def f_X9_lost (x1 : Int32) : M Int32 :=
  bnd (f_X9_areHeads x1) (fun v1 => if v1 = 0 then (rt (-1)) else (fix3 FU (f_X9_lost_17 x1) 0 0 0))
set_option maxRecDepth 10000 in
set_option maxHeartbeats 4000000 in
theorem t_X9_lost_0 {X : Cx} (hX : Good X RX9 cX9_lost ((some .int))) (hS : Sta X 2 46 6) (x1 : Int32) : Tr X eI 0 0 0 [(0, .ref (cxAd X 161)), (1, .int x1)] [] (f_X9_lost x1) := by
  unfold f_X9_lost
  refine tr_aload_n 0 hX dX9_lost_0 rfl rfl ?_
  refine tr_iload_n 1 hX dX9_lost_1 rfl rfl ?_
  refine tr_callV0I (st := []) 1 hX hS dX9_lost_2 (ok_X9_areHeads x1) sh_161 (by decide) rfl (Nat.le_of_ble_eq_true rfl) k_36_21 k_36_22 k_36_23 k_1_5 k_37_0 hy_X9_areHeads rfl rfl (Nat.le_of_ble_eq_true rfl) rfl (fun v1 => ?_)
  refine tr_if_ne 10 hX dX9_lost_5 (by decide) (fun c2 => ?_) (fun c2 => ?_)
  · refine tr_iconst (-1) hX dX9_lost_8 (by decide) ?_
    exact tr_iret0 hX hS dX9_lost_9
  · refine tr_iconst 0 hX dX9_lost_10 (by decide) ?_
    refine tr_istore_n hX dX9_lost_11 rfl (hS.n (by decide)) rfl ?_
    refine tr_iconst 0 hX dX9_lost_12 (by decide) ?_
    refine tr_istore_n hX dX9_lost_13 rfl (hS.n (by decide)) rfl ?_
    refine tr_iconst 0 hX dX9_lost_14 (by decide) ?_
    refine tr_istore hX dX9_lost_15 (hS.n (by decide)) rfl ?_
    exact tr_sub [3, 4, 2, 1, 0] rfl (tr_fix3 (lvf := fun x2 x3 x4 => [(0, .ref (cxAd X 161)), (1, .int x1), (2, .int x2), (3, .int x3), (4, .int x4)]) (t_X9_lost_17 hX hS x1) FU 0 0 0)
theorem ok_X9_lost {l : Launch} {E : Ev} (x1 : Int32)  : Ok l E Gall yX9_lost cX9_lost 6 ((some .int)) (rmz 2 46) eI [.ref (E.2.1 161), .int x1] (f_X9_lost x1) := by
  refine ok_of0 (by decide) (Nat.le_of_ble_eq_true rfl) (fun X hX hV hS => ?_)
  subst hV
  exact t_X9_lost_0 hX hS x1
def f_X9_from_15  : M Int32 :=
  rt (-1)
set_option maxRecDepth 10000 in
set_option maxHeartbeats 4000000 in
theorem t_X9_from_15 {X : Cx} (hX : Good X RX9 cX9_from ((some .int))) (hS : Sta X 2 46 4) : Tr X eI 0 0 15 [] [] (f_X9_from_15) := by
  unfold f_X9_from_15
  refine tr_iconst (-1) hX dX9_from_15 (by decide) ?_
  exact tr_iret0 hX hS dX9_from_16
def f_X9_from_59 (s19 : Int32 → M Int32) (x1 : Int32) (x2 : Int32) (x3 : Int32) : M Int32 :=
  s19 (x3 + 1)
set_option maxRecDepth 10000 in
set_option maxHeartbeats 4000000 in
theorem t_X9_from_59 {X : Cx} (hX : Good X RX9 cX9_from ((some .int))) (hS : Sta X 2 46 4) (s19 : Int32 → M Int32) (x1 : Int32) (x2 : Int32) (x3 : Int32) (hs19 : ∀ x3 : Int32, Tr X eI 0 0 19 [(0, .ref (cxAd X 161)), (1, .int x1), (2, .int x2), (3, .int x3)] [] (s19 x3)) : Tr X eI 0 0 59 [(0, .ref (cxAd X 161)), (1, .int x1), (2, .int x2), (3, .int x3)] [] (f_X9_from_59 s19 x1 x2 x3) := by
  unfold f_X9_from_59
  refine tr_iinc (x3 + 1) 3 hX dX9_from_59 rfl (congrArg (fun z => x3 + z) (by decide)) (hS.n (by decide)) rfl ?_
  refine tr_goto 19 hX dX9_from_62 (by decide) ?_
  exact tr_sub [1, 2, 3, 0] rfl (hs19 (x3 + 1))
def f_X9_from_19 (x1 : Int32) (x2 : Int32) (s19 : Int32 → M Int32) (x3 : Int32) : M Int32 :=
  rI 161 15 (fun v1 => if v1 ≤ x3 then (rt (-4)) else (bnd (f_X9_isAlive x3) (fun v2 => if v2 = 0 then (f_X9_from_59 s19 x1 x2 x3) else (bnd (f_X9_has x1 x3) (fun v3 => if v3 = 0 then (aI 174 64 ((4 * x3) + 2) (fun v4 => if v4 = x2 then (rt x3) else (f_X9_from_59 s19 x1 x2 x3))) else (f_X9_from_59 s19 x1 x2 x3))))))
set_option maxRecDepth 10000 in
set_option maxHeartbeats 4000000 in
theorem t_X9_from_19 {X : Cx} (hX : Good X RX9 cX9_from ((some .int))) (hS : Sta X 2 46 4) (x1 : Int32) (x2 : Int32) : ∀ s19 : Int32 → M Int32, (∀ x3 : Int32, Tr X eI 0 0 19 [(0, .ref (cxAd X 161)), (1, .int x1), (2, .int x2), (3, .int x3)] [] (s19 x3)) → ∀ x3 : Int32, Tr X eI 0 0 19 [(0, .ref (cxAd X 161)), (1, .int x1), (2, .int x2), (3, .int x3)] [] (f_X9_from_19 x1 x2 s19 x3) := by
  intro s19 hs19 x3
  unfold f_X9_from_19
  refine tr_iload_n 3 hX dX9_from_19 rfl rfl ?_
  refine tr_aload_n 0 hX dX9_from_20 rfl rfl ?_
  refine tr_getI hX dX9_from_21 sh_161 (by decide) rfl inlX9 (by decide) rfl (hS.e (Nat.le_of_ble_eq_true rfl)) k_12_13 (fun v1 => ?_)
  refine tr_ic_ge 65 hX dX9_from_24 (by decide) (fun c9 => ?_) (fun c9 => ?_)
  · refine tr_bipush (-4) hX dX9_from_65 (by decide) ?_
    exact tr_iret0 hX hS dX9_from_67
  · refine tr_aload_n 0 hX dX9_from_27 rfl rfl ?_
    refine tr_iload_n 3 hX dX9_from_28 rfl rfl ?_
    refine tr_callV0I (st := []) 1 hX hS dX9_from_29 (ok_X9_isAlive x3) sh_161 (by decide) rfl (Nat.le_of_ble_eq_true rfl) k_34_20 k_34_21 k_34_22 k_1_5 k_34_23 hy_X9_isAlive rfl rfl (Nat.le_of_ble_eq_true rfl) rfl (fun v2 => ?_)
    refine tr_if_eq 59 hX dX9_from_32 (by decide) (fun c8 => ?_) (fun c8 => ?_)
    · exact tr_sub [0, 1, 2, 3] rfl (t_X9_from_59 hX hS s19 x1 x2 x3 hs19)
    · refine tr_iload_n 1 hX dX9_from_35 rfl rfl ?_
      refine tr_iload_n 3 hX dX9_from_36 rfl rfl ?_
      refine tr_callS0I (st := []) 2 hX hS dX9_from_37 (ok_X9_has x1 x3) k_16_16 k_16_17 k_1_5 k_16_18 hy_X9_has.2 rfl rfl (Nat.le_of_ble_eq_true rfl) rfl (fun v3 => ?_)
      refine tr_if_ne 59 hX dX9_from_40 (by decide) (fun c7 => ?_) (fun c7 => ?_)
      · refine tr_aload_n 0 hX dX9_from_43 rfl rfl ?_
        refine tr_getF hX dX9_from_44 sh_161 (by decide) rfl inlX9 (by decide) rfl (hS.g (Nat.le_of_ble_eq_true rfl)) cr_161_16 k_6_23 mq_161 ?_
        refine tr_iconst 4 hX dX9_from_47 (by decide) ?_
        refine tr_iload_n 3 hX dX9_from_48 rfl rfl ?_
        refine tr_imul hX dX9_from_49 ?_
        refine tr_iconst 2 hX dX9_from_50 (by decide) ?_
        refine tr_iadd hX dX9_from_51 ?_
        refine tr_iald hX dX9_from_52 sh_174 (hS.e (Nat.le_of_ble_eq_true rfl)) (fun hb5 v4 => ?_)
        refine tr_iload_n 2 hX dX9_from_53 rfl rfl ?_
        refine tr_ic_ne 59 hX dX9_from_54 (by decide) (fun c6 => ?_) (fun c6 => ?_)
        · refine tr_iload_n 3 hX dX9_from_57 rfl rfl ?_
          exact tr_iret0 hX hS dX9_from_58
        · exact tr_sub [0, 1, 2, 3] rfl (t_X9_from_59 hX hS s19 x1 x2 x3 hs19)
      · exact tr_sub [0, 1, 2, 3] rfl (t_X9_from_59 hX hS s19 x1 x2 x3 hs19)
def f_X9_from (x1 : Int32) (x2 : Int32) : M Int32 :=
  bnd (f_X9_areHeads x1) (fun v1 => if v1 = 0 then (f_X9_from_15) else (bnd (f_X9_isVerse x2) (fun v2 => if v2 = 0 then (f_X9_from_15) else (fix1 FU (f_X9_from_19 x1 x2) 0))))
set_option maxRecDepth 10000 in
set_option maxHeartbeats 4000000 in
theorem t_X9_from_0 {X : Cx} (hX : Good X RX9 cX9_from ((some .int))) (hS : Sta X 2 46 4) (x1 : Int32) (x2 : Int32) : Tr X eI 0 0 0 [(0, .ref (cxAd X 161)), (1, .int x1), (2, .int x2)] [] (f_X9_from x1 x2) := by
  unfold f_X9_from
  refine tr_aload_n 0 hX dX9_from_0 rfl rfl ?_
  refine tr_iload_n 1 hX dX9_from_1 rfl rfl ?_
  refine tr_callV0I (st := []) 1 hX hS dX9_from_2 (ok_X9_areHeads x1) sh_161 (by decide) rfl (Nat.le_of_ble_eq_true rfl) k_36_21 k_36_22 k_36_23 k_1_5 k_37_0 hy_X9_areHeads rfl rfl (Nat.le_of_ble_eq_true rfl) rfl (fun v1 => ?_)
  refine tr_if_eq 15 hX dX9_from_5 (by decide) (fun c4 => ?_) (fun c4 => ?_)
  · exact tr_sub [] rfl (t_X9_from_15 hX hS)
  · refine tr_iload_n 2 hX dX9_from_8 rfl rfl ?_
    refine tr_callS0I (st := []) 1 hX hS dX9_from_9 (ok_X9_isVerse x2) k_13_12 k_13_13 k_1_5 k_13_14 hy_X9_isVerse.2 rfl rfl (Nat.le_of_ble_eq_true rfl) rfl (fun v2 => ?_)
    refine tr_if_ne 17 hX dX9_from_12 (by decide) (fun c3 => ?_) (fun c3 => ?_)
    · exact tr_sub [] rfl (t_X9_from_15 hX hS)
    · refine tr_iconst 0 hX dX9_from_17 (by decide) ?_
      refine tr_istore_n hX dX9_from_18 rfl (hS.n (by decide)) rfl ?_
      exact tr_sub [1, 2, 3, 0] rfl (tr_fix1 (lvf := fun x3 => [(0, .ref (cxAd X 161)), (1, .int x1), (2, .int x2), (3, .int x3)]) (t_X9_from_19 hX hS x1 x2) FU 0)
theorem ok_X9_from {l : Launch} {E : Ev} (x1 : Int32) (x2 : Int32)  : Ok l E Gall yX9_from cX9_from 4 ((some .int)) (rmz 2 46) eI [.ref (E.2.1 161), .int x1, .int x2] (f_X9_from x1 x2) := by
  refine ok_of0 (by decide) (Nat.le_of_ble_eq_true rfl) (fun X hX hV hS => ?_)
  subst hV
  exact t_X9_from_0 hX hS x1 x2
def f_X9_odds_47  : M Int64 :=
  rt (-1)
set_option maxRecDepth 10000 in
set_option maxHeartbeats 4000000 in
theorem t_X9_odds_47 {X : Cx} (hX : Good X RX9 cX9_odds ((some .long))) (hS : Sta X 1 25 18) : Tr X eL 0 0 47 [] [] (f_X9_odds_47) := by
  unfold f_X9_odds_47
  refine tr_ldc2 hX dX9_odds_47 k_33_16 ?_
  exact tr_lret0 hX hS dX9_odds_50
def f_X9_odds_128 (x3 : Int32) (x13 : Int64) (s128 : Int64 → Int32 → M Int64) (x15 : Int64) (x17 : Int32) : M Int64 :=
  if x3 ≤ x17 then (rt x15) else (nm ((x15 * x13)) (fun v1 => s128 v1 (x17 + 1)))
set_option maxRecDepth 10000 in
set_option maxHeartbeats 4000000 in
theorem t_X9_odds_128 {X : Cx} (hX : Good X RX9 cX9_odds ((some .long))) (hS : Sta X 1 25 18) (x3 : Int32) (x13 : Int64) : ∀ s128 : Int64 → Int32 → M Int64, (∀ x15 : Int64, ∀ x17 : Int32, Tr X eL 0 0 128 [(3, .int x3), (13, .long x13), (15, .long x15), (17, .int x17)] [] (s128 x15 x17)) → ∀ x15 : Int64, ∀ x17 : Int32, Tr X eL 0 0 128 [(3, .int x3), (13, .long x13), (15, .long x15), (17, .int x17)] [] (f_X9_odds_128 x3 x13 s128 x15 x17) := by
  intro s128 hs128 x15 x17
  unfold f_X9_odds_128
  refine tr_iload 3 hX dX9_odds_128 rfl ?_
  refine tr_iload_n 0 hX dX9_odds_130 rfl rfl ?_
  refine tr_ic_ge 147 hX dX9_odds_131 (by decide) (fun c2 => ?_) (fun c2 => ?_)
  · refine tr_lload 2 hX dX9_odds_147 rfl ?_
    exact tr_lret0 hX hS dX9_odds_149
  · refine tr_lload 2 hX dX9_odds_134 rfl ?_
    refine tr_lload 1 hX dX9_odds_136 rfl ?_
    refine tr_lmul hX dX9_odds_138 ?_
    refine tr_nmL (fun v1 ev1 => ?_)
    refine tr_lstore hX dX9_odds_139 (hS.n (by decide)) rfl ?_
    refine tr_iinc (x17 + 1) 3 hX dX9_odds_141 rfl (congrArg (fun z => x17 + z) (by decide)) (hS.n (by decide)) rfl ?_
    refine tr_goto 128 hX dX9_odds_144 (by decide) ?_
    exact tr_sub [2, 3, 1, 0] rfl (hs128 v1 (x17 + 1))
def f_X9_odds_120 (x3 : Int32) (p0 : Int64) : M Int64 :=
  fix2 FU (f_X9_odds_128 x3 p0) 1 0
set_option maxRecDepth 10000 in
set_option maxHeartbeats 4000000 in
theorem t_X9_odds_120 {X : Cx} (hX : Good X RX9 cX9_odds ((some .long))) (hS : Sta X 1 25 18) (x3 : Int32) (p0 : Int64) : Tr X eL 0 0 120 [(3, .int x3)] [.long p0] (f_X9_odds_120 x3 p0) := by
  unfold f_X9_odds_120
  refine tr_lstore hX dX9_odds_120 (hS.n (by decide)) rfl ?_
  refine tr_lconst 1 hX dX9_odds_122 (by decide) ?_
  refine tr_lstore hX dX9_odds_123 (hS.n (by decide)) rfl ?_
  refine tr_iconst 0 hX dX9_odds_125 (by decide) ?_
  refine tr_istore hX dX9_odds_126 (hS.n (by decide)) rfl ?_
  exact tr_sub [3, 2, 1, 0] rfl (tr_fix2 (lvf := fun x15 x17 => [(3, .int x3), (13, .long p0), (15, .long x15), (17, .int x17)]) (t_X9_odds_128 hX hS x3 p0) FU 1 0)
def f_X9_odds_77 (x3 : Int32) (x4 : Int32) (x5 : Int64) (x7 : Int64) (s77 : Int64 → Int64 → M Int64) (x9 : Int64) (x11 : Int64) : M Int64 :=
  if (lg_cmp x11 0) = 0 then (if x4 = 0 then (gd (¬ (x9 : Int64) = 0) (f_X9_odds_120 x3 (x5 / x9))) else (gd (¬ (x9 : Int64) = 0) (f_X9_odds_120 x3 (x7 / x9)))) else (gd (¬ (x11 : Int64) = 0) (nm ((x9 - x9 / x11 * x11)) (fun v2 => s77 x11 v2)))
set_option maxRecDepth 10000 in
set_option maxHeartbeats 4000000 in
theorem t_X9_odds_77 {X : Cx} (hX : Good X RX9 cX9_odds ((some .long))) (hS : Sta X 1 25 18) (x3 : Int32) (x4 : Int32) (x5 : Int64) (x7 : Int64) : ∀ s77 : Int64 → Int64 → M Int64, (∀ x9 : Int64, ∀ x11 : Int64, Tr X eL 0 0 77 [(3, .int x3), (4, .int x4), (5, .long x5), (7, .long x7), (9, .long x9), (11, .long x11)] [] (s77 x9 x11)) → ∀ x9 : Int64, ∀ x11 : Int64, Tr X eL 0 0 77 [(3, .int x3), (4, .int x4), (5, .long x5), (7, .long x7), (9, .long x9), (11, .long x11)] [] (f_X9_odds_77 x3 x4 x5 x7 s77 x9 x11) := by
  intro s77 hs77 x9 x11
  unfold f_X9_odds_77
  refine tr_lload 5 hX dX9_odds_77 rfl ?_
  refine tr_lconst 0 hX dX9_odds_79 (by decide) ?_
  refine tr_lcmp hX dX9_odds_80 ?_
  refine tr_if_eq 102 hX dX9_odds_81 (by decide) (fun c3 => ?_) (fun c3 => ?_)
  · refine tr_iload 1 hX dX9_odds_102 rfl ?_
    refine tr_if_ne 115 hX dX9_odds_104 (by decide) (fun c1 => ?_) (fun c1 => ?_)
    · refine tr_lload 2 hX dX9_odds_107 rfl ?_
      refine tr_lload 4 hX dX9_odds_109 rfl ?_
      refine tr_ldiv hX dX9_odds_111 (fun _ => ?_)
      refine tr_goto 120 hX dX9_odds_112 (by decide) ?_
      exact tr_sub [0] rfl (t_X9_odds_120 hX hS x3 (x5 / x9))
    · refine tr_lload 3 hX dX9_odds_115 rfl ?_
      refine tr_lload 4 hX dX9_odds_117 rfl ?_
      refine tr_ldiv hX dX9_odds_119 (fun _ => ?_)
      exact tr_sub [0] rfl (t_X9_odds_120 hX hS x3 (x7 / x9))
  · refine tr_lload 4 hX dX9_odds_84 rfl ?_
    refine tr_lload 5 hX dX9_odds_86 rfl ?_
    refine tr_lrem hX dX9_odds_88 (fun _ => ?_)
    refine tr_nmL (fun v2 ev2 => ?_)
    refine tr_lstore hX dX9_odds_89 (hS.n (by decide)) rfl ?_
    refine tr_lload 6 hX dX9_odds_91 rfl ?_
    refine tr_lstore hX dX9_odds_93 (hS.n (by decide)) rfl ?_
    refine tr_lload 1 hX dX9_odds_95 rfl ?_
    refine tr_lstore hX dX9_odds_97 (hS.n (by decide)) rfl ?_
    refine tr_goto 77 hX dX9_odds_99 (by decide) ?_
    exact tr_sub [3, 4, 5, 6, 1, 0] rfl (hs77 x11 v2)
def f_X9_odds (x1 : Int32) (x2 : Int32) (x3 : Int32) (x4 : Int32) : M Int64 :=
  bnd (f_X9_in x1.toInt64 0 100) (fun v1 => if v1 = 0 then (f_X9_odds_47) else (bnd (f_X9_in x2.toInt64 0 100) (fun v2 => if v2 = 0 then (f_X9_odds_47) else (bnd (f_X9_in x3.toInt64 1 4) (fun v3 => if v3 = 0 then (f_X9_odds_47) else (bnd (f_X9_in x4.toInt64 0 1) (fun v4 => if v4 = 0 then (f_X9_odds_47) else (nm ((10000 - ((x1 * (100 - x2)) : Int32).toInt64)) (fun v5 => fix2 FU (f_X9_odds_77 x3 x4 v5 10000) 10000 v5)))))))))
set_option maxRecDepth 10000 in
set_option maxHeartbeats 4000000 in
theorem t_X9_odds_0 {X : Cx} (hX : Good X RX9 cX9_odds ((some .long))) (hS : Sta X 1 25 18) (x1 : Int32) (x2 : Int32) (x3 : Int32) (x4 : Int32) : Tr X eL 0 0 0 [(0, .ref (cxAd X 161)), (1, .int x1), (2, .int x2), (3, .int x3), (4, .int x4)] [] (f_X9_odds x1 x2 x3 x4) := by
  unfold f_X9_odds
  refine tr_iload_n 1 hX dX9_odds_0 rfl rfl ?_
  refine tr_i2l hX dX9_odds_1 ?_
  refine tr_lconst 0 hX dX9_odds_2 (by decide) ?_
  refine tr_ldc2 hX dX9_odds_3 k_38_1 ?_
  refine tr_callS0I (st := []) 3 hX hS dX9_odds_6 (ok_X9_in x1.toInt64 0 100) k_8_8 k_8_9 k_1_5 k_8_10 hy_X9_in.2 rfl rfl (Nat.le_of_ble_eq_true rfl) rfl (fun v1 => ?_)
  refine tr_if_eq 47 hX dX9_odds_9 (by decide) (fun c9 => ?_) (fun c9 => ?_)
  · exact tr_sub [] rfl (t_X9_odds_47 hX hS)
  · refine tr_iload_n 2 hX dX9_odds_12 rfl rfl ?_
    refine tr_i2l hX dX9_odds_13 ?_
    refine tr_lconst 0 hX dX9_odds_14 (by decide) ?_
    refine tr_ldc2 hX dX9_odds_15 k_38_1 ?_
    refine tr_callS0I (st := []) 3 hX hS dX9_odds_18 (ok_X9_in x2.toInt64 0 100) k_8_8 k_8_9 k_1_5 k_8_10 hy_X9_in.2 rfl rfl (Nat.le_of_ble_eq_true rfl) rfl (fun v2 => ?_)
    refine tr_if_eq 47 hX dX9_odds_21 (by decide) (fun c8 => ?_) (fun c8 => ?_)
    · exact tr_sub [] rfl (t_X9_odds_47 hX hS)
    · refine tr_iload_n 3 hX dX9_odds_24 rfl rfl ?_
      refine tr_i2l hX dX9_odds_25 ?_
      refine tr_lconst 1 hX dX9_odds_26 (by decide) ?_
      refine tr_ldc2 hX dX9_odds_27 k_10_18 ?_
      refine tr_callS0I (st := []) 3 hX hS dX9_odds_30 (ok_X9_in x3.toInt64 1 4) k_8_8 k_8_9 k_1_5 k_8_10 hy_X9_in.2 rfl rfl (Nat.le_of_ble_eq_true rfl) rfl (fun v3 => ?_)
      refine tr_if_eq 47 hX dX9_odds_33 (by decide) (fun c7 => ?_) (fun c7 => ?_)
      · exact tr_sub [] rfl (t_X9_odds_47 hX hS)
      · refine tr_iload 4 hX dX9_odds_36 rfl ?_
        refine tr_i2l hX dX9_odds_38 ?_
        refine tr_lconst 0 hX dX9_odds_39 (by decide) ?_
        refine tr_lconst 1 hX dX9_odds_40 (by decide) ?_
        refine tr_callS0I (st := []) 3 hX hS dX9_odds_41 (ok_X9_in x4.toInt64 0 1) k_8_8 k_8_9 k_1_5 k_8_10 hy_X9_in.2 rfl rfl (Nat.le_of_ble_eq_true rfl) rfl (fun v4 => ?_)
        refine tr_if_ne 51 hX dX9_odds_44 (by decide) (fun c6 => ?_) (fun c6 => ?_)
        · exact tr_sub [] rfl (t_X9_odds_47 hX hS)
        · refine tr_ldc2 hX dX9_odds_51 k_38_2 ?_
          refine tr_iload_n 1 hX dX9_odds_54 rfl rfl ?_
          refine tr_bipush 100 hX dX9_odds_55 (by decide) ?_
          refine tr_iload_n 2 hX dX9_odds_57 rfl rfl ?_
          refine tr_isub hX dX9_odds_58 ?_
          refine tr_imul hX dX9_odds_59 ?_
          refine tr_i2l hX dX9_odds_60 ?_
          refine tr_lsub hX dX9_odds_61 ?_
          refine tr_nmL (fun v5 ev5 => ?_)
          refine tr_lstore hX dX9_odds_62 (hS.n (by decide)) rfl ?_
          refine tr_ldc2 hX dX9_odds_64 k_38_2 ?_
          refine tr_lstore hX dX9_odds_67 (hS.n (by decide)) rfl ?_
          refine tr_lload 0 hX dX9_odds_69 rfl ?_
          refine tr_lstore hX dX9_odds_71 (hS.n (by decide)) rfl ?_
          refine tr_lload 2 hX dX9_odds_73 rfl ?_
          refine tr_lstore hX dX9_odds_75 (hS.n (by decide)) rfl ?_
          exact tr_sub [7, 8, 3, 2, 1, 0] rfl (tr_fix2 (lvf := fun x9 x11 => [(3, .int x3), (4, .int x4), (5, .long v5), (7, .long 10000), (9, .long x9), (11, .long x11)]) (t_X9_odds_77 hX hS x3 x4 v5 10000) FU 10000 v5)
theorem ok_X9_odds {l : Launch} {E : Ev} (x1 : Int32) (x2 : Int32) (x3 : Int32) (x4 : Int32)  : Ok l E Gall yX9_odds cX9_odds 18 ((some .long)) (rmz 1 25) eL [.ref (E.2.1 161), .int x1, .int x2, .int x3, .int x4] (f_X9_odds x1 x2 x3 x4) := by
  refine ok_of0 (by decide) (Nat.le_of_ble_eq_true rfl) (fun X hX hV hS => ?_)
  subst hV
  exact t_X9_odds_0 hX hS x1 x2 x3 x4
def f_X9_copy_110 (x1 : Int32) (x2 : Int32) (s110 : Int32 → M Unit) (x3 : Int32) : M Unit :=
  if 84 ≤ x3 then (rt ()) else (aI 172 252 ((84 * x1) + x3) (fun v1 => sI 172 252 ((84 * x2) + x3) v1 (s110 (x3 + 1))))
set_option maxRecDepth 10000 in
set_option maxHeartbeats 4000000 in
theorem t_X9_copy_110 {X : Cx} (hX : Good X RX9 cX9_copy (none)) (hS : Sta X 0 0 4) (x1 : Int32) (x2 : Int32) : ∀ s110 : Int32 → M Unit, (∀ x3 : Int32, Tr X eU 0 0 110 [(0, .ref (cxAd X 161)), (1, .int x1), (2, .int x2), (3, .int x3)] [] (s110 x3)) → ∀ x3 : Int32, Tr X eU 0 0 110 [(0, .ref (cxAd X 161)), (1, .int x1), (2, .int x2), (3, .int x3)] [] (f_X9_copy_110 x1 x2 s110 x3) := by
  intro s110 hs110 x3
  unfold f_X9_copy_110
  refine tr_iload_n 3 hX dX9_copy_110 rfl rfl ?_
  refine tr_bipush 84 hX dX9_copy_111 (by decide) ?_
  refine tr_ic_ge 144 hX dX9_copy_113 (by decide) (fun c3 => ?_) (fun c3 => ?_)
  · exact tr_vret0 hX hS dX9_copy_144
  · refine tr_aload_n 0 hX dX9_copy_116 rfl rfl ?_
    refine tr_getF hX dX9_copy_117 sh_161 (by decide) rfl inlX9 (by decide) rfl (hS.g (Nat.le_of_ble_eq_true rfl)) cr_161_11 k_6_21 mq_161 ?_
    refine tr_bipush 84 hX dX9_copy_120 (by decide) ?_
    refine tr_iload_n 2 hX dX9_copy_122 rfl rfl ?_
    refine tr_imul hX dX9_copy_123 ?_
    refine tr_iload_n 3 hX dX9_copy_124 rfl rfl ?_
    refine tr_iadd hX dX9_copy_125 ?_
    refine tr_aload_n 0 hX dX9_copy_126 rfl rfl ?_
    refine tr_getF hX dX9_copy_127 sh_161 (by decide) rfl inlX9 (by decide) rfl (hS.g (Nat.le_of_ble_eq_true rfl)) cr_161_11 k_6_21 mq_161 ?_
    refine tr_bipush 84 hX dX9_copy_130 (by decide) ?_
    refine tr_iload_n 1 hX dX9_copy_132 rfl rfl ?_
    refine tr_imul hX dX9_copy_133 ?_
    refine tr_iload_n 3 hX dX9_copy_134 rfl rfl ?_
    refine tr_iadd hX dX9_copy_135 ?_
    refine tr_iald hX dX9_copy_136 sh_172 (hS.e (Nat.le_of_ble_eq_true rfl)) (fun hb2 v1 => ?_)
    refine tr_iast hX dX9_copy_137 sh_172 (hS.e (Nat.le_of_ble_eq_true rfl)) (fun _ => ?_)
    refine tr_iinc (x3 + 1) 3 hX dX9_copy_138 rfl (congrArg (fun z => x3 + z) (by decide)) (hS.n (by decide)) rfl ?_
    refine tr_goto 110 hX dX9_copy_141 (by decide) ?_
    exact tr_sub [1, 2, 3, 0] rfl (hs110 (x3 + 1))
def f_X9_copy_38 (x1 : Int32) (x2 : Int32) (s38 : Int32 → M Unit) (x3 : Int32) : M Unit :=
  if 48 ≤ x3 then (aI 169 3 x1 (fun v1 => sI 169 3 x2 v1 (aI 170 3 x1 (fun v3 => sI 170 3 x2 v3 (aI 171 3 x1 (fun v5 => sI 171 3 x2 v5 (fix1 FU (f_X9_copy_110 x1 x2) 0))))))) else (aI 168 144 ((48 * x1) + x3) (fun v7 => sI 168 144 ((48 * x2) + x3) v7 (s38 (x3 + 1))))
set_option maxRecDepth 10000 in
set_option maxHeartbeats 4000000 in
theorem t_X9_copy_38 {X : Cx} (hX : Good X RX9 cX9_copy (none)) (hS : Sta X 0 0 4) (x1 : Int32) (x2 : Int32) : ∀ s38 : Int32 → M Unit, (∀ x3 : Int32, Tr X eU 0 0 38 [(0, .ref (cxAd X 161)), (1, .int x1), (2, .int x2), (3, .int x3)] [] (s38 x3)) → ∀ x3 : Int32, Tr X eU 0 0 38 [(0, .ref (cxAd X 161)), (1, .int x1), (2, .int x2), (3, .int x3)] [] (f_X9_copy_38 x1 x2 s38 x3) := by
  intro s38 hs38 x3
  unfold f_X9_copy_38
  refine tr_iload_n 3 hX dX9_copy_38 rfl rfl ?_
  refine tr_bipush 48 hX dX9_copy_39 (by decide) ?_
  refine tr_ic_ge 72 hX dX9_copy_41 (by decide) (fun c9 => ?_) (fun c9 => ?_)
  · refine tr_aload_n 0 hX dX9_copy_72 rfl rfl ?_
    refine tr_getF hX dX9_copy_73 sh_161 (by decide) rfl inlX9 (by decide) rfl (hS.g (Nat.le_of_ble_eq_true rfl)) cr_161_8 k_6_18 mq_161 ?_
    refine tr_iload_n 2 hX dX9_copy_76 rfl rfl ?_
    refine tr_aload_n 0 hX dX9_copy_77 rfl rfl ?_
    refine tr_getF hX dX9_copy_78 sh_161 (by decide) rfl inlX9 (by decide) rfl (hS.g (Nat.le_of_ble_eq_true rfl)) cr_161_8 k_6_18 mq_161 ?_
    refine tr_iload_n 1 hX dX9_copy_81 rfl rfl ?_
    refine tr_iald hX dX9_copy_82 sh_169 (hS.e (Nat.le_of_ble_eq_true rfl)) (fun hb2 v1 => ?_)
    refine tr_iast hX dX9_copy_83 sh_169 (hS.e (Nat.le_of_ble_eq_true rfl)) (fun _ => ?_)
    refine tr_aload_n 0 hX dX9_copy_84 rfl rfl ?_
    refine tr_getF hX dX9_copy_85 sh_161 (by decide) rfl inlX9 (by decide) rfl (hS.g (Nat.le_of_ble_eq_true rfl)) cr_161_9 k_6_19 mq_161 ?_
    refine tr_iload_n 2 hX dX9_copy_88 rfl rfl ?_
    refine tr_aload_n 0 hX dX9_copy_89 rfl rfl ?_
    refine tr_getF hX dX9_copy_90 sh_161 (by decide) rfl inlX9 (by decide) rfl (hS.g (Nat.le_of_ble_eq_true rfl)) cr_161_9 k_6_19 mq_161 ?_
    refine tr_iload_n 1 hX dX9_copy_93 rfl rfl ?_
    refine tr_iald hX dX9_copy_94 sh_170 (hS.e (Nat.le_of_ble_eq_true rfl)) (fun hb4 v3 => ?_)
    refine tr_iast hX dX9_copy_95 sh_170 (hS.e (Nat.le_of_ble_eq_true rfl)) (fun _ => ?_)
    refine tr_aload_n 0 hX dX9_copy_96 rfl rfl ?_
    refine tr_getF hX dX9_copy_97 sh_161 (by decide) rfl inlX9 (by decide) rfl (hS.g (Nat.le_of_ble_eq_true rfl)) cr_161_10 k_6_20 mq_161 ?_
    refine tr_iload_n 2 hX dX9_copy_100 rfl rfl ?_
    refine tr_aload_n 0 hX dX9_copy_101 rfl rfl ?_
    refine tr_getF hX dX9_copy_102 sh_161 (by decide) rfl inlX9 (by decide) rfl (hS.g (Nat.le_of_ble_eq_true rfl)) cr_161_10 k_6_20 mq_161 ?_
    refine tr_iload_n 1 hX dX9_copy_105 rfl rfl ?_
    refine tr_iald hX dX9_copy_106 sh_171 (hS.e (Nat.le_of_ble_eq_true rfl)) (fun hb6 v5 => ?_)
    refine tr_iast hX dX9_copy_107 sh_171 (hS.e (Nat.le_of_ble_eq_true rfl)) (fun _ => ?_)
    refine tr_iconst 0 hX dX9_copy_108 (by decide) ?_
    refine tr_istore_n hX dX9_copy_109 rfl (hS.n (by decide)) rfl ?_
    exact tr_sub [1, 2, 3, 0] rfl (tr_fix1 (lvf := fun x3 => [(0, .ref (cxAd X 161)), (1, .int x1), (2, .int x2), (3, .int x3)]) (t_X9_copy_110 hX hS x1 x2) FU 0)
  · refine tr_aload_n 0 hX dX9_copy_44 rfl rfl ?_
    refine tr_getF hX dX9_copy_45 sh_161 (by decide) rfl inlX9 (by decide) rfl (hS.g (Nat.le_of_ble_eq_true rfl)) cr_161_7 k_6_17 mq_161 ?_
    refine tr_bipush 48 hX dX9_copy_48 (by decide) ?_
    refine tr_iload_n 2 hX dX9_copy_50 rfl rfl ?_
    refine tr_imul hX dX9_copy_51 ?_
    refine tr_iload_n 3 hX dX9_copy_52 rfl rfl ?_
    refine tr_iadd hX dX9_copy_53 ?_
    refine tr_aload_n 0 hX dX9_copy_54 rfl rfl ?_
    refine tr_getF hX dX9_copy_55 sh_161 (by decide) rfl inlX9 (by decide) rfl (hS.g (Nat.le_of_ble_eq_true rfl)) cr_161_7 k_6_17 mq_161 ?_
    refine tr_bipush 48 hX dX9_copy_58 (by decide) ?_
    refine tr_iload_n 1 hX dX9_copy_60 rfl rfl ?_
    refine tr_imul hX dX9_copy_61 ?_
    refine tr_iload_n 3 hX dX9_copy_62 rfl rfl ?_
    refine tr_iadd hX dX9_copy_63 ?_
    refine tr_iald hX dX9_copy_64 sh_168 (hS.e (Nat.le_of_ble_eq_true rfl)) (fun hb8 v7 => ?_)
    refine tr_iast hX dX9_copy_65 sh_168 (hS.e (Nat.le_of_ble_eq_true rfl)) (fun _ => ?_)
    refine tr_iinc (x3 + 1) 3 hX dX9_copy_66 rfl (congrArg (fun z => x3 + z) (by decide)) (hS.n (by decide)) rfl ?_
    refine tr_goto 38 hX dX9_copy_69 (by decide) ?_
    exact tr_sub [1, 2, 3, 0] rfl (hs38 (x3 + 1))
def f_X9_copy_2 (x1 : Int32) (x2 : Int32) (s2 : Int32 → M Unit) (x3 : Int32) : M Unit :=
  if 6 ≤ x3 then (fix1 FU (f_X9_copy_38 x1 x2) 0) else (aI 167 18 ((6 * x1) + x3) (fun v1 => sI 167 18 ((6 * x2) + x3) v1 (s2 (x3 + 1))))
set_option maxRecDepth 10000 in
set_option maxHeartbeats 4000000 in
theorem t_X9_copy_2 {X : Cx} (hX : Good X RX9 cX9_copy (none)) (hS : Sta X 0 0 4) (x1 : Int32) (x2 : Int32) : ∀ s2 : Int32 → M Unit, (∀ x3 : Int32, Tr X eU 0 0 2 [(0, .ref (cxAd X 161)), (1, .int x1), (2, .int x2), (3, .int x3)] [] (s2 x3)) → ∀ x3 : Int32, Tr X eU 0 0 2 [(0, .ref (cxAd X 161)), (1, .int x1), (2, .int x2), (3, .int x3)] [] (f_X9_copy_2 x1 x2 s2 x3) := by
  intro s2 hs2 x3
  unfold f_X9_copy_2
  refine tr_iload_n 3 hX dX9_copy_2 rfl rfl ?_
  refine tr_bipush 6 hX dX9_copy_3 (by decide) ?_
  refine tr_ic_ge 36 hX dX9_copy_5 (by decide) (fun c3 => ?_) (fun c3 => ?_)
  · refine tr_iconst 0 hX dX9_copy_36 (by decide) ?_
    refine tr_istore_n hX dX9_copy_37 rfl (hS.n (by decide)) rfl ?_
    exact tr_sub [1, 2, 3, 0] rfl (tr_fix1 (lvf := fun x3 => [(0, .ref (cxAd X 161)), (1, .int x1), (2, .int x2), (3, .int x3)]) (t_X9_copy_38 hX hS x1 x2) FU 0)
  · refine tr_aload_n 0 hX dX9_copy_8 rfl rfl ?_
    refine tr_getF hX dX9_copy_9 sh_161 (by decide) rfl inlX9 (by decide) rfl (hS.g (Nat.le_of_ble_eq_true rfl)) cr_161_6 k_6_16 mq_161 ?_
    refine tr_bipush 6 hX dX9_copy_12 (by decide) ?_
    refine tr_iload_n 2 hX dX9_copy_14 rfl rfl ?_
    refine tr_imul hX dX9_copy_15 ?_
    refine tr_iload_n 3 hX dX9_copy_16 rfl rfl ?_
    refine tr_iadd hX dX9_copy_17 ?_
    refine tr_aload_n 0 hX dX9_copy_18 rfl rfl ?_
    refine tr_getF hX dX9_copy_19 sh_161 (by decide) rfl inlX9 (by decide) rfl (hS.g (Nat.le_of_ble_eq_true rfl)) cr_161_6 k_6_16 mq_161 ?_
    refine tr_bipush 6 hX dX9_copy_22 (by decide) ?_
    refine tr_iload_n 1 hX dX9_copy_24 rfl rfl ?_
    refine tr_imul hX dX9_copy_25 ?_
    refine tr_iload_n 3 hX dX9_copy_26 rfl rfl ?_
    refine tr_iadd hX dX9_copy_27 ?_
    refine tr_iald hX dX9_copy_28 sh_167 (hS.e (Nat.le_of_ble_eq_true rfl)) (fun hb2 v1 => ?_)
    refine tr_iast hX dX9_copy_29 sh_167 (hS.e (Nat.le_of_ble_eq_true rfl)) (fun _ => ?_)
    refine tr_iinc (x3 + 1) 3 hX dX9_copy_30 rfl (congrArg (fun z => x3 + z) (by decide)) (hS.n (by decide)) rfl ?_
    refine tr_goto 2 hX dX9_copy_33 (by decide) ?_
    exact tr_sub [1, 2, 3, 0] rfl (hs2 (x3 + 1))
def f_X9_copy (x1 : Int32) (x2 : Int32) : M Unit :=
  fix1 FU (f_X9_copy_2 x1 x2) 0
set_option maxRecDepth 10000 in
set_option maxHeartbeats 4000000 in
theorem t_X9_copy_0 {X : Cx} (hX : Good X RX9 cX9_copy (none)) (hS : Sta X 0 0 4) (x1 : Int32) (x2 : Int32) : Tr X eU 0 0 0 [(0, .ref (cxAd X 161)), (1, .int x1), (2, .int x2)] [] (f_X9_copy x1 x2) := by
  unfold f_X9_copy
  refine tr_iconst 0 hX dX9_copy_0 (by decide) ?_
  refine tr_istore_n hX dX9_copy_1 rfl (hS.n (by decide)) rfl ?_
  exact tr_sub [1, 2, 3, 0] rfl (tr_fix1 (lvf := fun x3 => [(0, .ref (cxAd X 161)), (1, .int x1), (2, .int x2), (3, .int x3)]) (t_X9_copy_2 hX hS x1 x2) FU 0)
theorem ok_X9_copy {l : Launch} {E : Ev} (x1 : Int32) (x2 : Int32)  : Ok l E Gall yX9_copy cX9_copy 4 (none) (rmz 0 0) eU [.ref (E.2.1 161), .int x1, .int x2] (f_X9_copy x1 x2) := by
  refine ok_of0 (by decide) (Nat.le_of_ble_eq_true rfl) (fun X hX hV hS => ?_)
  subst hV
  exact t_X9_copy_0 hX hS x1 x2
def f_X9_keep  : M Int32 :=
  rI 161 12 (fun v1 => if v1 = 2 then (rt (-3)) else (rI 161 12 (fun v2 => bnd (f_X9_copy 0 (1 + v2)) (fun _ => rI 161 12 (fun v4 => wI 161 12 (v4 + 1) (rI 161 12 (fun v5 => rt v5)))))))
set_option maxRecDepth 10000 in
set_option maxHeartbeats 4000000 in
theorem t_X9_keep_0 {X : Cx} (hX : Good X RX9 cX9_keep ((some .int))) (hS : Sta X 1 23 1) : Tr X eI 0 0 0 [(0, .ref (cxAd X 161))] [] (f_X9_keep) := by
  unfold f_X9_keep
  refine tr_aload_n 0 hX dX9_keep_0 rfl rfl ?_
  refine tr_getI hX dX9_keep_1 sh_161 (by decide) rfl inlX9 (by decide) rfl (hS.e (Nat.le_of_ble_eq_true rfl)) k_12_11 (fun v1 => ?_)
  refine tr_iconst 2 hX dX9_keep_4 (by decide) ?_
  refine tr_ic_ne 11 hX dX9_keep_5 (by decide) (fun c6 => ?_) (fun c6 => ?_)
  · refine tr_bipush (-3) hX dX9_keep_8 (by decide) ?_
    exact tr_iret0 hX hS dX9_keep_10
  · refine tr_aload_n 0 hX dX9_keep_11 rfl rfl ?_
    refine tr_iconst 0 hX dX9_keep_12 (by decide) ?_
    refine tr_iconst 1 hX dX9_keep_13 (by decide) ?_
    refine tr_aload_n 0 hX dX9_keep_14 rfl rfl ?_
    refine tr_getI hX dX9_keep_15 sh_161 (by decide) rfl inlX9 (by decide) rfl (hS.e (Nat.le_of_ble_eq_true rfl)) k_12_11 (fun v2 => ?_)
    refine tr_iadd hX dX9_keep_18 ?_
    refine tr_callV0U (st := []) 2 hX hS dX9_keep_19 (ok_X9_copy 0 (1 + v2)) sh_161 (by decide) rfl (Nat.le_of_ble_eq_true rfl) k_38_22 k_38_23 k_39_0 k_1_5 k_39_1 hy_X9_copy rfl rfl (Nat.le_of_ble_eq_true rfl) rfl (fun _ => ?_)
    refine tr_aload_n 0 hX dX9_keep_22 rfl rfl ?_
    refine tr_dup hX dX9_keep_23 rfl ?_
    refine tr_getI hX dX9_keep_24 sh_161 (by decide) rfl inlX9 (by decide) rfl (hS.e (Nat.le_of_ble_eq_true rfl)) k_12_11 (fun v4 => ?_)
    refine tr_iconst 1 hX dX9_keep_27 (by decide) ?_
    refine tr_iadd hX dX9_keep_28 ?_
    refine tr_putI hX dX9_keep_29 sh_161 (by decide) rfl inlX9 tyX9 tyX9_ok nmX9 (by decide) rfl (hS.e (Nat.le_of_ble_eq_true rfl)) k_12_11 rfl rfl rfl rfl ?_
    refine tr_aload_n 0 hX dX9_keep_32 rfl rfl ?_
    refine tr_getI hX dX9_keep_33 sh_161 (by decide) rfl inlX9 (by decide) rfl (hS.e (Nat.le_of_ble_eq_true rfl)) k_12_11 (fun v5 => ?_)
    exact tr_iret0 hX hS dX9_keep_36
theorem ok_X9_keep {l : Launch} {E : Ev}   : Ok l E Gall yX9_keep cX9_keep 1 ((some .int)) (rmz 1 23) eI [.ref (E.2.1 161)] (f_X9_keep) := by
  refine ok_of0 (by decide) (Nat.le_of_ble_eq_true rfl) (fun X hX hV hS => ?_)
  subst hV
  exact t_X9_keep_0 hX hS 
