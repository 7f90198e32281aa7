def f_X6_learnWord_33  : M Int32 :=
  gd ((0 : Int32) = 0 ∨ (0 : Int32) = 1) (rt 0)
set_option maxRecDepth 10000 in
set_option maxHeartbeats 4000000 in
theorem t_X6_learnWord_33 {X : Cx} (hX : Good X RX6 cX6_learnWord ((some .boolean))) (hS : Sta X 0 0 3) : Tr X eI 0 0 33 [] [] (f_X6_learnWord_33) := by
  unfold f_X6_learnWord_33
  refine tr_iconst 0 hX dX6_learnWord_33 (by decide) ?_
  exact tr_zret0 hX hS dX6_learnWord_34
def f_X6_learnWord_83 (s37 : Int32 → M Int32) (x0 : Nat) (x2 : Int32) : M Int32 :=
  s37 (x2 + 1)
set_option maxRecDepth 10000 in
set_option maxHeartbeats 4000000 in
theorem t_X6_learnWord_83 {X : Cx} (hX : Good X RX6 cX6_learnWord ((some .boolean))) (hS : Sta X 0 0 3) (s37 : Int32 → M Int32) (x0 : Nat) (x2 : Int32) (hx0 : isT x0) (hs37 : ∀ x2 : Int32, Tr X eI 0 0 37 [(0, .ref (cxAd X x0)), (1, .ref (cxAd X 3)), (2, .int x2)] [] (s37 x2)) : Tr X eI 0 0 83 [(0, .ref (cxAd X x0)), (1, .ref (cxAd X 3)), (2, .int x2)] [] (f_X6_learnWord_83 s37 x0 x2) := by
  unfold f_X6_learnWord_83
  refine tr_iinc (x2 + 1) 2 hX dX6_learnWord_83 rfl (congrArg (fun z => x2 + z) (by decide)) (hS.n (by decide)) rfl ?_
  refine tr_goto 37 hX dX6_learnWord_86 (by decide) ?_
  exact tr_sub [1, 2, 0] rfl (hs37 (x2 + 1))
def f_X6_learnWord_37 (x0 : Nat) (s37 : Int32 → M Int32) (x2 : Int32) : M Int32 :=
  rI x0 0 (fun v1 => if v1 ≤ x2 then (rI x0 0 (fun v2 => aI 3 4 0 (fun v3 => sI (x0 + 1) 16 v2 v3 (rI x0 0 (fun v5 => aI 3 4 1 (fun v6 => sI (x0 + 2) 16 v5 v6 (rI x0 0 (fun v8 => aI 3 4 2 (fun v9 => sI (x0 + 3) 16 v8 v9 (rI x0 0 (fun v11 => wI x0 0 (v11 + 1) (gd ((1 : Int32) = 0 ∨ (1 : Int32) = 1) (rt 1))))))))))))) else (aI (x0 + 1) 16 x2 (fun v12 => aI 3 4 0 (fun v14 => if v12 = v14 then (aI (x0 + 2) 16 x2 (fun v16 => aI 3 4 1 (fun v18 => if v16 = v18 then (aI (x0 + 3) 16 x2 (fun v20 => aI 3 4 2 (fun v22 => if v20 = v22 then (gd ((0 : Int32) = 0 ∨ (0 : Int32) = 1) (rt 0)) else (f_X6_learnWord_83 s37 x0 x2)))) else (f_X6_learnWord_83 s37 x0 x2)))) else (f_X6_learnWord_83 s37 x0 x2)))))
set_option maxRecDepth 10000 in
set_option maxHeartbeats 4000000 in
theorem t_X6_learnWord_37 {X : Cx} (hX : Good X RX6 cX6_learnWord ((some .boolean))) (hS : Sta X 0 0 3) (x0 : Nat) (hx0 : isT x0) : ∀ s37 : Int32 → M Int32, (∀ x2 : Int32, Tr X eI 0 0 37 [(0, .ref (cxAd X x0)), (1, .ref (cxAd X 3)), (2, .int x2)] [] (s37 x2)) → ∀ x2 : Int32, Tr X eI 0 0 37 [(0, .ref (cxAd X x0)), (1, .ref (cxAd X 3)), (2, .int x2)] [] (f_X6_learnWord_37 x0 s37 x2) := by
  intro s37 hs37 x2
  unfold f_X6_learnWord_37
  refine tr_iload_n 2 hX dX6_learnWord_37 rfl rfl ?_
  refine tr_aload_n 0 hX dX6_learnWord_38 rfl rfl ?_
  refine tr_getI hX dX6_learnWord_39 (shT hx0) (by decide) rfl inlX6 (by decide) rfl (hS.e (leT hx0)) k_3_20 (fun v1 => ?_)
  refine tr_ic_ge 89 hX dX6_learnWord_42 (by decide) (fun c27 => ?_) (fun c27 => ?_)
  · refine tr_aload_n 0 hX dX6_learnWord_89 rfl rfl ?_
    refine tr_getF hX dX6_learnWord_90 (shT hx0) (by decide) rfl inlX6 (by decide) rfl (hS.g (leT hx0)) (crT_1 hx0) k_3_9 (mqT hx0) ?_
    refine tr_aload_n 0 hX dX6_learnWord_93 rfl rfl ?_
    refine tr_getI hX dX6_learnWord_94 (shT hx0) (by decide) rfl inlX6 (by decide) rfl (hS.e (leT hx0)) k_3_20 (fun v2 => ?_)
    refine tr_aload_n 1 hX dX6_learnWord_97 rfl rfl ?_
    refine tr_iconst 0 hX dX6_learnWord_98 (by decide) ?_
    refine tr_iald hX dX6_learnWord_99 sh_3 (hS.e (Nat.le_of_ble_eq_true rfl)) (fun hb4 v3 => ?_)
    refine tr_iast hX dX6_learnWord_100 (shT_1 hx0) (hS.e (leT_1 hx0)) (fun _ => ?_)
    refine tr_aload_n 0 hX dX6_learnWord_101 rfl rfl ?_
    refine tr_getF hX dX6_learnWord_102 (shT hx0) (by decide) rfl inlX6 (by decide) rfl (hS.g (leT hx0)) (crT_2 hx0) k_3_10 (mqT hx0) ?_
    refine tr_aload_n 0 hX dX6_learnWord_105 rfl rfl ?_
    refine tr_getI hX dX6_learnWord_106 (shT hx0) (by decide) rfl inlX6 (by decide) rfl (hS.e (leT hx0)) k_3_20 (fun v5 => ?_)
    refine tr_aload_n 1 hX dX6_learnWord_109 rfl rfl ?_
    refine tr_iconst 1 hX dX6_learnWord_110 (by decide) ?_
    refine tr_iald hX dX6_learnWord_111 sh_3 (hS.e (Nat.le_of_ble_eq_true rfl)) (fun hb7 v6 => ?_)
    refine tr_iast hX dX6_learnWord_112 (shT_2 hx0) (hS.e (leT_2 hx0)) (fun _ => ?_)
    refine tr_aload_n 0 hX dX6_learnWord_113 rfl rfl ?_
    refine tr_getF hX dX6_learnWord_114 (shT hx0) (by decide) rfl inlX6 (by decide) rfl (hS.g (leT hx0)) (crT_3 hx0) k_3_11 (mqT hx0) ?_
    refine tr_aload_n 0 hX dX6_learnWord_117 rfl rfl ?_
    refine tr_getI hX dX6_learnWord_118 (shT hx0) (by decide) rfl inlX6 (by decide) rfl (hS.e (leT hx0)) k_3_20 (fun v8 => ?_)
    refine tr_aload_n 1 hX dX6_learnWord_121 rfl rfl ?_
    refine tr_iconst 2 hX dX6_learnWord_122 (by decide) ?_
    refine tr_iald hX dX6_learnWord_123 sh_3 (hS.e (Nat.le_of_ble_eq_true rfl)) (fun hb10 v9 => ?_)
    refine tr_iast hX dX6_learnWord_124 (shT_3 hx0) (hS.e (leT_3 hx0)) (fun _ => ?_)
    refine tr_aload_n 0 hX dX6_learnWord_125 rfl rfl ?_
    refine tr_dup hX dX6_learnWord_126 rfl ?_
    refine tr_getI hX dX6_learnWord_127 (shT hx0) (by decide) rfl inlX6 (by decide) rfl (hS.e (leT hx0)) k_3_20 (fun v11 => ?_)
    refine tr_iconst 1 hX dX6_learnWord_130 (by decide) ?_
    refine tr_iadd hX dX6_learnWord_131 ?_
    refine tr_putI hX dX6_learnWord_132 (shT hx0) (by decide) rfl inlX6 tyX6 tyX6_ok nmX6 (by decide) rfl (hS.e (leT hx0)) k_3_20 rfl rfl rfl rfl ?_
    refine tr_iconst 1 hX dX6_learnWord_135 (by decide) ?_
    exact tr_zret0 hX hS dX6_learnWord_136
  · refine tr_aload_n 0 hX dX6_learnWord_45 rfl rfl ?_
    refine tr_getF hX dX6_learnWord_46 (shT hx0) (by decide) rfl inlX6 (by decide) rfl (hS.g (leT hx0)) (crT_1 hx0) k_3_9 (mqT hx0) ?_
    refine tr_iload_n 2 hX dX6_learnWord_49 rfl rfl ?_
    refine tr_iald hX dX6_learnWord_50 (shT_1 hx0) (hS.e (leT_1 hx0)) (fun hb13 v12 => ?_)
    refine tr_aload_n 1 hX dX6_learnWord_51 rfl rfl ?_
    refine tr_iconst 0 hX dX6_learnWord_52 (by decide) ?_
    refine tr_iald hX dX6_learnWord_53 sh_3 (hS.e (Nat.le_of_ble_eq_true rfl)) (fun hb15 v14 => ?_)
    refine tr_ic_ne 83 hX dX6_learnWord_54 (by decide) (fun c26 => ?_) (fun c26 => ?_)
    · refine tr_aload_n 0 hX dX6_learnWord_57 rfl rfl ?_
      refine tr_getF hX dX6_learnWord_58 (shT hx0) (by decide) rfl inlX6 (by decide) rfl (hS.g (leT hx0)) (crT_2 hx0) k_3_10 (mqT hx0) ?_
      refine tr_iload_n 2 hX dX6_learnWord_61 rfl rfl ?_
      refine tr_iald hX dX6_learnWord_62 (shT_2 hx0) (hS.e (leT_2 hx0)) (fun hb17 v16 => ?_)
      refine tr_aload_n 1 hX dX6_learnWord_63 rfl rfl ?_
      refine tr_iconst 1 hX dX6_learnWord_64 (by decide) ?_
      refine tr_iald hX dX6_learnWord_65 sh_3 (hS.e (Nat.le_of_ble_eq_true rfl)) (fun hb19 v18 => ?_)
      refine tr_ic_ne 83 hX dX6_learnWord_66 (by decide) (fun c25 => ?_) (fun c25 => ?_)
      · refine tr_aload_n 0 hX dX6_learnWord_69 rfl rfl ?_
        refine tr_getF hX dX6_learnWord_70 (shT hx0) (by decide) rfl inlX6 (by decide) rfl (hS.g (leT hx0)) (crT_3 hx0) k_3_11 (mqT hx0) ?_
        refine tr_iload_n 2 hX dX6_learnWord_73 rfl rfl ?_
        refine tr_iald hX dX6_learnWord_74 (shT_3 hx0) (hS.e (leT_3 hx0)) (fun hb21 v20 => ?_)
        refine tr_aload_n 1 hX dX6_learnWord_75 rfl rfl ?_
        refine tr_iconst 2 hX dX6_learnWord_76 (by decide) ?_
        refine tr_iald hX dX6_learnWord_77 sh_3 (hS.e (Nat.le_of_ble_eq_true rfl)) (fun hb23 v22 => ?_)
        refine tr_ic_ne 83 hX dX6_learnWord_78 (by decide) (fun c24 => ?_) (fun c24 => ?_)
        · refine tr_iconst 0 hX dX6_learnWord_81 (by decide) ?_
          exact tr_zret0 hX hS dX6_learnWord_82
        · exact tr_sub [0, 1, 2] rfl (t_X6_learnWord_83 hX hS s37 x0 x2 hx0 hs37)
      · exact tr_sub [0, 1, 2] rfl (t_X6_learnWord_83 hX hS s37 x0 x2 hx0 hs37)
    · exact tr_sub [0, 1, 2] rfl (t_X6_learnWord_83 hX hS s37 x0 x2 hx0 hs37)
def f_X6_learnWord (x0 : Nat) : M Int32 :=
  rI x0 0 (fun v1 => if 16 ≤ v1 then (f_X6_learnWord_33) else (aI 3 4 0 (fun v2 => if 8 ≤ v2 then (f_X6_learnWord_33) else (aI 3 4 1 (fun v4 => if 16 ≤ v4 then (f_X6_learnWord_33) else (aI 3 4 2 (fun v6 => if v6 < 8 then (fix1 FU (f_X6_learnWord_37 x0) 0) else (f_X6_learnWord_33))))))))
set_option maxRecDepth 10000 in
set_option maxHeartbeats 4000000 in
theorem t_X6_learnWord_0 {X : Cx} (hX : Good X RX6 cX6_learnWord ((some .boolean))) (hS : Sta X 0 0 3) (x0 : Nat) (hx0 : isT x0) : Tr X eI 0 0 0 [(0, .ref (cxAd X x0)), (1, .ref (cxAd X 3))] [] (f_X6_learnWord x0) := by
  unfold f_X6_learnWord
  refine tr_aload_n 0 hX dX6_learnWord_0 rfl rfl ?_
  refine tr_getI hX dX6_learnWord_1 (shT hx0) (by decide) rfl inlX6 (by decide) rfl (hS.e (leT hx0)) k_3_20 (fun v1 => ?_)
  refine tr_bipush 16 hX dX6_learnWord_4 (by decide) ?_
  refine tr_ic_ge 33 hX dX6_learnWord_6 (by decide) (fun c11 => ?_) (fun c11 => ?_)
  · exact tr_sub [] rfl (t_X6_learnWord_33 hX hS)
  · refine tr_aload_n 1 hX dX6_learnWord_9 rfl rfl ?_
    refine tr_iconst 0 hX dX6_learnWord_10 (by decide) ?_
    refine tr_iald hX dX6_learnWord_11 sh_3 (hS.e (Nat.le_of_ble_eq_true rfl)) (fun hb3 v2 => ?_)
    refine tr_bipush 8 hX dX6_learnWord_12 (by decide) ?_
    refine tr_ic_ge 33 hX dX6_learnWord_14 (by decide) (fun c10 => ?_) (fun c10 => ?_)
    · exact tr_sub [] rfl (t_X6_learnWord_33 hX hS)
    · refine tr_aload_n 1 hX dX6_learnWord_17 rfl rfl ?_
      refine tr_iconst 1 hX dX6_learnWord_18 (by decide) ?_
      refine tr_iald hX dX6_learnWord_19 sh_3 (hS.e (Nat.le_of_ble_eq_true rfl)) (fun hb5 v4 => ?_)
      refine tr_bipush 16 hX dX6_learnWord_20 (by decide) ?_
      refine tr_ic_ge 33 hX dX6_learnWord_22 (by decide) (fun c9 => ?_) (fun c9 => ?_)
      · exact tr_sub [] rfl (t_X6_learnWord_33 hX hS)
      · refine tr_aload_n 1 hX dX6_learnWord_25 rfl rfl ?_
        refine tr_iconst 2 hX dX6_learnWord_26 (by decide) ?_
        refine tr_iald hX dX6_learnWord_27 sh_3 (hS.e (Nat.le_of_ble_eq_true rfl)) (fun hb7 v6 => ?_)
        refine tr_bipush 8 hX dX6_learnWord_28 (by decide) ?_
        refine tr_ic_lt 35 hX dX6_learnWord_30 (by decide) (fun c8 => ?_) (fun c8 => ?_)
        · refine tr_iconst 0 hX dX6_learnWord_35 (by decide) ?_
          refine tr_istore_n hX dX6_learnWord_36 rfl (hS.n (by decide)) rfl ?_
          exact tr_sub [1, 2, 0] rfl (tr_fix1 (lvf := fun x2 => [(0, .ref (cxAd X x0)), (1, .ref (cxAd X 3)), (2, .int x2)]) (t_X6_learnWord_37 hX hS x0 hx0) FU 0)
        · exact tr_sub [] rfl (t_X6_learnWord_33 hX hS)
theorem ok_X6_learnWord {l : Launch} {E : Ev} (x0 : Nat) (hx0 : isT x0) : Ok l E Gall yX6_learnWord cX6_learnWord 3 ((some .boolean)) (rmz 0 0) eI [.ref (E.2.1 x0), .ref (E.2.1 3)] (f_X6_learnWord x0) := by
  refine ok_of0 (by decide) (Nat.le_of_ble_eq_true rfl) (fun X hX hV hS => ?_)
  subst hV
  exact t_X6_learnWord_0 hX hS x0 hx0
def f_X4_readItem_130 (p0 : Int32) : M Int32 :=
  gd (p0 = 0 ∨ p0 = 1) (rt p0)
set_option maxRecDepth 10000 in
set_option maxHeartbeats 4000000 in
theorem t_X4_readItem_130 {X : Cx} (hX : Good X RX4 cX4_readItem ((some .boolean))) (hS : Sta X 2 45 3) (p0 : Int32) : Tr X eI 0 0 130 [] [.int p0] (f_X4_readItem_130 p0) := by
  unfold f_X4_readItem_130
  exact tr_zret0 hX hS dX4_readItem_130
def f_X4_readItem_129  : M Int32 :=
  f_X4_readItem_130 0
set_option maxRecDepth 10000 in
set_option maxHeartbeats 4000000 in
theorem t_X4_readItem_129 {X : Cx} (hX : Good X RX4 cX4_readItem ((some .boolean))) (hS : Sta X 2 45 3) : Tr X eI 0 0 129 [] [] (f_X4_readItem_129) := by
  unfold f_X4_readItem_129
  refine tr_iconst 0 hX dX4_readItem_129 (by decide) ?_
  exact tr_sub [] rfl (t_X4_readItem_130 hX hS 0)
def f_X4_readItem_105 (p0 : Int32) : M Int32 :=
  gd (p0 = 0 ∨ p0 = 1) (rt p0)
set_option maxRecDepth 10000 in
set_option maxHeartbeats 4000000 in
theorem t_X4_readItem_105 {X : Cx} (hX : Good X RX4 cX4_readItem ((some .boolean))) (hS : Sta X 2 45 3) (p0 : Int32) : Tr X eI 0 0 105 [] [.int p0] (f_X4_readItem_105 p0) := by
  unfold f_X4_readItem_105
  exact tr_zret0 hX hS dX4_readItem_105
def f_X4_readItem_104  : M Int32 :=
  f_X4_readItem_105 0
set_option maxRecDepth 10000 in
set_option maxHeartbeats 4000000 in
theorem t_X4_readItem_104 {X : Cx} (hX : Good X RX4 cX4_readItem ((some .boolean))) (hS : Sta X 2 45 3) : Tr X eI 0 0 104 [] [] (f_X4_readItem_104) := by
  unfold f_X4_readItem_104
  refine tr_iconst 0 hX dX4_readItem_104 (by decide) ?_
  exact tr_sub [] rfl (t_X4_readItem_105 hX hS 0)
def f_X4_readItem_80 (p0 : Int32) : M Int32 :=
  gd (p0 = 0 ∨ p0 = 1) (rt p0)
set_option maxRecDepth 10000 in
set_option maxHeartbeats 4000000 in
theorem t_X4_readItem_80 {X : Cx} (hX : Good X RX4 cX4_readItem ((some .boolean))) (hS : Sta X 2 45 3) (p0 : Int32) : Tr X eI 0 0 80 [] [.int p0] (f_X4_readItem_80 p0) := by
  unfold f_X4_readItem_80
  exact tr_zret0 hX hS dX4_readItem_80
def f_X4_readItem_79  : M Int32 :=
  f_X4_readItem_80 0
set_option maxRecDepth 10000 in
set_option maxHeartbeats 4000000 in
theorem t_X4_readItem_79 {X : Cx} (hX : Good X RX4 cX4_readItem ((some .boolean))) (hS : Sta X 2 45 3) : Tr X eI 0 0 79 [] [] (f_X4_readItem_79) := by
  unfold f_X4_readItem_79
  refine tr_iconst 0 hX dX4_readItem_79 (by decide) ?_
  exact tr_sub [] rfl (t_X4_readItem_80 hX hS 0)
def f_X4_readItem (x1 : Nat) : M Int32 :=
  rI 1 2 (fun v1 => aI 2 300 v1 (fun v2 => rI 1 2 (fun v4 => wI 1 2 (v4 + 1) (if v2 = 104 then (bnd (f_X4_readNumbers 2) (fun v5 => if v5 = 0 then (f_X4_readItem_129) else (bnd (f_X6_learnHours x1) (fun v6 => if v6 = 0 then (f_X4_readItem_129) else (f_X4_readItem_130 1))))) else (if v2 = 106 then (bnd (f_X4_readNumbers 4) (fun v10 => if v10 = 0 then (f_X4_readItem_104) else (bnd (f_X6_learnJoining x1) (fun v11 => if v11 = 0 then (f_X4_readItem_104) else (f_X4_readItem_105 1))))) else (if v2 = 119 then (bnd (f_X4_readNumbers 3) (fun v15 => if v15 = 0 then (f_X4_readItem_79) else (bnd (f_X6_learnWord x1) (fun v16 => if v16 = 0 then (f_X4_readItem_79) else (f_X4_readItem_80 1))))) else (gd ((0 : Int32) = 0 ∨ (0 : Int32) = 1) (rt 0))))))))
set_option maxRecDepth 10000 in
set_option maxHeartbeats 4000000 in
theorem t_X4_readItem_0 {X : Cx} (hX : Good X RX4 cX4_readItem ((some .boolean))) (hS : Sta X 2 45 3) (x1 : Nat) (hx1 : isT x1) : Tr X eI 0 0 0 [(0, .ref (cxAd X 1)), (1, .ref (cxAd X x1))] [] (f_X4_readItem x1) := by
  unfold f_X4_readItem
  refine tr_aload_n 0 hX dX4_readItem_0 rfl rfl ?_
  refine tr_getF hX dX4_readItem_1 sh_1 (by decide) rfl inlX4 (by decide) rfl (hS.g (Nat.le_of_ble_eq_true rfl)) cr_1_0 k_3_3 mq_1 ?_
  refine tr_aload_n 0 hX dX4_readItem_4 rfl rfl ?_
  refine tr_getI hX dX4_readItem_5 sh_1 (by decide) rfl inlX4 (by decide) rfl (hS.e (Nat.le_of_ble_eq_true rfl)) k_9_4 (fun v1 => ?_)
  refine tr_bald hX dX4_readItem_8 sh_2 (hS.e (Nat.le_of_ble_eq_true rfl)) (fun hb3 v2 => ?_)
  refine tr_istore_n hX dX4_readItem_9 rfl (hS.n (by decide)) rfl ?_
  refine tr_aload_n 1 hX dX4_readItem_10 rfl rfl ?_
  refine tr_dup hX dX4_readItem_11 rfl ?_
  refine tr_getI hX dX4_readItem_12 sh_1 (by decide) rfl inlX4 (by decide) rfl (hS.e (Nat.le_of_ble_eq_true rfl)) k_9_4 (fun v4 => ?_)
  refine tr_iconst 1 hX dX4_readItem_15 (by decide) ?_
  refine tr_iadd hX dX4_readItem_16 ?_
  refine tr_putI hX dX4_readItem_17 sh_1 (by decide) rfl inlX4 tyX4 tyX4_ok nmX4 (by decide) rfl (hS.e (Nat.le_of_ble_eq_true rfl)) k_9_4 rfl rfl rfl rfl ?_
  refine tr_iload_n 0 hX dX4_readItem_20 rfl rfl ?_
  refine tr_case 104 (fun c9 => ?_) (fun c9 => ?_)
  · refine tr_look (off := 85) 106 hX dX4_readItem_21 (by decide) (by rw [c9]; decide) (by decide) ?_
    refine tr_aload_n 1 hX dX4_readItem_106 rfl rfl ?_
    refine tr_iconst 2 hX dX4_readItem_107 (by decide) ?_
    refine tr_callV0I (st := []) 1 hX hS dX4_readItem_108 (ok_X4_readNumbers 2) sh_1 (by decide) rfl (Nat.le_of_ble_eq_true rfl) k_9_10 k_9_11 k_9_12 k_1_15 k_9_13 hy_X4_readNumbers rfl rfl (Nat.le_of_ble_eq_true rfl) rfl (fun v5 => ?_)
    refine tr_if_eq 129 hX dX4_readItem_111 (by decide) (fun c8 => ?_) (fun c8 => ?_)
    · exact tr_sub [] rfl (t_X4_readItem_129 hX hS)
    · refine tr_aload_n 2 hX dX4_readItem_114 rfl rfl ?_
      refine tr_aload_n 1 hX dX4_readItem_115 rfl rfl ?_
      refine tr_getF hX dX4_readItem_116 sh_1 (by decide) rfl inlX4 (by decide) rfl (hS.g (Nat.le_of_ble_eq_true rfl)) cr_1_3 k_3_4 mq_1 ?_
      refine tr_callV0I (st := []) 1 hX hS dX4_readItem_119 (ok_X6_learnHours x1 hx1) (shT hx1) (by decide) rfl (leT hx1) k_10_1 k_10_2 k_10_3 k_1_19 k_10_4 hy_X6_learnHours rfl rfl (Nat.le_of_ble_eq_true rfl) rfl (fun v6 => ?_)
      refine tr_if_eq 129 hX dX4_readItem_122 (by decide) (fun c7 => ?_) (fun c7 => ?_)
      · exact tr_sub [] rfl (t_X4_readItem_129 hX hS)
      · refine tr_iconst 1 hX dX4_readItem_125 (by decide) ?_
        refine tr_goto 130 hX dX4_readItem_126 (by decide) ?_
        exact tr_sub [] rfl (t_X4_readItem_130 hX hS 1)
  refine tr_case 106 (fun c14 => ?_) (fun c14 => ?_)
  · refine tr_look (off := 60) 81 hX dX4_readItem_21 (by decide) (by rw [c14]; decide) (by decide) ?_
    refine tr_aload_n 1 hX dX4_readItem_81 rfl rfl ?_
    refine tr_iconst 4 hX dX4_readItem_82 (by decide) ?_
    refine tr_callV0I (st := []) 1 hX hS dX4_readItem_83 (ok_X4_readNumbers 4) sh_1 (by decide) rfl (Nat.le_of_ble_eq_true rfl) k_9_10 k_9_11 k_9_12 k_1_15 k_9_13 hy_X4_readNumbers rfl rfl (Nat.le_of_ble_eq_true rfl) rfl (fun v10 => ?_)
    refine tr_if_eq 104 hX dX4_readItem_86 (by decide) (fun c13 => ?_) (fun c13 => ?_)
    · exact tr_sub [] rfl (t_X4_readItem_104 hX hS)
    · refine tr_aload_n 2 hX dX4_readItem_89 rfl rfl ?_
      refine tr_aload_n 1 hX dX4_readItem_90 rfl rfl ?_
      refine tr_getF hX dX4_readItem_91 sh_1 (by decide) rfl inlX4 (by decide) rfl (hS.g (Nat.le_of_ble_eq_true rfl)) cr_1_3 k_3_4 mq_1 ?_
      refine tr_callV0I (st := []) 1 hX hS dX4_readItem_94 (ok_X6_learnJoining x1 hx1) (shT hx1) (by decide) rfl (leT hx1) k_9_21 k_9_22 k_9_23 k_1_19 k_10_0 hy_X6_learnJoining rfl rfl (Nat.le_of_ble_eq_true rfl) rfl (fun v11 => ?_)
      refine tr_if_eq 104 hX dX4_readItem_97 (by decide) (fun c12 => ?_) (fun c12 => ?_)
      · exact tr_sub [] rfl (t_X4_readItem_104 hX hS)
      · refine tr_iconst 1 hX dX4_readItem_100 (by decide) ?_
        refine tr_goto 105 hX dX4_readItem_101 (by decide) ?_
        exact tr_sub [] rfl (t_X4_readItem_105 hX hS 1)
  refine tr_case 119 (fun c19 => ?_) (fun c19 => ?_)
  · refine tr_look (off := 35) 56 hX dX4_readItem_21 (by decide) (by rw [c19]; decide) (by decide) ?_
    refine tr_aload_n 1 hX dX4_readItem_56 rfl rfl ?_
    refine tr_iconst 3 hX dX4_readItem_57 (by decide) ?_
    refine tr_callV0I (st := []) 1 hX hS dX4_readItem_58 (ok_X4_readNumbers 3) sh_1 (by decide) rfl (Nat.le_of_ble_eq_true rfl) k_9_10 k_9_11 k_9_12 k_1_15 k_9_13 hy_X4_readNumbers rfl rfl (Nat.le_of_ble_eq_true rfl) rfl (fun v15 => ?_)
    refine tr_if_eq 79 hX dX4_readItem_61 (by decide) (fun c18 => ?_) (fun c18 => ?_)
    · exact tr_sub [] rfl (t_X4_readItem_79 hX hS)
    · refine tr_aload_n 2 hX dX4_readItem_64 rfl rfl ?_
      refine tr_aload_n 1 hX dX4_readItem_65 rfl rfl ?_
      refine tr_getF hX dX4_readItem_66 sh_1 (by decide) rfl inlX4 (by decide) rfl (hS.g (Nat.le_of_ble_eq_true rfl)) cr_1_3 k_3_4 mq_1 ?_
      refine tr_callV0I (st := []) 1 hX hS dX4_readItem_69 (ok_X6_learnWord x1 hx1) (shT hx1) (by decide) rfl (leT hx1) k_9_17 k_9_18 k_9_19 k_1_19 k_9_20 hy_X6_learnWord rfl rfl (Nat.le_of_ble_eq_true rfl) rfl (fun v16 => ?_)
      refine tr_if_eq 79 hX dX4_readItem_72 (by decide) (fun c17 => ?_) (fun c17 => ?_)
      · exact tr_sub [] rfl (t_X4_readItem_79 hX hS)
      · refine tr_iconst 1 hX dX4_readItem_75 (by decide) ?_
        refine tr_goto 80 hX dX4_readItem_76 (by decide) ?_
        exact tr_sub [] rfl (t_X4_readItem_80 hX hS 1)
  refine tr_look (off := 110) 131 hX dX4_readItem_21 (by decide) (by show Op.lookupswitch.offset [(104, 85), (106, 60), (119, 35)] 110 _ = _; rw [lv_osw c9 (by decide), lv_osw c14 (by decide), lv_osw c19 (by decide)]; rfl) (by decide) ?_
  refine tr_iconst 0 hX dX4_readItem_131 (by decide) ?_
  exact tr_zret0 hX hS dX4_readItem_132
theorem ok_X4_readItem {l : Launch} {E : Ev} (x1 : Nat) (hx1 : isT x1) : Ok l E Gall yX4_readItem cX4_readItem 3 ((some .boolean)) (rmz 2 45) eI [.ref (E.2.1 1), .ref (E.2.1 x1)] (f_X4_readItem x1) := by
  refine ok_of0 (by decide) (Nat.le_of_ble_eq_true rfl) (fun X hX hV hS => ?_)
  subst hV
  exact t_X4_readItem_0 hX hS x1 hx1
def f_X6_forget_28 (x0 : Nat) (s28 : Int32 → M Unit) (x1 : Int32) : M Unit :=
  if 5 ≤ x1 then (rt ()) else (sI (x0 + 5) 5 x1 1 (s28 (x1 + 1)))
set_option maxRecDepth 10000 in
set_option maxHeartbeats 4000000 in
theorem t_X6_forget_28 {X : Cx} (hX : Good X RX6 cX6_forget (none)) (hS : Sta X 0 0 2) (x0 : Nat) (hx0 : isT x0) : ∀ s28 : Int32 → M Unit, (∀ x1 : Int32, Tr X eU 0 0 28 [(0, .ref (cxAd X x0)), (1, .int x1)] [] (s28 x1)) → ∀ x1 : Int32, Tr X eU 0 0 28 [(0, .ref (cxAd X x0)), (1, .int x1)] [] (f_X6_forget_28 x0 s28 x1) := by
  intro s28 hs28 x1
  unfold f_X6_forget_28
  refine tr_iload_n 1 hX dX6_forget_28 rfl rfl ?_
  refine tr_iconst 5 hX dX6_forget_29 (by decide) ?_
  refine tr_ic_ge 46 hX dX6_forget_30 (by decide) (fun c1 => ?_) (fun c1 => ?_)
  · exact tr_vret0 hX hS dX6_forget_46
  · refine tr_aload_n 0 hX dX6_forget_33 rfl rfl ?_
    refine tr_getF hX dX6_forget_34 (shT hx0) (by decide) rfl inlX6 (by decide) rfl (hS.g (leT hx0)) (crT_5 hx0) k_3_13 (mqT hx0) ?_
    refine tr_iload_n 1 hX dX6_forget_37 rfl rfl ?_
    refine tr_iconst 1 hX dX6_forget_38 (by decide) ?_
    refine tr_iast hX dX6_forget_39 (shT_5 hx0) (hS.e (leT_5 hx0)) (fun _ => ?_)
    refine tr_iinc (x1 + 1) 1 hX dX6_forget_40 rfl (congrArg (fun z => x1 + z) (by decide)) (hS.n (by decide)) rfl ?_
    refine tr_goto 28 hX dX6_forget_43 (by decide) ?_
    exact tr_sub [1, 0] rfl (hs28 (x1 + 1))
def f_X6_forget_7 (x0 : Nat) (s7 : Int32 → M Unit) (x1 : Int32) : M Unit :=
  if 64 ≤ x1 then (fix1 FU (f_X6_forget_28 x0) 0) else (sI (x0 + 4) 64 x1 x1 (s7 (x1 + 1)))
set_option maxRecDepth 10000 in
set_option maxHeartbeats 4000000 in
theorem t_X6_forget_7 {X : Cx} (hX : Good X RX6 cX6_forget (none)) (hS : Sta X 0 0 2) (x0 : Nat) (hx0 : isT x0) : ∀ s7 : Int32 → M Unit, (∀ x1 : Int32, Tr X eU 0 0 7 [(0, .ref (cxAd X x0)), (1, .int x1)] [] (s7 x1)) → ∀ x1 : Int32, Tr X eU 0 0 7 [(0, .ref (cxAd X x0)), (1, .int x1)] [] (f_X6_forget_7 x0 s7 x1) := by
  intro s7 hs7 x1
  unfold f_X6_forget_7
  refine tr_iload_n 1 hX dX6_forget_7 rfl rfl ?_
  refine tr_bipush 64 hX dX6_forget_8 (by decide) ?_
  refine tr_ic_ge 26 hX dX6_forget_10 (by decide) (fun c1 => ?_) (fun c1 => ?_)
  · refine tr_iconst 0 hX dX6_forget_26 (by decide) ?_
    refine tr_istore_n hX dX6_forget_27 rfl (hS.n (by decide)) rfl ?_
    exact tr_sub [1, 0] rfl (tr_fix1 (lvf := fun x1 => [(0, .ref (cxAd X x0)), (1, .int x1)]) (t_X6_forget_28 hX hS x0 hx0) FU 0)
  · refine tr_aload_n 0 hX dX6_forget_13 rfl rfl ?_
    refine tr_getF hX dX6_forget_14 (shT hx0) (by decide) rfl inlX6 (by decide) rfl (hS.g (leT hx0)) (crT_4 hx0) k_3_12 (mqT hx0) ?_
    refine tr_iload_n 1 hX dX6_forget_17 rfl rfl ?_
    refine tr_iload_n 1 hX dX6_forget_18 rfl rfl ?_
    refine tr_iast hX dX6_forget_19 (shT_4 hx0) (hS.e (leT_4 hx0)) (fun _ => ?_)
    refine tr_iinc (x1 + 1) 1 hX dX6_forget_20 rfl (congrArg (fun z => x1 + z) (by decide)) (hS.n (by decide)) rfl ?_
    refine tr_goto 7 hX dX6_forget_23 (by decide) ?_
    exact tr_sub [1, 0] rfl (hs7 (x1 + 1))
def f_X6_forget (x0 : Nat) : M Unit :=
  wI x0 0 0 (fix1 FU (f_X6_forget_7 x0) 0)
set_option maxRecDepth 10000 in
set_option maxHeartbeats 4000000 in
theorem t_X6_forget_0 {X : Cx} (hX : Good X RX6 cX6_forget (none)) (hS : Sta X 0 0 2) (x0 : Nat) (hx0 : isT x0) : Tr X eU 0 0 0 [(0, .ref (cxAd X x0))] [] (f_X6_forget x0) := by
  unfold f_X6_forget
  refine tr_aload_n 0 hX dX6_forget_0 rfl rfl ?_
  refine tr_iconst 0 hX dX6_forget_1 (by decide) ?_
  refine tr_putI hX dX6_forget_2 (shT hx0) (by decide) rfl inlX6 tyX6 tyX6_ok nmX6 (by decide) rfl (hS.e (leT hx0)) k_3_20 rfl rfl rfl rfl ?_
  refine tr_iconst 0 hX dX6_forget_5 (by decide) ?_
  refine tr_istore_n hX dX6_forget_6 rfl (hS.n (by decide)) rfl ?_
  exact tr_sub [1, 0] rfl (tr_fix1 (lvf := fun x1 => [(0, .ref (cxAd X x0)), (1, .int x1)]) (t_X6_forget_7 hX hS x0 hx0) FU 0)
theorem ok_X6_forget {l : Launch} {E : Ev} (x0 : Nat) (hx0 : isT x0) : Ok l E Gall yX6_forget cX6_forget 2 (none) (rmz 0 0) eU [.ref (E.2.1 x0)] (f_X6_forget x0) := by
  refine ok_of0 (by decide) (Nat.le_of_ble_eq_true rfl) (fun X hX hV hS => ?_)
  subst hV
  exact t_X6_forget_0 hX hS x0 hx0
def f_X4_readInto_50  : M Int32 :=
  rt (-4)
set_option maxRecDepth 10000 in
set_option maxHeartbeats 4000000 in
theorem t_X4_readInto_50 {X : Cx} (hX : Good X RX4 cX4_readInto ((some .int))) (hS : Sta X 3 67 4) : Tr X eI 0 0 50 [] [] (f_X4_readInto_50) := by
  unfold f_X4_readInto_50
  refine tr_bipush (-4) hX dX4_readInto_50 (by decide) ?_
  exact tr_iret0 hX hS dX4_readInto_52
def f_X4_readInto_11 (x1 : Nat) (s11 : Int32 → M Int32) (x2 : Int32) : M Int32 :=
  if 300 ≤ x2 then (f_X4_readInto_50) else (rI 1 2 (fun v1 => rI 1 1 (fun v2 => if v2 ≤ v1 then (f_X4_readInto_50) else (rI 1 2 (fun v3 => bnd (f_X4_readItem x1) (fun v4 => if v4 = 0 then (rt v3) else (s11 (x2 + 1))))))))
set_option maxRecDepth 10000 in
set_option maxHeartbeats 4000000 in
theorem t_X4_readInto_11 {X : Cx} (hX : Good X RX4 cX4_readInto ((some .int))) (hS : Sta X 3 67 4) (x1 : Nat) (hx1 : isT x1) : ∀ s11 : Int32 → M Int32, (∀ x2 : Int32, Tr X eI 0 0 11 [(0, .ref (cxAd X 1)), (1, .ref (cxAd X x1)), (2, .int x2)] [] (s11 x2)) → ∀ x2 : Int32, Tr X eI 0 0 11 [(0, .ref (cxAd X 1)), (1, .ref (cxAd X x1)), (2, .int x2)] [] (f_X4_readInto_11 x1 s11 x2) := by
  intro s11 hs11 x2
  unfold f_X4_readInto_11
  refine tr_iload_n 2 hX dX4_readInto_11 rfl rfl ?_
  refine tr_sipush 300 hX dX4_readInto_12 (by decide) ?_
  refine tr_ic_ge 50 hX dX4_readInto_15 (by decide) (fun c7 => ?_) (fun c7 => ?_)
  · exact tr_sub [] rfl (t_X4_readInto_50 hX hS)
  · refine tr_aload_n 0 hX dX4_readInto_18 rfl rfl ?_
    refine tr_getI hX dX4_readInto_19 sh_1 (by decide) rfl inlX4 (by decide) rfl (hS.e (Nat.le_of_ble_eq_true rfl)) k_9_4 (fun v1 => ?_)
    refine tr_aload_n 0 hX dX4_readInto_22 rfl rfl ?_
    refine tr_getI hX dX4_readInto_23 sh_1 (by decide) rfl inlX4 (by decide) rfl (hS.e (Nat.le_of_ble_eq_true rfl)) k_8_0 (fun v2 => ?_)
    refine tr_ic_ge 50 hX dX4_readInto_26 (by decide) (fun c6 => ?_) (fun c6 => ?_)
    · exact tr_sub [] rfl (t_X4_readInto_50 hX hS)
    · refine tr_aload_n 0 hX dX4_readInto_29 rfl rfl ?_
      refine tr_getI hX dX4_readInto_30 sh_1 (by decide) rfl inlX4 (by decide) rfl (hS.e (Nat.le_of_ble_eq_true rfl)) k_9_4 (fun v3 => ?_)
      refine tr_istore_n hX dX4_readInto_33 rfl (hS.n (by decide)) rfl ?_
      refine tr_aload_n 1 hX dX4_readInto_34 rfl rfl ?_
      refine tr_aload_n 2 hX dX4_readInto_35 rfl rfl ?_
      refine tr_callV0I (st := []) 1 hX hS dX4_readInto_36 (ok_X4_readItem x1 hx1) sh_1 (by decide) rfl (Nat.le_of_ble_eq_true rfl) k_9_6 k_9_7 k_9_8 k_1_15 k_9_9 hy_X4_readItem rfl rfl (Nat.le_of_ble_eq_true rfl) rfl (fun v4 => ?_)
      refine tr_if_ne 44 hX dX4_readInto_39 (by decide) (fun c5 => ?_) (fun c5 => ?_)
      · refine tr_iload_n 0 hX dX4_readInto_42 rfl rfl ?_
        exact tr_iret0 hX hS dX4_readInto_43
      · refine tr_iinc (x2 + 1) 3 hX dX4_readInto_44 rfl (congrArg (fun z => x2 + z) (by decide)) (hS.n (by decide)) rfl ?_
        refine tr_goto 11 hX dX4_readInto_47 (by decide) ?_
        exact tr_sub [2, 3, 0] rfl (hs11 (x2 + 1))
def f_X4_readInto (x1 : Nat) : M Int32 :=
  bnd (f_X6_forget x1) (fun _ => wI 1 2 0 (fix1 FU (f_X4_readInto_11 x1) 0))
set_option maxRecDepth 10000 in
set_option maxHeartbeats 4000000 in
theorem t_X4_readInto_0 {X : Cx} (hX : Good X RX4 cX4_readInto ((some .int))) (hS : Sta X 3 67 4) (x1 : Nat) (hx1 : isT x1) : Tr X eI 0 0 0 [(0, .ref (cxAd X 1)), (1, .ref (cxAd X x1))] [] (f_X4_readInto x1) := by
  unfold f_X4_readInto
  refine tr_aload_n 1 hX dX4_readInto_0 rfl rfl ?_
  refine tr_callV0U (st := []) 0 hX hS dX4_readInto_1 (ok_X6_forget x1 hx1) (shT hx1) (by decide) rfl (leT hx1) k_9_5 k_3_17 k_3_18 k_1_19 k_3_19 hy_X6_forget rfl rfl (Nat.le_of_ble_eq_true rfl) rfl (fun _ => ?_)
  refine tr_aload_n 0 hX dX4_readInto_4 rfl rfl ?_
  refine tr_iconst 0 hX dX4_readInto_5 (by decide) ?_
  refine tr_putI hX dX4_readInto_6 sh_1 (by decide) rfl inlX4 tyX4 tyX4_ok nmX4 (by decide) rfl (hS.e (Nat.le_of_ble_eq_true rfl)) k_9_4 rfl rfl rfl rfl ?_
  refine tr_iconst 0 hX dX4_readInto_9 (by decide) ?_
  refine tr_istore_n hX dX4_readInto_10 rfl (hS.n (by decide)) rfl ?_
  exact tr_sub [1, 2, 0] rfl (tr_fix1 (lvf := fun x2 => [(0, .ref (cxAd X 1)), (1, .ref (cxAd X x1)), (2, .int x2)]) (t_X4_readInto_11 hX hS x1 hx1) FU 0)
theorem ok_X4_readInto {l : Launch} {E : Ev} (x1 : Nat) (hx1 : isT x1) : Ok l E Gall yX4_readInto cX4_readInto 4 ((some .int)) (rmz 3 67) eI [.ref (E.2.1 1), .ref (E.2.1 x1)] (f_X4_readInto x1) := by
  refine ok_of0 (by decide) (Nat.le_of_ble_eq_true rfl) (fun X hX hV hS => ?_)
  subst hV
  exact t_X4_readInto_0 hX hS x1 hx1
def f_X5_append (x1 : Int32) (x2 : Int32) (x3 : Int32) : M Int32 :=
  rI 149 0 (fun v1 => if v1 < 20 then (rI 149 0 (fun v2 => sI 150 20 v2 x1 (rI 149 0 (fun v3 => sI 151 20 v3 x2 (rI 149 0 (fun v4 => sI 152 20 v4 x3 (rI 149 0 (fun v5 => wI 149 0 (v5 + 1) (rI 149 0 (fun v6 => rt v6)))))))))) else (rt (-3)))
set_option maxRecDepth 10000 in
set_option maxHeartbeats 4000000 in
theorem t_X5_append_0 {X : Cx} (hX : Good X RX5 cX5_append ((some .int))) (hS : Sta X 0 0 4) (x1 : Int32) (x2 : Int32) (x3 : Int32) : Tr X eI 0 0 0 [(0, .ref (cxAd X 149)), (1, .int x1), (2, .int x2), (3, .int x3)] [] (f_X5_append x1 x2 x3) := by
  unfold f_X5_append
  refine tr_aload_n 0 hX dX5_append_0 rfl rfl ?_
  refine tr_getI hX dX5_append_1 sh_149 (by decide) rfl inlX5 (by decide) rfl (hS.e (Nat.le_of_ble_eq_true rfl)) k_29_8 (fun v1 => ?_)
  refine tr_bipush 20 hX dX5_append_4 (by decide) ?_
  refine tr_ic_lt 12 hX dX5_append_6 (by decide) (fun c7 => ?_) (fun c7 => ?_)
  · refine tr_aload_n 0 hX dX5_append_12 rfl rfl ?_
    refine tr_getF hX dX5_append_13 sh_149 (by decide) rfl inlX5 (by decide) rfl (hS.g (Nat.le_of_ble_eq_true rfl)) cr_149_1 k_5_20 mq_149 ?_
    refine tr_aload_n 0 hX dX5_append_16 rfl rfl ?_
    refine tr_getI hX dX5_append_17 sh_149 (by decide) rfl inlX5 (by decide) rfl (hS.e (Nat.le_of_ble_eq_true rfl)) k_29_8 (fun v2 => ?_)
    refine tr_iload_n 1 hX dX5_append_20 rfl rfl ?_
    refine tr_iast hX dX5_append_21 sh_150 (hS.e (Nat.le_of_ble_eq_true rfl)) (fun _ => ?_)
    refine tr_aload_n 0 hX dX5_append_22 rfl rfl ?_
    refine tr_getF hX dX5_append_23 sh_149 (by decide) rfl inlX5 (by decide) rfl (hS.g (Nat.le_of_ble_eq_true rfl)) cr_149_2 k_5_21 mq_149 ?_
    refine tr_aload_n 0 hX dX5_append_26 rfl rfl ?_
    refine tr_getI hX dX5_append_27 sh_149 (by decide) rfl inlX5 (by decide) rfl (hS.e (Nat.le_of_ble_eq_true rfl)) k_29_8 (fun v3 => ?_)
    refine tr_iload_n 2 hX dX5_append_30 rfl rfl ?_
    refine tr_iast hX dX5_append_31 sh_151 (hS.e (Nat.le_of_ble_eq_true rfl)) (fun _ => ?_)
    refine tr_aload_n 0 hX dX5_append_32 rfl rfl ?_
    refine tr_getF hX dX5_append_33 sh_149 (by decide) rfl inlX5 (by decide) rfl (hS.g (Nat.le_of_ble_eq_true rfl)) cr_149_3 k_5_22 mq_149 ?_
    refine tr_aload_n 0 hX dX5_append_36 rfl rfl ?_
    refine tr_getI hX dX5_append_37 sh_149 (by decide) rfl inlX5 (by decide) rfl (hS.e (Nat.le_of_ble_eq_true rfl)) k_29_8 (fun v4 => ?_)
    refine tr_iload_n 3 hX dX5_append_40 rfl rfl ?_
    refine tr_iast hX dX5_append_41 sh_152 (hS.e (Nat.le_of_ble_eq_true rfl)) (fun _ => ?_)
    refine tr_aload_n 0 hX dX5_append_42 rfl rfl ?_
    refine tr_dup hX dX5_append_43 rfl ?_
    refine tr_getI hX dX5_append_44 sh_149 (by decide) rfl inlX5 (by decide) rfl (hS.e (Nat.le_of_ble_eq_true rfl)) k_29_8 (fun v5 => ?_)
    refine tr_iconst 1 hX dX5_append_47 (by decide) ?_
    refine tr_iadd hX dX5_append_48 ?_
    refine tr_putI hX dX5_append_49 sh_149 (by decide) rfl inlX5 tyX5 tyX5_ok nmX5 (by decide) rfl (hS.e (Nat.le_of_ble_eq_true rfl)) k_29_8 rfl rfl rfl rfl ?_
    refine tr_aload_n 0 hX dX5_append_52 rfl rfl ?_
    refine tr_getI hX dX5_append_53 sh_149 (by decide) rfl inlX5 (by decide) rfl (hS.e (Nat.le_of_ble_eq_true rfl)) k_29_8 (fun v6 => ?_)
    exact tr_iret0 hX hS dX5_append_56
  · refine tr_bipush (-3) hX dX5_append_9 (by decide) ?_
    exact tr_iret0 hX hS dX5_append_11
theorem ok_X5_append {l : Launch} {E : Ev} (x1 : Int32) (x2 : Int32) (x3 : Int32)  : Ok l E Gall yX5_append cX5_append 4 ((some .int)) (rmz 0 0) eI [.ref (E.2.1 149), .int x1, .int x2, .int x3] (f_X5_append x1 x2 x3) := by
  refine ok_of0 (by decide) (Nat.le_of_ble_eq_true rfl) (fun X hX hV hS => ?_)
  subst hV
  exact t_X5_append_0 hX hS x1 x2 x3
def f_X5_allShownBy_32 (s2 : Int32 → M Int32) (x1 : Int32) (x2 : Int32) : M Int32 :=
  s2 (x2 + 1)
set_option maxRecDepth 10000 in
set_option maxHeartbeats 4000000 in
theorem t_X5_allShownBy_32 {X : Cx} (hX : Good X RX5 cX5_allShownBy ((some .boolean))) (hS : Sta X 0 0 3) (s2 : Int32 → M Int32) (x1 : Int32) (x2 : Int32) (hs2 : ∀ x2 : Int32, Tr X eI 0 0 2 [(0, .ref (cxAd X 149)), (1, .int x1), (2, .int x2)] [] (s2 x2)) : Tr X eI 0 0 32 [(0, .ref (cxAd X 149)), (1, .int x1), (2, .int x2)] [] (f_X5_allShownBy_32 s2 x1 x2) := by
  unfold f_X5_allShownBy_32
  refine tr_iinc (x2 + 1) 2 hX dX5_allShownBy_32 rfl (congrArg (fun z => x2 + z) (by decide)) (hS.n (by decide)) rfl ?_
  refine tr_goto 2 hX dX5_allShownBy_35 (by decide) ?_
  exact tr_sub [1, 2, 0] rfl (hs2 (x2 + 1))
def f_X5_allShownBy_2 (x1 : Int32) (s2 : Int32 → M Int32) (x2 : Int32) : M Int32 :=
  rI 149 0 (fun v1 => if v1 ≤ x2 then (gd ((1 : Int32) = 0 ∨ (1 : Int32) = 1) (rt 1)) else (aI 153 20 x2 (fun v2 => if v2 = 0 then (f_X5_allShownBy_32 s2 x1 x2) else (aI 153 20 x2 (fun v4 => if (v4 &&& x1) = 0 then (gd ((0 : Int32) = 0 ∨ (0 : Int32) = 1) (rt 0)) else (f_X5_allShownBy_32 s2 x1 x2))))))
set_option maxRecDepth 10000 in
set_option maxHeartbeats 4000000 in
theorem t_X5_allShownBy_2 {X : Cx} (hX : Good X RX5 cX5_allShownBy ((some .boolean))) (hS : Sta X 0 0 3) (x1 : Int32) : ∀ s2 : Int32 → M Int32, (∀ x2 : Int32, Tr X eI 0 0 2 [(0, .ref (cxAd X 149)), (1, .int x1), (2, .int x2)] [] (s2 x2)) → ∀ x2 : Int32, Tr X eI 0 0 2 [(0, .ref (cxAd X 149)), (1, .int x1), (2, .int x2)] [] (f_X5_allShownBy_2 x1 s2 x2) := by
  intro s2 hs2 x2
  unfold f_X5_allShownBy_2
  refine tr_iload_n 2 hX dX5_allShownBy_2 rfl rfl ?_
  refine tr_aload_n 0 hX dX5_allShownBy_3 rfl rfl ?_
  refine tr_getI hX dX5_allShownBy_4 sh_149 (by decide) rfl inlX5 (by decide) rfl (hS.e (Nat.le_of_ble_eq_true rfl)) k_29_8 (fun v1 => ?_)
  refine tr_ic_ge 38 hX dX5_allShownBy_7 (by decide) (fun c8 => ?_) (fun c8 => ?_)
  · refine tr_iconst 1 hX dX5_allShownBy_38 (by decide) ?_
    exact tr_zret0 hX hS dX5_allShownBy_39
  · refine tr_aload_n 0 hX dX5_allShownBy_10 rfl rfl ?_
    refine tr_getF hX dX5_allShownBy_11 sh_149 (by decide) rfl inlX5 (by decide) rfl (hS.g (Nat.le_of_ble_eq_true rfl)) cr_149_4 k_5_23 mq_149 ?_
    refine tr_iload_n 2 hX dX5_allShownBy_14 rfl rfl ?_
    refine tr_iald hX dX5_allShownBy_15 sh_153 (hS.e (Nat.le_of_ble_eq_true rfl)) (fun hb3 v2 => ?_)
    refine tr_if_eq 32 hX dX5_allShownBy_16 (by decide) (fun c7 => ?_) (fun c7 => ?_)
    · exact tr_sub [0, 1, 2] rfl (t_X5_allShownBy_32 hX hS s2 x1 x2 hs2)
    · refine tr_aload_n 0 hX dX5_allShownBy_19 rfl rfl ?_
      refine tr_getF hX dX5_allShownBy_20 sh_149 (by decide) rfl inlX5 (by decide) rfl (hS.g (Nat.le_of_ble_eq_true rfl)) cr_149_4 k_5_23 mq_149 ?_
      refine tr_iload_n 2 hX dX5_allShownBy_23 rfl rfl ?_
      refine tr_iald hX dX5_allShownBy_24 sh_153 (hS.e (Nat.le_of_ble_eq_true rfl)) (fun hb5 v4 => ?_)
      refine tr_iload_n 1 hX dX5_allShownBy_25 rfl rfl ?_
      refine tr_iand hX dX5_allShownBy_26 ?_
      refine tr_if_ne 32 hX dX5_allShownBy_27 (by decide) (fun c6 => ?_) (fun c6 => ?_)
      · refine tr_iconst 0 hX dX5_allShownBy_30 (by decide) ?_
        exact tr_zret0 hX hS dX5_allShownBy_31
      · exact tr_sub [0, 1, 2] rfl (t_X5_allShownBy_32 hX hS s2 x1 x2 hs2)
def f_X5_allShownBy (x1 : Int32) : M Int32 :=
  fix1 FU (f_X5_allShownBy_2 x1) 0
set_option maxRecDepth 10000 in
set_option maxHeartbeats 4000000 in
theorem t_X5_allShownBy_0 {X : Cx} (hX : Good X RX5 cX5_allShownBy ((some .boolean))) (hS : Sta X 0 0 3) (x1 : Int32) : Tr X eI 0 0 0 [(0, .ref (cxAd X 149)), (1, .int x1)] [] (f_X5_allShownBy x1) := by
  unfold f_X5_allShownBy
  refine tr_iconst 0 hX dX5_allShownBy_0 (by decide) ?_
  refine tr_istore_n hX dX5_allShownBy_1 rfl (hS.n (by decide)) rfl ?_
  exact tr_sub [1, 2, 0] rfl (tr_fix1 (lvf := fun x2 => [(0, .ref (cxAd X 149)), (1, .int x1), (2, .int x2)]) (t_X5_allShownBy_2 hX hS x1) FU 0)
theorem ok_X5_allShownBy {l : Launch} {E : Ev} (x1 : Int32)  : Ok l E Gall yX5_allShownBy cX5_allShownBy 3 ((some .boolean)) (rmz 0 0) eI [.ref (E.2.1 149), .int x1] (f_X5_allShownBy x1) := by
  refine ok_of0 (by decide) (Nat.le_of_ble_eq_true rfl) (fun X hX hV hS => ?_)
  subst hV
  exact t_X5_allShownBy_0 hX hS x1
def f_X6_joinAll_58 (s2 : Int32 → M Unit) (x0 : Nat) (x1 : Int32) (s58 : Int32 → M Unit) (x2 : Int32) : M Unit :=
  rI x0 0 (fun v1 => if v1 ≤ x2 then (s2 (x1 + 1)) else (aI (x0 + 3) 16 x2 (fun v2 => aI (x0 + 1) 16 x1 (fun v4 => aI (x0 + 4) 64 ((8 * v2) + v4) (fun v6 => aI (x0 + 3) 16 x1 (fun v8 => aI (x0 + 1) 16 x2 (fun v10 => aI (x0 + 4) 64 ((8 * v8) + v10) (fun v12 => gd (¬ (8 : Int32) = 0) (aI (x0 + 2) 16 x1 (fun v14 => sI (x0 + 6) 289 ((17 * x2) + x1) ((128 * (v6 - v6 / 8 * 8)) + (8 * v14)) (gd (¬ (8 : Int32) = 0) (sI (x0 + 7) 289 ((17 * x2) + x1) (v12 / 8) (s58 (x2 + 1))))))))))))))
set_option maxRecDepth 10000 in
set_option maxHeartbeats 4000000 in
theorem t_X6_joinAll_58 {X : Cx} (hX : Good X RX6 cX6_joinAll (none)) (hS : Sta X 0 0 5) (s2 : Int32 → M Unit) (x0 : Nat) (x1 : Int32) (hx0 : isT x0) (hs2 : ∀ x1 : Int32, Tr X eU 0 0 2 [(0, .ref (cxAd X x0)), (1, .int x1)] [] (s2 x1)) : ∀ s58 : Int32 → M Unit, (∀ x2 : Int32, Tr X eU 0 0 58 [(0, .ref (cxAd X x0)), (1, .int x1), (2, .int x2)] [] (s58 x2)) → ∀ x2 : Int32, Tr X eU 0 0 58 [(0, .ref (cxAd X x0)), (1, .int x1), (2, .int x2)] [] (f_X6_joinAll_58 s2 x0 x1 s58 x2) := by
  intro s58 hs58 x2
  unfold f_X6_joinAll_58
  refine tr_iload_n 2 hX dX6_joinAll_58 rfl rfl ?_
  refine tr_aload_n 0 hX dX6_joinAll_59 rfl rfl ?_
  refine tr_getI hX dX6_joinAll_60 (shT hx0) (by decide) rfl inlX6 (by decide) rfl (hS.e (leT hx0)) k_3_20 (fun v1 => ?_)
  refine tr_ic_ge 162 hX dX6_joinAll_63 (by decide) (fun c16 => ?_) (fun c16 => ?_)
  · refine tr_iinc (x1 + 1) 1 hX dX6_joinAll_162 rfl (congrArg (fun z => x1 + z) (by decide)) (hS.n (by decide)) rfl ?_
    refine tr_goto 2 hX dX6_joinAll_165 (by decide) ?_
    exact tr_sub [1, 0] rfl (hs2 (x1 + 1))
  · refine tr_aload_n 0 hX dX6_joinAll_66 rfl rfl ?_
    refine tr_getF hX dX6_joinAll_67 (shT hx0) (by decide) rfl inlX6 (by decide) rfl (hS.g (leT hx0)) (crT_4 hx0) k_3_12 (mqT hx0) ?_
    refine tr_bipush 8 hX dX6_joinAll_70 (by decide) ?_
    refine tr_aload_n 0 hX dX6_joinAll_72 rfl rfl ?_
    refine tr_getF hX dX6_joinAll_73 (shT hx0) (by decide) rfl inlX6 (by decide) rfl (hS.g (leT hx0)) (crT_3 hx0) k_3_11 (mqT hx0) ?_
    refine tr_iload_n 2 hX dX6_joinAll_76 rfl rfl ?_
    refine tr_iald hX dX6_joinAll_77 (shT_3 hx0) (hS.e (leT_3 hx0)) (fun hb3 v2 => ?_)
    refine tr_imul hX dX6_joinAll_78 ?_
    refine tr_aload_n 0 hX dX6_joinAll_79 rfl rfl ?_
    refine tr_getF hX dX6_joinAll_80 (shT hx0) (by decide) rfl inlX6 (by decide) rfl (hS.g (leT hx0)) (crT_1 hx0) k_3_9 (mqT hx0) ?_
    refine tr_iload_n 1 hX dX6_joinAll_83 rfl rfl ?_
    refine tr_iald hX dX6_joinAll_84 (shT_1 hx0) (hS.e (leT_1 hx0)) (fun hb5 v4 => ?_)
    refine tr_iadd hX dX6_joinAll_85 ?_
    refine tr_iald hX dX6_joinAll_86 (shT_4 hx0) (hS.e (leT_4 hx0)) (fun hb7 v6 => ?_)
    refine tr_istore_n hX dX6_joinAll_87 rfl (hS.n (by decide)) rfl ?_
    refine tr_aload_n 1 hX dX6_joinAll_88 rfl rfl ?_
    refine tr_getF hX dX6_joinAll_89 (shT hx0) (by decide) rfl inlX6 (by decide) rfl (hS.g (leT hx0)) (crT_4 hx0) k_3_12 (mqT hx0) ?_
    refine tr_bipush 8 hX dX6_joinAll_92 (by decide) ?_
    refine tr_aload_n 1 hX dX6_joinAll_94 rfl rfl ?_
    refine tr_getF hX dX6_joinAll_95 (shT hx0) (by decide) rfl inlX6 (by decide) rfl (hS.g (leT hx0)) (crT_3 hx0) k_3_11 (mqT hx0) ?_
    refine tr_iload_n 2 hX dX6_joinAll_98 rfl rfl ?_
    refine tr_iald hX dX6_joinAll_99 (shT_3 hx0) (hS.e (leT_3 hx0)) (fun hb9 v8 => ?_)
    refine tr_imul hX dX6_joinAll_100 ?_
    refine tr_aload_n 1 hX dX6_joinAll_101 rfl rfl ?_
    refine tr_getF hX dX6_joinAll_102 (shT hx0) (by decide) rfl inlX6 (by decide) rfl (hS.g (leT hx0)) (crT_1 hx0) k_3_9 (mqT hx0) ?_
    refine tr_iload_n 3 hX dX6_joinAll_105 rfl rfl ?_
    refine tr_iald hX dX6_joinAll_106 (shT_1 hx0) (hS.e (leT_1 hx0)) (fun hb11 v10 => ?_)
    refine tr_iadd hX dX6_joinAll_107 ?_
    refine tr_iald hX dX6_joinAll_108 (shT_4 hx0) (hS.e (leT_4 hx0)) (fun hb13 v12 => ?_)
    refine tr_istore hX dX6_joinAll_109 (hS.n (by decide)) rfl ?_
    refine tr_aload_n 2 hX dX6_joinAll_111 rfl rfl ?_
    refine tr_getF hX dX6_joinAll_112 (shT hx0) (by decide) rfl inlX6 (by decide) rfl (hS.g (leT hx0)) (crT_6 hx0) k_3_14 (mqT hx0) ?_
    refine tr_bipush 17 hX dX6_joinAll_115 (by decide) ?_
    refine tr_iload_n 4 hX dX6_joinAll_117 rfl rfl ?_
    refine tr_imul hX dX6_joinAll_118 ?_
    refine tr_iload_n 3 hX dX6_joinAll_119 rfl rfl ?_
    refine tr_iadd hX dX6_joinAll_120 ?_
    refine tr_sipush 128 hX dX6_joinAll_121 (by decide) ?_
    refine tr_iload_n 1 hX dX6_joinAll_124 rfl rfl ?_
    refine tr_bipush 8 hX dX6_joinAll_125 (by decide) ?_
    refine tr_irem hX dX6_joinAll_127 (fun _ => ?_)
    refine tr_imul hX dX6_joinAll_128 ?_
    refine tr_bipush 8 hX dX6_joinAll_129 (by decide) ?_
    refine tr_aload_n 2 hX dX6_joinAll_131 rfl rfl ?_
    refine tr_getF hX dX6_joinAll_132 (shT hx0) (by decide) rfl inlX6 (by decide) rfl (hS.g (leT hx0)) (crT_2 hx0) k_3_10 (mqT hx0) ?_
    refine tr_iload_n 3 hX dX6_joinAll_135 rfl rfl ?_
    refine tr_iald hX dX6_joinAll_136 (shT_2 hx0) (hS.e (leT_2 hx0)) (fun hb15 v14 => ?_)
    refine tr_imul hX dX6_joinAll_137 ?_
    refine tr_iadd hX dX6_joinAll_138 ?_
    refine tr_iast hX dX6_joinAll_139 (shT_6 hx0) (hS.e (leT_6 hx0)) (fun _ => ?_)
    refine tr_aload_n 2 hX dX6_joinAll_140 rfl rfl ?_
    refine tr_getF hX dX6_joinAll_141 (shT hx0) (by decide) rfl inlX6 (by decide) rfl (hS.g (leT hx0)) (crT_7 hx0) k_3_15 (mqT hx0) ?_
    refine tr_bipush 17 hX dX6_joinAll_144 (by decide) ?_
    refine tr_iload_n 4 hX dX6_joinAll_146 rfl rfl ?_
    refine tr_imul hX dX6_joinAll_147 ?_
    refine tr_iload_n 3 hX dX6_joinAll_148 rfl rfl ?_
    refine tr_iadd hX dX6_joinAll_149 ?_
    refine tr_iload 0 hX dX6_joinAll_150 rfl ?_
    refine tr_bipush 8 hX dX6_joinAll_152 (by decide) ?_
    refine tr_idiv hX dX6_joinAll_154 (fun _ => ?_)
    refine tr_iast hX dX6_joinAll_155 (shT_7 hx0) (hS.e (leT_7 hx0)) (fun _ => ?_)
    refine tr_iinc (x2 + 1) 4 hX dX6_joinAll_156 rfl (congrArg (fun z => x2 + z) (by decide)) (hS.n (by decide)) rfl ?_
    refine tr_goto 58 hX dX6_joinAll_159 (by decide) ?_
    exact tr_sub [3, 4, 0] rfl (hs58 (x2 + 1))
def f_X6_joinAll_2 (x0 : Nat) (s2 : Int32 → M Unit) (x1 : Int32) : M Unit :=
  rI x0 0 (fun v1 => if v1 ≤ x1 then (rt ()) else (aI (x0 + 1) 16 x1 (fun v2 => aI (x0 + 2) 16 x1 (fun v4 => sI (x0 + 6) 289 (272 + x1) ((128 * v2) + (8 * v4)) (aI (x0 + 3) 16 x1 (fun v6 => sI (x0 + 7) 289 (272 + x1) v6 (fix1 FU (f_X6_joinAll_58 s2 x0 x1) 0)))))))
set_option maxRecDepth 10000 in
set_option maxHeartbeats 4000000 in
theorem t_X6_joinAll_2 {X : Cx} (hX : Good X RX6 cX6_joinAll (none)) (hS : Sta X 0 0 5) (x0 : Nat) (hx0 : isT x0) : ∀ s2 : Int32 → M Unit, (∀ x1 : Int32, Tr X eU 0 0 2 [(0, .ref (cxAd X x0)), (1, .int x1)] [] (s2 x1)) → ∀ x1 : Int32, Tr X eU 0 0 2 [(0, .ref (cxAd X x0)), (1, .int x1)] [] (f_X6_joinAll_2 x0 s2 x1) := by
  intro s2 hs2 x1
  unfold f_X6_joinAll_2
  refine tr_iload_n 1 hX dX6_joinAll_2 rfl rfl ?_
  refine tr_aload_n 0 hX dX6_joinAll_3 rfl rfl ?_
  refine tr_getI hX dX6_joinAll_4 (shT hx0) (by decide) rfl inlX6 (by decide) rfl (hS.e (leT hx0)) k_3_20 (fun v1 => ?_)
  refine tr_ic_ge 168 hX dX6_joinAll_7 (by decide) (fun c8 => ?_) (fun c8 => ?_)
  · exact tr_vret0 hX hS dX6_joinAll_168
  · refine tr_aload_n 0 hX dX6_joinAll_10 rfl rfl ?_
    refine tr_getF hX dX6_joinAll_11 (shT hx0) (by decide) rfl inlX6 (by decide) rfl (hS.g (leT hx0)) (crT_6 hx0) k_3_14 (mqT hx0) ?_
    refine tr_sipush 272 hX dX6_joinAll_14 (by decide) ?_
    refine tr_iload_n 1 hX dX6_joinAll_17 rfl rfl ?_
    refine tr_iadd hX dX6_joinAll_18 ?_
    refine tr_sipush 128 hX dX6_joinAll_19 (by decide) ?_
    refine tr_aload_n 0 hX dX6_joinAll_22 rfl rfl ?_
    refine tr_getF hX dX6_joinAll_23 (shT hx0) (by decide) rfl inlX6 (by decide) rfl (hS.g (leT hx0)) (crT_1 hx0) k_3_9 (mqT hx0) ?_
    refine tr_iload_n 1 hX dX6_joinAll_26 rfl rfl ?_
    refine tr_iald hX dX6_joinAll_27 (shT_1 hx0) (hS.e (leT_1 hx0)) (fun hb3 v2 => ?_)
    refine tr_imul hX dX6_joinAll_28 ?_
    refine tr_bipush 8 hX dX6_joinAll_29 (by decide) ?_
    refine tr_aload_n 0 hX dX6_joinAll_31 rfl rfl ?_
    refine tr_getF hX dX6_joinAll_32 (shT hx0) (by decide) rfl inlX6 (by decide) rfl (hS.g (leT hx0)) (crT_2 hx0) k_3_10 (mqT hx0) ?_
    refine tr_iload_n 1 hX dX6_joinAll_35 rfl rfl ?_
    refine tr_iald hX dX6_joinAll_36 (shT_2 hx0) (hS.e (leT_2 hx0)) (fun hb5 v4 => ?_)
    refine tr_imul hX dX6_joinAll_37 ?_
    refine tr_iadd hX dX6_joinAll_38 ?_
    refine tr_iast hX dX6_joinAll_39 (shT_6 hx0) (hS.e (leT_6 hx0)) (fun _ => ?_)
    refine tr_aload_n 0 hX dX6_joinAll_40 rfl rfl ?_
    refine tr_getF hX dX6_joinAll_41 (shT hx0) (by decide) rfl inlX6 (by decide) rfl (hS.g (leT hx0)) (crT_7 hx0) k_3_15 (mqT hx0) ?_
    refine tr_sipush 272 hX dX6_joinAll_44 (by decide) ?_
    refine tr_iload_n 1 hX dX6_joinAll_47 rfl rfl ?_
    refine tr_iadd hX dX6_joinAll_48 ?_
    refine tr_aload_n 0 hX dX6_joinAll_49 rfl rfl ?_
    refine tr_getF hX dX6_joinAll_50 (shT hx0) (by decide) rfl inlX6 (by decide) rfl (hS.g (leT hx0)) (crT_3 hx0) k_3_11 (mqT hx0) ?_
    refine tr_iload_n 1 hX dX6_joinAll_53 rfl rfl ?_
    refine tr_iald hX dX6_joinAll_54 (shT_3 hx0) (hS.e (leT_3 hx0)) (fun hb7 v6 => ?_)
    refine tr_iast hX dX6_joinAll_55 (shT_7 hx0) (hS.e (leT_7 hx0)) (fun _ => ?_)
    refine tr_iconst 0 hX dX6_joinAll_56 (by decide) ?_
    refine tr_istore_n hX dX6_joinAll_57 rfl (hS.n (by decide)) rfl ?_
    exact tr_sub [1, 2, 0] rfl (tr_fix1 (lvf := fun x2 => [(0, .ref (cxAd X x0)), (1, .int x1), (2, .int x2)]) (t_X6_joinAll_58 hX hS s2 x0 x1 hx0 hs2) FU 0)
def f_X6_joinAll (x0 : Nat) : M Unit :=
  fix1 FU (f_X6_joinAll_2 x0) 0
set_option maxRecDepth 10000 in
set_option maxHeartbeats 4000000 in
theorem t_X6_joinAll_0 {X : Cx} (hX : Good X RX6 cX6_joinAll (none)) (hS : Sta X 0 0 5) (x0 : Nat) (hx0 : isT x0) : Tr X eU 0 0 0 [(0, .ref (cxAd X x0))] [] (f_X6_joinAll x0) := by
  unfold f_X6_joinAll
  refine tr_iconst 0 hX dX6_joinAll_0 (by decide) ?_
  refine tr_istore_n hX dX6_joinAll_1 rfl (hS.n (by decide)) rfl ?_
  exact tr_sub [1, 0] rfl (tr_fix1 (lvf := fun x1 => [(0, .ref (cxAd X x0)), (1, .int x1)]) (t_X6_joinAll_2 hX hS x0 hx0) FU 0)
theorem ok_X6_joinAll {l : Launch} {E : Ev} (x0 : Nat) (hx0 : isT x0) : Ok l E Gall yX6_joinAll cX6_joinAll 5 (none) (rmz 0 0) eU [.ref (E.2.1 x0)] (f_X6_joinAll x0) := by
  refine ok_of0 (by decide) (Nat.le_of_ble_eq_true rfl) (fun X hX hV hS => ?_)
  subst hV
  exact t_X6_joinAll_0 hX hS x0 hx0
def f_X6_hoursOf_4 (x0 : Nat) (x1 : Int32) (s4 : Int32 → Int32 → M Int32) (x2 : Int32) (x3 : Int32) : M Int32 :=
  if 5 ≤ x3 then (rt x2) else (aI (x0 + 5) 5 x3 (fun v1 => nm ((x2 + (((x1 >>> (x3 &&& 31)) &&& 1) * v1))) (fun v3 => s4 v3 (x3 + 1))))
set_option maxRecDepth 10000 in
set_option maxHeartbeats 4000000 in
theorem t_X6_hoursOf_4 {X : Cx} (hX : Good X RX6 cX6_hoursOf ((some .int))) (hS : Sta X 0 0 4) (x0 : Nat) (x1 : Int32) (hx0 : isT x0) : ∀ s4 : Int32 → Int32 → M Int32, (∀ x2 : Int32, ∀ x3 : Int32, Tr X eI 0 0 4 [(0, .ref (cxAd X x0)), (1, .int x1), (2, .int x2), (3, .int x3)] [] (s4 x2 x3)) → ∀ x2 : Int32, ∀ x3 : Int32, Tr X eI 0 0 4 [(0, .ref (cxAd X x0)), (1, .int x1), (2, .int x2), (3, .int x3)] [] (f_X6_hoursOf_4 x0 x1 s4 x2 x3) := by
  intro s4 hs4 x2 x3
  unfold f_X6_hoursOf_4
  refine tr_iload_n 3 hX dX6_hoursOf_4 rfl rfl ?_
  refine tr_iconst 5 hX dX6_hoursOf_5 (by decide) ?_
  refine tr_ic_ge 30 hX dX6_hoursOf_6 (by decide) (fun c4 => ?_) (fun c4 => ?_)
  · refine tr_iload_n 2 hX dX6_hoursOf_30 rfl rfl ?_
    exact tr_iret0 hX hS dX6_hoursOf_31
  · refine tr_iload_n 2 hX dX6_hoursOf_9 rfl rfl ?_
    refine tr_iload_n 1 hX dX6_hoursOf_10 rfl rfl ?_
    refine tr_iload_n 3 hX dX6_hoursOf_11 rfl rfl ?_
    refine tr_ishr hX dX6_hoursOf_12 ?_
    refine tr_iconst 1 hX dX6_hoursOf_13 (by decide) ?_
    refine tr_iand hX dX6_hoursOf_14 ?_
    refine tr_aload_n 0 hX dX6_hoursOf_15 rfl rfl ?_
    refine tr_getF hX dX6_hoursOf_16 (shT hx0) (by decide) rfl inlX6 (by decide) rfl (hS.g (leT hx0)) (crT_5 hx0) k_3_13 (mqT hx0) ?_
    refine tr_iload_n 3 hX dX6_hoursOf_19 rfl rfl ?_
    refine tr_iald hX dX6_hoursOf_20 (shT_5 hx0) (hS.e (leT_5 hx0)) (fun hb2 v1 => ?_)
    refine tr_imul hX dX6_hoursOf_21 ?_
    refine tr_iadd hX dX6_hoursOf_22 ?_
    refine tr_nm (fun v3 ev3 => ?_)
    refine tr_istore_n hX dX6_hoursOf_23 rfl (hS.n (by decide)) rfl ?_
    refine tr_iinc (x3 + 1) 3 hX dX6_hoursOf_24 rfl (congrArg (fun z => x3 + z) (by decide)) (hS.n (by decide)) rfl ?_
    refine tr_goto 4 hX dX6_hoursOf_27 (by decide) ?_
    exact tr_sub [2, 3, 1, 0] rfl (hs4 v3 (x3 + 1))
def f_X6_hoursOf (x0 : Nat) (x1 : Int32) : M Int32 :=
  fix2 FU (f_X6_hoursOf_4 x0 x1) 0 0
set_option maxRecDepth 10000 in
set_option maxHeartbeats 4000000 in
theorem t_X6_hoursOf_0 {X : Cx} (hX : Good X RX6 cX6_hoursOf ((some .int))) (hS : Sta X 0 0 4) (x0 : Nat) (x1 : Int32) (hx0 : isT x0) : Tr X eI 0 0 0 [(0, .ref (cxAd X x0)), (1, .int x1)] [] (f_X6_hoursOf x0 x1) := by
  unfold f_X6_hoursOf
  refine tr_iconst 0 hX dX6_hoursOf_0 (by decide) ?_
  refine tr_istore_n hX dX6_hoursOf_1 rfl (hS.n (by decide)) rfl ?_
  refine tr_iconst 0 hX dX6_hoursOf_2 (by decide) ?_
  refine tr_istore_n hX dX6_hoursOf_3 rfl (hS.n (by decide)) rfl ?_
  exact tr_sub [2, 3, 1, 0] rfl (tr_fix2 (lvf := fun x2 x3 => [(0, .ref (cxAd X x0)), (1, .int x1), (2, .int x2), (3, .int x3)]) (t_X6_hoursOf_4 hX hS x0 x1 hx0) FU 0 0)
theorem ok_X6_hoursOf {l : Launch} {E : Ev} (x0 : Nat) (x1 : Int32) (hx0 : isT x0) : Ok l E Gall yX6_hoursOf cX6_hoursOf 4 ((some .int)) (rmz 0 0) eI [.ref (E.2.1 x0), .int x1] (f_X6_hoursOf x0 x1) := by
  refine ok_of0 (by decide) (Nat.le_of_ble_eq_true rfl) (fun X hX hV hS => ?_)
  subst hV
  exact t_X6_hoursOf_0 hX hS x0 x1 hx0
def f_X6_isListedAlike_35 (p0 : Int32) : M Int32 :=
  gd (p0 = 0 ∨ p0 = 1) (rt p0)
set_option maxRecDepth 10000 in
set_option maxHeartbeats 4000000 in
theorem t_X6_isListedAlike_35 {X : Cx} (hX : Good X RX6 cX6_isListedAlike ((some .boolean))) (hS : Sta X 0 0 3) (p0 : Int32) : Tr X eI 0 0 35 [] [.int p0] (f_X6_isListedAlike_35 p0) := by
  unfold f_X6_isListedAlike_35
  exact tr_zret0 hX hS dX6_isListedAlike_35
def f_X6_isListedAlike_34  : M Int32 :=
  f_X6_isListedAlike_35 0
set_option maxRecDepth 10000 in
set_option maxHeartbeats 4000000 in
theorem t_X6_isListedAlike_34 {X : Cx} (hX : Good X RX6 cX6_isListedAlike ((some .boolean))) (hS : Sta X 0 0 3) : Tr X eI 0 0 34 [] [] (f_X6_isListedAlike_34) := by
  unfold f_X6_isListedAlike_34
  refine tr_iconst 0 hX dX6_isListedAlike_34 (by decide) ?_
  exact tr_sub [] rfl (t_X6_isListedAlike_35 hX hS 0)
def f_X6_isListedAlike (x0 : Nat) (x1 : Int32) (x2 : Int32) : M Int32 :=
  aI (x0 + 1) 16 x1 (fun v1 => aI (x0 + 1) 16 x2 (fun v3 => if v1 = v3 then (aI (x0 + 2) 16 x1 (fun v5 => aI (x0 + 2) 16 x2 (fun v7 => if v5 = v7 then (f_X6_isListedAlike_35 1) else (f_X6_isListedAlike_34)))) else (f_X6_isListedAlike_34)))
set_option maxRecDepth 10000 in
set_option maxHeartbeats 4000000 in
theorem t_X6_isListedAlike_0 {X : Cx} (hX : Good X RX6 cX6_isListedAlike ((some .boolean))) (hS : Sta X 0 0 3) (x0 : Nat) (x1 : Int32) (x2 : Int32) (hx0 : isT x0) : Tr X eI 0 0 0 [(0, .ref (cxAd X x0)), (1, .int x1), (2, .int x2)] [] (f_X6_isListedAlike x0 x1 x2) := by
  unfold f_X6_isListedAlike
  refine tr_aload_n 0 hX dX6_isListedAlike_0 rfl rfl ?_
  refine tr_getF hX dX6_isListedAlike_1 (shT hx0) (by decide) rfl inlX6 (by decide) rfl (hS.g (leT hx0)) (crT_1 hx0) k_3_9 (mqT hx0) ?_
  refine tr_iload_n 1 hX dX6_isListedAlike_4 rfl rfl ?_
  refine tr_iald hX dX6_isListedAlike_5 (shT_1 hx0) (hS.e (leT_1 hx0)) (fun hb2 v1 => ?_)
  refine tr_aload_n 0 hX dX6_isListedAlike_6 rfl rfl ?_
  refine tr_getF hX dX6_isListedAlike_7 (shT hx0) (by decide) rfl inlX6 (by decide) rfl (hS.g (leT hx0)) (crT_1 hx0) k_3_9 (mqT hx0) ?_
  refine tr_iload_n 2 hX dX6_isListedAlike_10 rfl rfl ?_
  refine tr_iald hX dX6_isListedAlike_11 (shT_1 hx0) (hS.e (leT_1 hx0)) (fun hb4 v3 => ?_)
  refine tr_ic_ne 34 hX dX6_isListedAlike_12 (by decide) (fun c10 => ?_) (fun c10 => ?_)
  · refine tr_aload_n 0 hX dX6_isListedAlike_15 rfl rfl ?_
    refine tr_getF hX dX6_isListedAlike_16 (shT hx0) (by decide) rfl inlX6 (by decide) rfl (hS.g (leT hx0)) (crT_2 hx0) k_3_10 (mqT hx0) ?_
    refine tr_iload_n 1 hX dX6_isListedAlike_19 rfl rfl ?_
    refine tr_iald hX dX6_isListedAlike_20 (shT_2 hx0) (hS.e (leT_2 hx0)) (fun hb6 v5 => ?_)
    refine tr_aload_n 0 hX dX6_isListedAlike_21 rfl rfl ?_
    refine tr_getF hX dX6_isListedAlike_22 (shT hx0) (by decide) rfl inlX6 (by decide) rfl (hS.g (leT hx0)) (crT_2 hx0) k_3_10 (mqT hx0) ?_
    refine tr_iload_n 2 hX dX6_isListedAlike_25 rfl rfl ?_
    refine tr_iald hX dX6_isListedAlike_26 (shT_2 hx0) (hS.e (leT_2 hx0)) (fun hb8 v7 => ?_)
    refine tr_ic_ne 34 hX dX6_isListedAlike_27 (by decide) (fun c9 => ?_) (fun c9 => ?_)
    · refine tr_iconst 1 hX dX6_isListedAlike_30 (by decide) ?_
      refine tr_goto 35 hX dX6_isListedAlike_31 (by decide) ?_
      exact tr_sub [] rfl (t_X6_isListedAlike_35 hX hS 1)
    · exact tr_sub [] rfl (t_X6_isListedAlike_34 hX hS)
  · exact tr_sub [] rfl (t_X6_isListedAlike_34 hX hS)
theorem ok_X6_isListedAlike {l : Launch} {E : Ev} (x0 : Nat) (x1 : Int32) (x2 : Int32) (hx0 : isT x0) : Ok l E Gall yX6_isListedAlike cX6_isListedAlike 3 ((some .boolean)) (rmz 0 0) eI [.ref (E.2.1 x0), .int x1, .int x2] (f_X6_isListedAlike x0 x1 x2) := by
  refine ok_of0 (by decide) (Nat.le_of_ble_eq_true rfl) (fun X hX hV hS => ?_)
  subst hV
  exact t_X6_isListedAlike_0 hX hS x0 x1 x2 hx0
def f_X7_wantSpan_118  : M Unit :=
  rt ()
set_option maxRecDepth 10000 in
set_option maxHeartbeats 4000000 in
theorem t_X7_wantSpan_118 {X : Cx} (hX : Good X RX7 cX7_wantSpan (none)) (hS : Sta X 0 0 5) : Tr X eU 0 0 118 [] [] (f_X7_wantSpan_118) := by
  unfold f_X7_wantSpan_118
  exact tr_vret0 hX hS dX7_wantSpan_118
def f_X7_wantSpan_54 (s3 : Int32 → M Unit) (x1 : Int32) (x2 : Int32) (x3 : Int32) (x4 : Int32) : M Unit :=
  s3 (x4 + 1)
set_option maxRecDepth 10000 in
set_option maxHeartbeats 4000000 in
theorem t_X7_wantSpan_54 {X : Cx} (hX : Good X RX7 cX7_wantSpan (none)) (hS : Sta X 0 0 5) (s3 : Int32 → M Unit) (x1 : Int32) (x2 : Int32) (x3 : Int32) (x4 : Int32) (hs3 : ∀ x4 : Int32, Tr X eU 0 0 3 [(0, .ref (cxAd X 73)), (1, .int x1), (2, .int x2), (3, .int x3), (4, .int x4)] [] (s3 x4)) : Tr X eU 0 0 54 [(0, .ref (cxAd X 73)), (1, .int x1), (2, .int x2), (3, .int x3), (4, .int x4)] [] (f_X7_wantSpan_54 s3 x1 x2 x3 x4) := by
  unfold f_X7_wantSpan_54
  refine tr_iinc (x4 + 1) 4 hX dX7_wantSpan_54 rfl (congrArg (fun z => x4 + z) (by decide)) (hS.n (by decide)) rfl ?_
  refine tr_goto 3 hX dX7_wantSpan_57 (by decide) ?_
  exact tr_sub [1, 2, 3, 4, 0] rfl (hs3 (x4 + 1))
def f_X7_wantSpan_3 (x1 : Int32) (x2 : Int32) (x3 : Int32) (s3 : Int32 → M Unit) (x4 : Int32) : M Unit :=
  aI 120 8 x1 (fun v1 => if v1 ≤ x4 then (aI 120 8 x1 (fun v3 => if 3 ≤ v3 then (f_X7_wantSpan_118) else (aI 120 8 x1 (fun v5 => gd (inb x1 8) (sI (121 + 1 + x1.toNatClampNeg) 3 v5 x2 (gd (inb x1 8) (sI (130 + 1 + x1.toNatClampNeg) 3 v5 x3 (gd (inb x1 8) (sI (139 + 1 + x1.toNatClampNeg) 3 v5 1 (aI 120 8 x1 (fun v10 => sI 120 8 x1 (v10 + 1) (f_X7_wantSpan_118)))))))))))) else (gd (inb x1 8) (aI (121 + 1 + x1.toNatClampNeg) 3 x4 (fun v14 => if v14 = x2 then (gd (inb x1 8) (aI (130 + 1 + x1.toNatClampNeg) 3 x4 (fun v17 => if v17 = x3 then (gd (inb x1 8) (aI (139 + 1 + x1.toNatClampNeg) 3 x4 (fun v20 => sI (139 + 1 + x1.toNatClampNeg) 3 x4 (v20 + 1) (rt ())))) else (f_X7_wantSpan_54 s3 x1 x2 x3 x4)))) else (f_X7_wantSpan_54 s3 x1 x2 x3 x4)))))
set_option maxRecDepth 10000 in
set_option maxHeartbeats 4000000 in
theorem t_X7_wantSpan_3 {X : Cx} (hX : Good X RX7 cX7_wantSpan (none)) (hS : Sta X 0 0 5) (x1 : Int32) (x2 : Int32) (x3 : Int32) : ∀ s3 : Int32 → M Unit, (∀ x4 : Int32, Tr X eU 0 0 3 [(0, .ref (cxAd X 73)), (1, .int x1), (2, .int x2), (3, .int x3), (4, .int x4)] [] (s3 x4)) → ∀ x4 : Int32, Tr X eU 0 0 3 [(0, .ref (cxAd X 73)), (1, .int x1), (2, .int x2), (3, .int x3), (4, .int x4)] [] (f_X7_wantSpan_3 x1 x2 x3 s3 x4) := by
  intro s3 hs3 x4
  unfold f_X7_wantSpan_3
  refine tr_iload 4 hX dX7_wantSpan_3 rfl ?_
  refine tr_aload_n 0 hX dX7_wantSpan_5 rfl rfl ?_
  refine tr_getF hX dX7_wantSpan_6 sh_73 (by decide) rfl inlX7 (by decide) rfl (hS.g (Nat.le_of_ble_eq_true rfl)) cr_73_7 k_5_11 mq_73 ?_
  refine tr_iload_n 1 hX dX7_wantSpan_9 rfl rfl ?_
  refine tr_iald hX dX7_wantSpan_10 sh_120 (hS.e (Nat.le_of_ble_eq_true rfl)) (fun hb2 v1 => ?_)
  refine tr_ic_ge 60 hX dX7_wantSpan_11 (by decide) (fun c24 => ?_) (fun c24 => ?_)
  · refine tr_aload_n 0 hX dX7_wantSpan_60 rfl rfl ?_
    refine tr_getF hX dX7_wantSpan_61 sh_73 (by decide) rfl inlX7 (by decide) rfl (hS.g (Nat.le_of_ble_eq_true rfl)) cr_73_7 k_5_11 mq_73 ?_
    refine tr_iload_n 1 hX dX7_wantSpan_64 rfl rfl ?_
    refine tr_iald hX dX7_wantSpan_65 sh_120 (hS.e (Nat.le_of_ble_eq_true rfl)) (fun hb4 v3 => ?_)
    refine tr_iconst 3 hX dX7_wantSpan_66 (by decide) ?_
    refine tr_ic_ge 118 hX dX7_wantSpan_67 (by decide) (fun c12 => ?_) (fun c12 => ?_)
    · exact tr_sub [] rfl (t_X7_wantSpan_118 hX hS)
    · refine tr_aload_n 0 hX dX7_wantSpan_70 rfl rfl ?_
      refine tr_getF hX dX7_wantSpan_71 sh_73 (by decide) rfl inlX7 (by decide) rfl (hS.g (Nat.le_of_ble_eq_true rfl)) cr_73_7 k_5_11 mq_73 ?_
      refine tr_iload_n 1 hX dX7_wantSpan_74 rfl rfl ?_
      refine tr_iald hX dX7_wantSpan_75 sh_120 (hS.e (Nat.le_of_ble_eq_true rfl)) (fun hb6 v5 => ?_)
      refine tr_istore hX dX7_wantSpan_76 (hS.n (by decide)) rfl ?_
      refine tr_aload_n 1 hX dX7_wantSpan_78 rfl rfl ?_
      refine tr_getF hX dX7_wantSpan_79 sh_73 (by decide) rfl inlX7 (by decide) rfl (hS.g (Nat.le_of_ble_eq_true rfl)) cr_73_8 k_5_12 mq_73 ?_
      refine tr_iload_n 2 hX dX7_wantSpan_82 rfl rfl ?_
      refine tr_aald hX dX7_wantSpan_83 sh_121 (hS.e (Nat.le_of_ble_eq_true rfl)) (fun hb7 => ?_)
      refine tr_iload 0 hX dX7_wantSpan_84 rfl ?_
      refine tr_iload_n 3 hX dX7_wantSpan_86 rfl rfl ?_
      refine tr_iast hX dX7_wantSpan_87 (row_121 hb7).1 (hS.e (row_121 hb7).2) (fun _ => ?_)
      refine tr_aload_n 1 hX dX7_wantSpan_88 rfl rfl ?_
      refine tr_getF hX dX7_wantSpan_89 sh_73 (by decide) rfl inlX7 (by decide) rfl (hS.g (Nat.le_of_ble_eq_true rfl)) cr_73_9 k_5_13 mq_73 ?_
      refine tr_iload_n 2 hX dX7_wantSpan_92 rfl rfl ?_
      refine tr_aald hX dX7_wantSpan_93 sh_130 (hS.e (Nat.le_of_ble_eq_true rfl)) (fun hb8 => ?_)
      refine tr_iload 0 hX dX7_wantSpan_94 rfl ?_
      refine tr_iload_n 4 hX dX7_wantSpan_96 rfl rfl ?_
      refine tr_iast hX dX7_wantSpan_97 (row_130 hb8).1 (hS.e (row_130 hb8).2) (fun _ => ?_)
      refine tr_aload_n 1 hX dX7_wantSpan_98 rfl rfl ?_
      refine tr_getF hX dX7_wantSpan_99 sh_73 (by decide) rfl inlX7 (by decide) rfl (hS.g (Nat.le_of_ble_eq_true rfl)) cr_73_10 k_5_14 mq_73 ?_
      refine tr_iload_n 2 hX dX7_wantSpan_102 rfl rfl ?_
      refine tr_aald hX dX7_wantSpan_103 sh_139 (hS.e (Nat.le_of_ble_eq_true rfl)) (fun hb9 => ?_)
      refine tr_iload 0 hX dX7_wantSpan_104 rfl ?_
      refine tr_iconst 1 hX dX7_wantSpan_106 (by decide) ?_
      refine tr_iast hX dX7_wantSpan_107 (row_139 hb9).1 (hS.e (row_139 hb9).2) (fun _ => ?_)
      refine tr_aload_n 1 hX dX7_wantSpan_108 rfl rfl ?_
      refine tr_getF hX dX7_wantSpan_109 sh_73 (by decide) rfl inlX7 (by decide) rfl (hS.g (Nat.le_of_ble_eq_true rfl)) cr_73_7 k_5_11 mq_73 ?_
      refine tr_iload_n 2 hX dX7_wantSpan_112 rfl rfl ?_
      refine tr_dup2 hX dX7_wantSpan_113 rfl rfl ?_
      refine tr_iald hX dX7_wantSpan_114 sh_120 (hS.e (Nat.le_of_ble_eq_true rfl)) (fun hb11 v10 => ?_)
      refine tr_iconst 1 hX dX7_wantSpan_115 (by decide) ?_
      refine tr_iadd hX dX7_wantSpan_116 ?_
      refine tr_iast hX dX7_wantSpan_117 sh_120 (hS.e (Nat.le_of_ble_eq_true rfl)) (fun _ => ?_)
      exact tr_sub [] rfl (t_X7_wantSpan_118 hX hS)
  · refine tr_aload_n 0 hX dX7_wantSpan_14 rfl rfl ?_
    refine tr_getF hX dX7_wantSpan_15 sh_73 (by decide) rfl inlX7 (by decide) rfl (hS.g (Nat.le_of_ble_eq_true rfl)) cr_73_8 k_5_12 mq_73 ?_
    refine tr_iload_n 1 hX dX7_wantSpan_18 rfl rfl ?_
    refine tr_aald hX dX7_wantSpan_19 sh_121 (hS.e (Nat.le_of_ble_eq_true rfl)) (fun hb13 => ?_)
    refine tr_iload 4 hX dX7_wantSpan_20 rfl ?_
    refine tr_iald hX dX7_wantSpan_22 (row_121 hb13).1 (hS.e (row_121 hb13).2) (fun hb15 v14 => ?_)
    refine tr_iload_n 2 hX dX7_wantSpan_23 rfl rfl ?_
    refine tr_ic_ne 54 hX dX7_wantSpan_24 (by decide) (fun c23 => ?_) (fun c23 => ?_)
    · refine tr_aload_n 0 hX dX7_wantSpan_27 rfl rfl ?_
      refine tr_getF hX dX7_wantSpan_28 sh_73 (by decide) rfl inlX7 (by decide) rfl (hS.g (Nat.le_of_ble_eq_true rfl)) cr_73_9 k_5_13 mq_73 ?_
      refine tr_iload_n 1 hX dX7_wantSpan_31 rfl rfl ?_
      refine tr_aald hX dX7_wantSpan_32 sh_130 (hS.e (Nat.le_of_ble_eq_true rfl)) (fun hb16 => ?_)
      refine tr_iload 4 hX dX7_wantSpan_33 rfl ?_
      refine tr_iald hX dX7_wantSpan_35 (row_130 hb16).1 (hS.e (row_130 hb16).2) (fun hb18 v17 => ?_)
      refine tr_iload_n 3 hX dX7_wantSpan_36 rfl rfl ?_
      refine tr_ic_ne 54 hX dX7_wantSpan_37 (by decide) (fun c22 => ?_) (fun c22 => ?_)
      · refine tr_aload_n 0 hX dX7_wantSpan_40 rfl rfl ?_
        refine tr_getF hX dX7_wantSpan_41 sh_73 (by decide) rfl inlX7 (by decide) rfl (hS.g (Nat.le_of_ble_eq_true rfl)) cr_73_10 k_5_14 mq_73 ?_
        refine tr_iload_n 1 hX dX7_wantSpan_44 rfl rfl ?_
        refine tr_aald hX dX7_wantSpan_45 sh_139 (hS.e (Nat.le_of_ble_eq_true rfl)) (fun hb19 => ?_)
        refine tr_iload 4 hX dX7_wantSpan_46 rfl ?_
        refine tr_dup2 hX dX7_wantSpan_48 rfl rfl ?_
        refine tr_iald hX dX7_wantSpan_49 (row_139 hb19).1 (hS.e (row_139 hb19).2) (fun hb21 v20 => ?_)
        refine tr_iconst 1 hX dX7_wantSpan_50 (by decide) ?_
        refine tr_iadd hX dX7_wantSpan_51 ?_
        refine tr_iast hX dX7_wantSpan_52 (row_139 hb19).1 (hS.e (row_139 hb19).2) (fun _ => ?_)
        exact tr_vret0 hX hS dX7_wantSpan_53
      · exact tr_sub [0, 1, 2, 3, 4] rfl (t_X7_wantSpan_54 hX hS s3 x1 x2 x3 x4 hs3)
    · exact tr_sub [0, 1, 2, 3, 4] rfl (t_X7_wantSpan_54 hX hS s3 x1 x2 x3 x4 hs3)
def f_X7_wantSpan (x1 : Int32) (x2 : Int32) (x3 : Int32) : M Unit :=
  fix1 FU (f_X7_wantSpan_3 x1 x2 x3) 0
set_option maxRecDepth 10000 in
set_option maxHeartbeats 4000000 in
theorem t_X7_wantSpan_0 {X : Cx} (hX : Good X RX7 cX7_wantSpan (none)) (hS : Sta X 0 0 5) (x1 : Int32) (x2 : Int32) (x3 : Int32) : Tr X eU 0 0 0 [(0, .ref (cxAd X 73)), (1, .int x1), (2, .int x2), (3, .int x3)] [] (f_X7_wantSpan x1 x2 x3) := by
  unfold f_X7_wantSpan
  refine tr_iconst 0 hX dX7_wantSpan_0 (by decide) ?_
  refine tr_istore hX dX7_wantSpan_1 (hS.n (by decide)) rfl ?_
  exact tr_sub [1, 2, 3, 4, 0] rfl (tr_fix1 (lvf := fun x4 => [(0, .ref (cxAd X 73)), (1, .int x1), (2, .int x2), (3, .int x3), (4, .int x4)]) (t_X7_wantSpan_3 hX hS x1 x2 x3) FU 0)
theorem ok_X7_wantSpan {l : Launch} {E : Ev} (x1 : Int32) (x2 : Int32) (x3 : Int32)  : Ok l E Gall yX7_wantSpan cX7_wantSpan 5 (none) (rmz 0 0) eU [.ref (E.2.1 73), .int x1, .int x2, .int x3] (f_X7_wantSpan x1 x2 x3) := by
  refine ok_of0 (by decide) (Nat.le_of_ble_eq_true rfl) (fun X hX hV hS => ?_)
  subst hV
  exact t_X7_wantSpan_0 hX hS x1 x2 x3
def f_X7_seatOf_16 (p0 : Int32) : M Int32 :=
  rt p0
set_option maxRecDepth 10000 in
set_option maxHeartbeats 4000000 in
theorem t_X7_seatOf_16 {X : Cx} (hX : Good X RX7 cX7_seatOf ((some .int))) (hS : Sta X 0 0 2) (p0 : Int32) : Tr X eI 0 0 16 [] [.int p0] (f_X7_seatOf_16 p0) := by
  unfold f_X7_seatOf_16
  exact tr_iret0 hX hS dX7_seatOf_16
def f_X7_seatOf (x0 : Int32) (x1 : Int32) : M Int32 :=
  if 0 ≤ x0 then (if x0 = x1 then (f_X7_seatOf_16 2) else (f_X7_seatOf_16 1)) else (rt 0)
set_option maxRecDepth 10000 in
set_option maxHeartbeats 4000000 in
theorem t_X7_seatOf_0 {X : Cx} (hX : Good X RX7 cX7_seatOf ((some .int))) (hS : Sta X 0 0 2) (x0 : Int32) (x1 : Int32) : Tr X eI 0 0 0 [(0, .int x0), (1, .int x1)] [] (f_X7_seatOf x0 x1) := by
  unfold f_X7_seatOf
  refine tr_iload_n 0 hX dX7_seatOf_0 rfl rfl ?_
  refine tr_if_ge 6 hX dX7_seatOf_1 (by decide) (fun c2 => ?_) (fun c2 => ?_)
  · refine tr_iload_n 0 hX dX7_seatOf_6 rfl rfl ?_
    refine tr_iload_n 1 hX dX7_seatOf_7 rfl rfl ?_
    refine tr_ic_ne 15 hX dX7_seatOf_8 (by decide) (fun c1 => ?_) (fun c1 => ?_)
    · refine tr_iconst 2 hX dX7_seatOf_11 (by decide) ?_
      refine tr_goto 16 hX dX7_seatOf_12 (by decide) ?_
      exact tr_sub [] rfl (t_X7_seatOf_16 hX hS 2)
    · refine tr_iconst 1 hX dX7_seatOf_15 (by decide) ?_
      exact tr_sub [] rfl (t_X7_seatOf_16 hX hS 1)
  · refine tr_iconst 0 hX dX7_seatOf_4 (by decide) ?_
    exact tr_iret0 hX hS dX7_seatOf_5
theorem ok_X7_seatOf {l : Launch} {E : Ev} (x0 : Int32) (x1 : Int32)  : Ok l E Gall yX7_seatOf cX7_seatOf 2 ((some .int)) (rmz 0 0) eI [.int x0, .int x1] (f_X7_seatOf x0 x1) := by
  refine ok_of0 (by decide) (Nat.le_of_ble_eq_true rfl) (fun X hX hV hS => ?_)
  subst hV
  exact t_X7_seatOf_0 hX hS x0 x1
def f_X7_wantTie_222  : M Unit :=
  rt ()
set_option maxRecDepth 10000 in
set_option maxHeartbeats 4000000 in
theorem t_X7_wantTie_222 {X : Cx} (hX : Good X RX7 cX7_wantTie (none)) (hS : Sta X 1 21 10) : Tr X eU 0 0 222 [] [] (f_X7_wantTie_222) := by
  unfold f_X7_wantTie_222
  exact tr_vret0 hX hS dX7_wantTie_222
def f_X7_wantTie_125 (s38 : Int32 → M Unit) (x4 : Int32) (x5 : Int32) (x6 : Int32) (x7 : Int32) (x8 : Int32) (x9 : Int32) : M Unit :=
  s38 (x9 + 1)
set_option maxRecDepth 10000 in
set_option maxHeartbeats 4000000 in
theorem t_X7_wantTie_125 {X : Cx} (hX : Good X RX7 cX7_wantTie (none)) (hS : Sta X 1 21 10) (s38 : Int32 → M Unit) (x4 : Int32) (x5 : Int32) (x6 : Int32) (x7 : Int32) (x8 : Int32) (x9 : Int32) (hs38 : ∀ x9 : Int32, Tr X eU 0 0 38 [(0, .ref (cxAd X 73)), (4, .int x4), (5, .int x5), (6, .int x6), (7, .int x7), (8, .int x8), (9, .int x9)] [] (s38 x9)) : Tr X eU 0 0 125 [(0, .ref (cxAd X 73)), (4, .int x4), (5, .int x5), (6, .int x6), (7, .int x7), (8, .int x8), (9, .int x9)] [] (f_X7_wantTie_125 s38 x4 x5 x6 x7 x8 x9) := by
  unfold f_X7_wantTie_125
  refine tr_iinc (x9 + 1) 6 hX dX7_wantTie_125 rfl (congrArg (fun z => x9 + z) (by decide)) (hS.n (by decide)) rfl ?_
  refine tr_goto 38 hX dX7_wantTie_128 (by decide) ?_
  exact tr_sub [1, 2, 3, 4, 5, 6, 0] rfl (hs38 (x9 + 1))
def f_X7_wantTie_38 (x4 : Int32) (x5 : Int32) (x6 : Int32) (x7 : Int32) (x8 : Int32) (s38 : Int32 → M Unit) (x9 : Int32) : M Unit :=
  aI 74 8 x5 (fun v1 => if v1 ≤ x9 then (aI 74 8 x5 (fun v3 => if 16 ≤ v3 then (f_X7_wantTie_222) else (aI 74 8 x5 (fun v5 => gd (inb x5 8) (sI (75 + 1 + x5.toNatClampNeg) 16 v5 x6 (gd (inb x5 8) (sI (84 + 1 + x5.toNatClampNeg) 16 v5 x7 (gd (inb x5 8) (sI (93 + 1 + x5.toNatClampNeg) 16 v5 x8 (gd (inb x5 8) (sI (102 + 1 + x5.toNatClampNeg) 16 v5 x4 (gd (inb x5 8) (sI (111 + 1 + x5.toNatClampNeg) 16 v5 1 (aI 74 8 x5 (fun v12 => sI 74 8 x5 (v12 + 1) (f_X7_wantTie_222)))))))))))))))) else (gd (inb x5 8) (aI (75 + 1 + x5.toNatClampNeg) 16 x9 (fun v16 => if v16 = x6 then (gd (inb x5 8) (aI (84 + 1 + x5.toNatClampNeg) 16 x9 (fun v19 => if v19 = x7 then (gd (inb x5 8) (aI (93 + 1 + x5.toNatClampNeg) 16 x9 (fun v22 => if v22 = x8 then (gd (inb x5 8) (aI (102 + 1 + x5.toNatClampNeg) 16 x9 (fun v25 => if v25 = x4 then (gd (inb x5 8) (aI (111 + 1 + x5.toNatClampNeg) 16 x9 (fun v28 => sI (111 + 1 + x5.toNatClampNeg) 16 x9 (v28 + 1) (rt ())))) else (f_X7_wantTie_125 s38 x4 x5 x6 x7 x8 x9)))) else (f_X7_wantTie_125 s38 x4 x5 x6 x7 x8 x9)))) else (f_X7_wantTie_125 s38 x4 x5 x6 x7 x8 x9)))) else (f_X7_wantTie_125 s38 x4 x5 x6 x7 x8 x9)))))
set_option maxRecDepth 10000 in
set_option maxHeartbeats 4000000 in
theorem t_X7_wantTie_38 {X : Cx} (hX : Good X RX7 cX7_wantTie (none)) (hS : Sta X 1 21 10) (x4 : Int32) (x5 : Int32) (x6 : Int32) (x7 : Int32) (x8 : Int32) : ∀ s38 : Int32 → M Unit, (∀ x9 : Int32, Tr X eU 0 0 38 [(0, .ref (cxAd X 73)), (4, .int x4), (5, .int x5), (6, .int x6), (7, .int x7), (8, .int x8), (9, .int x9)] [] (s38 x9)) → ∀ x9 : Int32, Tr X eU 0 0 38 [(0, .ref (cxAd X 73)), (4, .int x4), (5, .int x5), (6, .int x6), (7, .int x7), (8, .int x8), (9, .int x9)] [] (f_X7_wantTie_38 x4 x5 x6 x7 x8 s38 x9) := by
  intro s38 hs38 x9
  unfold f_X7_wantTie_38
  refine tr_iload 6 hX dX7_wantTie_38 rfl ?_
  refine tr_aload_n 0 hX dX7_wantTie_40 rfl rfl ?_
  refine tr_getF hX dX7_wantTie_41 sh_73 (by decide) rfl inlX7 (by decide) rfl (hS.g (Nat.le_of_ble_eq_true rfl)) cr_73_1 k_5_4 mq_73 ?_
  refine tr_iload 2 hX dX7_wantTie_44 rfl ?_
  refine tr_iald hX dX7_wantTie_46 sh_74 (hS.e (Nat.le_of_ble_eq_true rfl)) (fun hb2 v1 => ?_)
  refine tr_ic_ge 131 hX dX7_wantTie_47 (by decide) (fun c34 => ?_) (fun c34 => ?_)
  · refine tr_aload_n 0 hX dX7_wantTie_131 rfl rfl ?_
    refine tr_getF hX dX7_wantTie_132 sh_73 (by decide) rfl inlX7 (by decide) rfl (hS.g (Nat.le_of_ble_eq_true rfl)) cr_73_1 k_5_4 mq_73 ?_
    refine tr_iload 2 hX dX7_wantTie_135 rfl ?_
    refine tr_iald hX dX7_wantTie_137 sh_74 (hS.e (Nat.le_of_ble_eq_true rfl)) (fun hb4 v3 => ?_)
    refine tr_bipush 16 hX dX7_wantTie_138 (by decide) ?_
    refine tr_ic_ge 222 hX dX7_wantTie_140 (by decide) (fun c14 => ?_) (fun c14 => ?_)
    · exact tr_sub [] rfl (t_X7_wantTie_222 hX hS)
    · refine tr_aload_n 0 hX dX7_wantTie_143 rfl rfl ?_
      refine tr_getF hX dX7_wantTie_144 sh_73 (by decide) rfl inlX7 (by decide) rfl (hS.g (Nat.le_of_ble_eq_true rfl)) cr_73_1 k_5_4 mq_73 ?_
      refine tr_iload 2 hX dX7_wantTie_147 rfl ?_
      refine tr_iald hX dX7_wantTie_149 sh_74 (hS.e (Nat.le_of_ble_eq_true rfl)) (fun hb6 v5 => ?_)
      refine tr_istore hX dX7_wantTie_150 (hS.n (by decide)) rfl ?_
      refine tr_aload_n 1 hX dX7_wantTie_152 rfl rfl ?_
      refine tr_getF hX dX7_wantTie_153 sh_73 (by decide) rfl inlX7 (by decide) rfl (hS.g (Nat.le_of_ble_eq_true rfl)) cr_73_2 k_5_6 mq_73 ?_
      refine tr_iload 3 hX dX7_wantTie_156 rfl ?_
      refine tr_aald hX dX7_wantTie_158 sh_75 (hS.e (Nat.le_of_ble_eq_true rfl)) (fun hb7 => ?_)
      refine tr_iload 0 hX dX7_wantTie_159 rfl ?_
      refine tr_iload 4 hX dX7_wantTie_161 rfl ?_
      refine tr_iast hX dX7_wantTie_163 (row_75 hb7).1 (hS.e (row_75 hb7).2) (fun _ => ?_)
      refine tr_aload_n 1 hX dX7_wantTie_164 rfl rfl ?_
      refine tr_getF hX dX7_wantTie_165 sh_73 (by decide) rfl inlX7 (by decide) rfl (hS.g (Nat.le_of_ble_eq_true rfl)) cr_73_3 k_5_7 mq_73 ?_
      refine tr_iload 3 hX dX7_wantTie_168 rfl ?_
      refine tr_aald hX dX7_wantTie_170 sh_84 (hS.e (Nat.le_of_ble_eq_true rfl)) (fun hb8 => ?_)
      refine tr_iload 0 hX dX7_wantTie_171 rfl ?_
      refine tr_iload 5 hX dX7_wantTie_173 rfl ?_
      refine tr_iast hX dX7_wantTie_175 (row_84 hb8).1 (hS.e (row_84 hb8).2) (fun _ => ?_)
      refine tr_aload_n 1 hX dX7_wantTie_176 rfl rfl ?_
      refine tr_getF hX dX7_wantTie_177 sh_73 (by decide) rfl inlX7 (by decide) rfl (hS.g (Nat.le_of_ble_eq_true rfl)) cr_73_4 k_5_8 mq_73 ?_
      refine tr_iload 3 hX dX7_wantTie_180 rfl ?_
      refine tr_aald hX dX7_wantTie_182 sh_93 (hS.e (Nat.le_of_ble_eq_true rfl)) (fun hb9 => ?_)
      refine tr_iload 0 hX dX7_wantTie_183 rfl ?_
      refine tr_iload 6 hX dX7_wantTie_185 rfl ?_
      refine tr_iast hX dX7_wantTie_187 (row_93 hb9).1 (hS.e (row_93 hb9).2) (fun _ => ?_)
      refine tr_aload_n 1 hX dX7_wantTie_188 rfl rfl ?_
      refine tr_getF hX dX7_wantTie_189 sh_73 (by decide) rfl inlX7 (by decide) rfl (hS.g (Nat.le_of_ble_eq_true rfl)) cr_73_5 k_5_9 mq_73 ?_
      refine tr_iload 3 hX dX7_wantTie_192 rfl ?_
      refine tr_aald hX dX7_wantTie_194 sh_102 (hS.e (Nat.le_of_ble_eq_true rfl)) (fun hb10 => ?_)
      refine tr_iload 0 hX dX7_wantTie_195 rfl ?_
      refine tr_iload 2 hX dX7_wantTie_197 rfl ?_
      refine tr_iast hX dX7_wantTie_199 (row_102 hb10).1 (hS.e (row_102 hb10).2) (fun _ => ?_)
      refine tr_aload_n 1 hX dX7_wantTie_200 rfl rfl ?_
      refine tr_getF hX dX7_wantTie_201 sh_73 (by decide) rfl inlX7 (by decide) rfl (hS.g (Nat.le_of_ble_eq_true rfl)) cr_73_6 k_5_10 mq_73 ?_
      refine tr_iload 3 hX dX7_wantTie_204 rfl ?_
      refine tr_aald hX dX7_wantTie_206 sh_111 (hS.e (Nat.le_of_ble_eq_true rfl)) (fun hb11 => ?_)
      refine tr_iload 0 hX dX7_wantTie_207 rfl ?_
      refine tr_iconst 1 hX dX7_wantTie_209 (by decide) ?_
      refine tr_iast hX dX7_wantTie_210 (row_111 hb11).1 (hS.e (row_111 hb11).2) (fun _ => ?_)
      refine tr_aload_n 1 hX dX7_wantTie_211 rfl rfl ?_
      refine tr_getF hX dX7_wantTie_212 sh_73 (by decide) rfl inlX7 (by decide) rfl (hS.g (Nat.le_of_ble_eq_true rfl)) cr_73_1 k_5_4 mq_73 ?_
      refine tr_iload 3 hX dX7_wantTie_215 rfl ?_
      refine tr_dup2 hX dX7_wantTie_217 rfl rfl ?_
      refine tr_iald hX dX7_wantTie_218 sh_74 (hS.e (Nat.le_of_ble_eq_true rfl)) (fun hb13 v12 => ?_)
      refine tr_iconst 1 hX dX7_wantTie_219 (by decide) ?_
      refine tr_iadd hX dX7_wantTie_220 ?_
      refine tr_iast hX dX7_wantTie_221 sh_74 (hS.e (Nat.le_of_ble_eq_true rfl)) (fun _ => ?_)
      exact tr_sub [] rfl (t_X7_wantTie_222 hX hS)
  · refine tr_aload_n 0 hX dX7_wantTie_50 rfl rfl ?_
    refine tr_getF hX dX7_wantTie_51 sh_73 (by decide) rfl inlX7 (by decide) rfl (hS.g (Nat.le_of_ble_eq_true rfl)) cr_73_2 k_5_6 mq_73 ?_
    refine tr_iload 2 hX dX7_wantTie_54 rfl ?_
    refine tr_aald hX dX7_wantTie_56 sh_75 (hS.e (Nat.le_of_ble_eq_true rfl)) (fun hb15 => ?_)
    refine tr_iload 6 hX dX7_wantTie_57 rfl ?_
    refine tr_iald hX dX7_wantTie_59 (row_75 hb15).1 (hS.e (row_75 hb15).2) (fun hb17 v16 => ?_)
    refine tr_iload 3 hX dX7_wantTie_60 rfl ?_
    refine tr_ic_ne 125 hX dX7_wantTie_62 (by decide) (fun c33 => ?_) (fun c33 => ?_)
    · refine tr_aload_n 0 hX dX7_wantTie_65 rfl rfl ?_
      refine tr_getF hX dX7_wantTie_66 sh_73 (by decide) rfl inlX7 (by decide) rfl (hS.g (Nat.le_of_ble_eq_true rfl)) cr_73_3 k_5_7 mq_73 ?_
      refine tr_iload 2 hX dX7_wantTie_69 rfl ?_
      refine tr_aald hX dX7_wantTie_71 sh_84 (hS.e (Nat.le_of_ble_eq_true rfl)) (fun hb18 => ?_)
      refine tr_iload 6 hX dX7_wantTie_72 rfl ?_
      refine tr_iald hX dX7_wantTie_74 (row_84 hb18).1 (hS.e (row_84 hb18).2) (fun hb20 v19 => ?_)
      refine tr_iload 4 hX dX7_wantTie_75 rfl ?_
      refine tr_ic_ne 125 hX dX7_wantTie_77 (by decide) (fun c32 => ?_) (fun c32 => ?_)
      · refine tr_aload_n 0 hX dX7_wantTie_80 rfl rfl ?_
        refine tr_getF hX dX7_wantTie_81 sh_73 (by decide) rfl inlX7 (by decide) rfl (hS.g (Nat.le_of_ble_eq_true rfl)) cr_73_4 k_5_8 mq_73 ?_
        refine tr_iload 2 hX dX7_wantTie_84 rfl ?_
        refine tr_aald hX dX7_wantTie_86 sh_93 (hS.e (Nat.le_of_ble_eq_true rfl)) (fun hb21 => ?_)
        refine tr_iload 6 hX dX7_wantTie_87 rfl ?_
        refine tr_iald hX dX7_wantTie_89 (row_93 hb21).1 (hS.e (row_93 hb21).2) (fun hb23 v22 => ?_)
        refine tr_iload 5 hX dX7_wantTie_90 rfl ?_
        refine tr_ic_ne 125 hX dX7_wantTie_92 (by decide) (fun c31 => ?_) (fun c31 => ?_)
        · refine tr_aload_n 0 hX dX7_wantTie_95 rfl rfl ?_
          refine tr_getF hX dX7_wantTie_96 sh_73 (by decide) rfl inlX7 (by decide) rfl (hS.g (Nat.le_of_ble_eq_true rfl)) cr_73_5 k_5_9 mq_73 ?_
          refine tr_iload 2 hX dX7_wantTie_99 rfl ?_
          refine tr_aald hX dX7_wantTie_101 sh_102 (hS.e (Nat.le_of_ble_eq_true rfl)) (fun hb24 => ?_)
          refine tr_iload 6 hX dX7_wantTie_102 rfl ?_
          refine tr_iald hX dX7_wantTie_104 (row_102 hb24).1 (hS.e (row_102 hb24).2) (fun hb26 v25 => ?_)
          refine tr_iload 1 hX dX7_wantTie_105 rfl ?_
          refine tr_ic_ne 125 hX dX7_wantTie_107 (by decide) (fun c30 => ?_) (fun c30 => ?_)
          · refine tr_aload_n 0 hX dX7_wantTie_110 rfl rfl ?_
            refine tr_getF hX dX7_wantTie_111 sh_73 (by decide) rfl inlX7 (by decide) rfl (hS.g (Nat.le_of_ble_eq_true rfl)) cr_73_6 k_5_10 mq_73 ?_
            refine tr_iload 2 hX dX7_wantTie_114 rfl ?_
            refine tr_aald hX dX7_wantTie_116 sh_111 (hS.e (Nat.le_of_ble_eq_true rfl)) (fun hb27 => ?_)
            refine tr_iload 6 hX dX7_wantTie_117 rfl ?_
            refine tr_dup2 hX dX7_wantTie_119 rfl rfl ?_
            refine tr_iald hX dX7_wantTie_120 (row_111 hb27).1 (hS.e (row_111 hb27).2) (fun hb29 v28 => ?_)
            refine tr_iconst 1 hX dX7_wantTie_121 (by decide) ?_
            refine tr_iadd hX dX7_wantTie_122 ?_
            refine tr_iast hX dX7_wantTie_123 (row_111 hb27).1 (hS.e (row_111 hb27).2) (fun _ => ?_)
            exact tr_vret0 hX hS dX7_wantTie_124
          · exact tr_sub [0, 1, 2, 3, 4, 5, 6] rfl (t_X7_wantTie_125 hX hS s38 x4 x5 x6 x7 x8 x9 hs38)
        · exact tr_sub [0, 1, 2, 3, 4, 5, 6] rfl (t_X7_wantTie_125 hX hS s38 x4 x5 x6 x7 x8 x9 hs38)
      · exact tr_sub [0, 1, 2, 3, 4, 5, 6] rfl (t_X7_wantTie_125 hX hS s38 x4 x5 x6 x7 x8 x9 hs38)
    · exact tr_sub [0, 1, 2, 3, 4, 5, 6] rfl (t_X7_wantTie_125 hX hS s38 x4 x5 x6 x7 x8 x9 hs38)
def f_X7_wantTie (x1 : Int32) (x2 : Int32) (x3 : Int32) (x4 : Int32) : M Unit :=
  nm ((if x2 < (if x1 < x3 then x3 else x1) then (if x1 < x3 then x3 else x1) else x2)) (fun v1 => bnd (f_X7_seatOf x1 v1) (fun v2 => bnd (f_X7_seatOf x2 v1) (fun v3 => bnd (f_X7_seatOf x3 v1) (fun v4 => fix1 FU (f_X7_wantTie_38 x4 v1 v2 v3 v4) 0))))
set_option maxRecDepth 10000 in
set_option maxHeartbeats 4000000 in
theorem t_X7_wantTie_0 {X : Cx} (hX : Good X RX7 cX7_wantTie (none)) (hS : Sta X 1 21 10) (x1 : Int32) (x2 : Int32) (x3 : Int32) (x4 : Int32) : Tr X eU 0 0 0 [(0, .ref (cxAd X 73)), (1, .int x1), (2, .int x2), (3, .int x3), (4, .int x4)] [] (f_X7_wantTie x1 x2 x3 x4) := by
  unfold f_X7_wantTie
  refine tr_iload_n 2 hX dX7_wantTie_0 rfl rfl ?_
  refine tr_iload_n 1 hX dX7_wantTie_1 rfl rfl ?_
  refine tr_iload_n 3 hX dX7_wantTie_2 rfl rfl ?_
  refine tr_max hX dX7_wantTie_3 k_21_2 k_21_3 k_20_16 k_21_4 (by rw [hS.2.2.2.2.1]; exact Nat.le_of_ble_eq_true rfl) (by rw [hS.2.2.2.2.1]; exact Nat.le_of_ble_eq_true rfl) (Nat.zero_le _) (Nat.zero_le _) ?_
  refine tr_max hX dX7_wantTie_6 k_21_2 k_21_3 k_20_16 k_21_4 (by rw [hS.2.2.2.2.1]; exact Nat.le_of_ble_eq_true rfl) (by rw [hS.2.2.2.2.1]; exact Nat.le_of_ble_eq_true rfl) (Nat.zero_le _) (Nat.zero_le _) ?_
  refine tr_nm (fun v1 ev1 => ?_)
  refine tr_istore hX dX7_wantTie_9 (hS.n (by decide)) rfl ?_
  refine tr_iload_n 2 hX dX7_wantTie_11 rfl rfl ?_
  refine tr_iload 0 hX dX7_wantTie_12 rfl ?_
  refine tr_callS0I (st := []) 2 hX hS dX7_wantTie_14 (ok_X7_seatOf x1 v1) k_21_5 k_21_6 k_4_22 k_21_7 hy_X7_seatOf.2 rfl rfl (Nat.le_of_ble_eq_true rfl) rfl (fun v2 => ?_)
  refine tr_istore hX dX7_wantTie_17 (hS.n (by decide)) rfl ?_
  refine tr_iload_n 4 hX dX7_wantTie_19 rfl rfl ?_
  refine tr_iload 1 hX dX7_wantTie_20 rfl ?_
  refine tr_callS0I (st := []) 2 hX hS dX7_wantTie_22 (ok_X7_seatOf x2 v1) k_21_5 k_21_6 k_4_22 k_21_7 hy_X7_seatOf.2 rfl rfl (Nat.le_of_ble_eq_true rfl) rfl (fun v3 => ?_)
  refine tr_istore hX dX7_wantTie_25 (hS.n (by decide)) rfl ?_
  refine tr_iload_n 6 hX dX7_wantTie_27 rfl rfl ?_
  refine tr_iload 2 hX dX7_wantTie_28 rfl ?_
  refine tr_callS0I (st := []) 2 hX hS dX7_wantTie_30 (ok_X7_seatOf x3 v1) k_21_5 k_21_6 k_4_22 k_21_7 hy_X7_seatOf.2 rfl rfl (Nat.le_of_ble_eq_true rfl) rfl (fun v4 => ?_)
  refine tr_istore hX dX7_wantTie_33 (hS.n (by decide)) rfl ?_
  refine tr_iconst 0 hX dX7_wantTie_35 (by decide) ?_
  refine tr_istore hX dX7_wantTie_36 (hS.n (by decide)) rfl ?_
  exact tr_sub [5, 9, 4, 3, 2, 1, 0] rfl (tr_fix1 (lvf := fun x9 => [(0, .ref (cxAd X 73)), (4, .int x4), (5, .int v1), (6, .int v2), (7, .int v3), (8, .int v4), (9, .int x9)]) (t_X7_wantTie_38 hX hS x4 v1 v2 v3 v4) FU 0)
theorem ok_X7_wantTie {l : Launch} {E : Ev} (x1 : Int32) (x2 : Int32) (x3 : Int32) (x4 : Int32)  : Ok l E Gall yX7_wantTie cX7_wantTie 10 (none) (rmz 1 21) eU [.ref (E.2.1 73), .int x1, .int x2, .int x3, .int x4] (f_X7_wantTie x1 x2 x3 x4) := by
  refine ok_of0 (by decide) (Nat.le_of_ble_eq_true rfl) (fun X hX hV hS => ?_)
  subst hV
  exact t_X7_wantTie_0 hX hS x1 x2 x3 x4
def f_X7_want_47  : M Unit :=
  rt ()
set_option maxRecDepth 10000 in
set_option maxHeartbeats 4000000 in
theorem t_X7_want_47 {X : Cx} (hX : Good X RX7 cX7_want (none)) (hS : Sta X 2 50 5) : Tr X eU 0 0 47 [] [] (f_X7_want_47) := by
  unfold f_X7_want_47
  exact tr_vret0 hX hS dX7_want_47
def f_X7_want_38 (x1 : Int32) (x2 : Int32) (x3 : Int32) (x4 : Int32) : M Unit :=
  bnd (f_X7_wantTie x1 x2 x3 x4) (fun _ => f_X7_want_47)
set_option maxRecDepth 10000 in
set_option maxHeartbeats 4000000 in
theorem t_X7_want_38 {X : Cx} (hX : Good X RX7 cX7_want (none)) (hS : Sta X 2 50 5) (x1 : Int32) (x2 : Int32) (x3 : Int32) (x4 : Int32) : Tr X eU 0 0 38 [(0, .ref (cxAd X 73)), (1, .int x1), (2, .int x2), (3, .int x3), (4, .int x4)] [] (f_X7_want_38 x1 x2 x3 x4) := by
  unfold f_X7_want_38
  refine tr_aload_n 0 hX dX7_want_38 rfl rfl ?_
  refine tr_iload_n 1 hX dX7_want_39 rfl rfl ?_
  refine tr_iload_n 2 hX dX7_want_40 rfl rfl ?_
  refine tr_iload_n 3 hX dX7_want_41 rfl rfl ?_
  refine tr_iload 4 hX dX7_want_42 rfl ?_
  refine tr_callV0U (st := []) 4 hX hS dX7_want_44 (ok_X7_wantTie x1 x2 x3 x4) sh_73 (by decide) rfl (Nat.le_of_ble_eq_true rfl) k_20_22 k_20_23 k_21_0 k_4_22 k_21_1 hy_X7_wantTie rfl rfl (Nat.le_of_ble_eq_true rfl) rfl (fun _ => ?_)
  exact tr_sub [] rfl (t_X7_want_47 hX hS)
def f_X7_want_30 (x4 : Int32) (p0 : Int32) (p1 : Int32) : M Unit :=
  bnd (f_X7_wantSpan p1 p0 x4) (fun _ => f_X7_want_47)
set_option maxRecDepth 10000 in
set_option maxHeartbeats 4000000 in
theorem t_X7_want_30 {X : Cx} (hX : Good X RX7 cX7_want (none)) (hS : Sta X 2 50 5) (x4 : Int32) (p0 : Int32) (p1 : Int32) : Tr X eU 0 0 30 [(4, .int x4)] [.int p0, .int p1, .ref (cxAd X 73)] (f_X7_want_30 x4 p0 p1) := by
  unfold f_X7_want_30
  refine tr_iload 0 hX dX7_want_30 rfl ?_
  refine tr_callV0U (st := []) 3 hX hS dX7_want_32 (ok_X7_wantSpan p1 p0 x4) sh_73 (by decide) rfl (Nat.le_of_ble_eq_true rfl) k_20_18 k_20_19 k_20_20 k_4_22 k_20_21 hy_X7_wantSpan rfl rfl (Nat.le_of_ble_eq_true rfl) rfl (fun _ => ?_)
  refine tr_goto 47 hX dX7_want_35 (by decide) ?_
  exact tr_sub [] rfl (t_X7_want_47 hX hS)
def f_X7_want (x1 : Int32) (x2 : Int32) (x3 : Int32) (x4 : Int32) : M Unit :=
  if x1 < 0 then (f_X7_want_38 x1 x2 x3 x4) else (if x3 < 0 then (f_X7_want_38 x1 x2 x3 x4) else (if (if 0 ≤ (x1 - x3) then (x1 - x3) else 0 - (x1 - x3)) = 2 then (if x1 ≤ x3 then (f_X7_want_30 x4 0 x2) else (f_X7_want_30 x4 1 x2)) else (f_X7_want_38 x1 x2 x3 x4)))
set_option maxRecDepth 10000 in
set_option maxHeartbeats 4000000 in
theorem t_X7_want_0 {X : Cx} (hX : Good X RX7 cX7_want (none)) (hS : Sta X 2 50 5) (x1 : Int32) (x2 : Int32) (x3 : Int32) (x4 : Int32) : Tr X eU 0 0 0 [(0, .ref (cxAd X 73)), (1, .int x1), (2, .int x2), (3, .int x3), (4, .int x4)] [] (f_X7_want x1 x2 x3 x4) := by
  unfold f_X7_want
  refine tr_iload_n 1 hX dX7_want_0 rfl rfl ?_
  refine tr_if_lt 38 hX dX7_want_1 (by decide) (fun c4 => ?_) (fun c4 => ?_)
  · exact tr_sub [0, 1, 2, 3, 4] rfl (t_X7_want_38 hX hS x1 x2 x3 x4)
  · refine tr_iload_n 3 hX dX7_want_4 rfl rfl ?_
    refine tr_if_lt 38 hX dX7_want_5 (by decide) (fun c3 => ?_) (fun c3 => ?_)
    · exact tr_sub [0, 1, 2, 3, 4] rfl (t_X7_want_38 hX hS x1 x2 x3 x4)
    · refine tr_iload_n 1 hX dX7_want_8 rfl rfl ?_
      refine tr_iload_n 3 hX dX7_want_9 rfl rfl ?_
      refine tr_isub hX dX7_want_10 ?_
      refine tr_abs hX dX7_want_11 k_20_14 k_20_15 k_20_16 k_20_17 (by rw [hS.2.2.2.2.1]; exact Nat.le_of_ble_eq_true rfl) (by rw [hS.2.2.2.2.1]; exact Nat.le_of_ble_eq_true rfl) (Nat.zero_le _) (Nat.zero_le _) ?_
      refine tr_iconst 2 hX dX7_want_14 (by decide) ?_
      refine tr_ic_ne 38 hX dX7_want_15 (by decide) (fun c2 => ?_) (fun c2 => ?_)
      · refine tr_aload_n 0 hX dX7_want_18 rfl rfl ?_
        refine tr_iload_n 2 hX dX7_want_19 rfl rfl ?_
        refine tr_iload_n 1 hX dX7_want_20 rfl rfl ?_
        refine tr_iload_n 3 hX dX7_want_21 rfl rfl ?_
        refine tr_ic_le 29 hX dX7_want_22 (by decide) (fun c1 => ?_) (fun c1 => ?_)
        · refine tr_iconst 0 hX dX7_want_29 (by decide) ?_
          exact tr_sub [4] rfl (t_X7_want_30 hX hS x4 0 x2)
        · refine tr_iconst 1 hX dX7_want_25 (by decide) ?_
          refine tr_goto 30 hX dX7_want_26 (by decide) ?_
          exact tr_sub [4] rfl (t_X7_want_30 hX hS x4 1 x2)
      · exact tr_sub [0, 1, 2, 3, 4] rfl (t_X7_want_38 hX hS x1 x2 x3 x4)
theorem ok_X7_want {l : Launch} {E : Ev} (x1 : Int32) (x2 : Int32) (x3 : Int32) (x4 : Int32)  : Ok l E Gall yX7_want cX7_want 5 (none) (rmz 2 50) eU [.ref (E.2.1 73), .int x1, .int x2, .int x3, .int x4] (f_X7_want x1 x2 x3 x4) := by
  refine ok_of0 (by decide) (Nat.le_of_ble_eq_true rfl) (fun X hX hV hS => ?_)
  subst hV
  exact t_X7_want_0 hX hS x1 x2 x3 x4
def f_X8_write_11  : M Int32 :=
  rt (-1)
set_option maxRecDepth 10000 in
set_option maxHeartbeats 4000000 in
theorem t_X8_write_11 {X : Cx} (hX : Good X RX8 cX8_write ((some .int))) (hS : Sta X 1 24 4) : Tr X eI 0 0 11 [] [] (f_X8_write_11) := by
  unfold f_X8_write_11
  refine tr_iconst (-1) hX dX8_write_11 (by decide) ?_
  exact tr_iret0 hX hS dX8_write_12
def f_X8_write (x1 : Int32) (x2 : Int64) : M Int32 :=
  if x1 < 1 then (f_X8_write_11) else (if x1 ≤ 8 then (bnd (f_X4_append x1 x2) (fun v1 => rt v1)) else (f_X8_write_11))
set_option maxRecDepth 10000 in
set_option maxHeartbeats 4000000 in
theorem t_X8_write_0 {X : Cx} (hX : Good X RX8 cX8_write ((some .int))) (hS : Sta X 1 24 4) (x1 : Int32) (x2 : Int64) : Tr X eI 0 0 0 [(0, .ref (cxAd X 0)), (1, .int x1), (2, .long x2)] [] (f_X8_write x1 x2) := by
  unfold f_X8_write
  refine tr_iload_n 1 hX dX8_write_0 rfl rfl ?_
  refine tr_iconst 1 hX dX8_write_1 (by decide) ?_
  refine tr_ic_lt 11 hX dX8_write_2 (by decide) (fun c3 => ?_) (fun c3 => ?_)
  · exact tr_sub [] rfl (t_X8_write_11 hX hS)
  · refine tr_iload_n 1 hX dX8_write_5 rfl rfl ?_
    refine tr_bipush 8 hX dX8_write_6 (by decide) ?_
    refine tr_ic_le 13 hX dX8_write_8 (by decide) (fun c2 => ?_) (fun c2 => ?_)
    · refine tr_aload_n 0 hX dX8_write_13 rfl rfl ?_
      refine tr_getF hX dX8_write_14 sh_0 (by decide) rfl inlX8 (by decide) rfl (hS.g (Nat.le_of_ble_eq_true rfl)) cr_0_0 k_1_16 mq_0 ?_
      refine tr_iload_n 1 hX dX8_write_17 rfl rfl ?_
      refine tr_lload_n 2 hX dX8_write_18 rfl rfl ?_
      refine tr_callV0I (st := []) 2 hX hS dX8_write_19 (ok_X4_append x1 x2) sh_1 (by decide) rfl (Nat.le_of_ble_eq_true rfl) k_7_20 k_7_21 k_7_22 k_1_15 k_7_23 hy_X4_append rfl rfl (Nat.le_of_ble_eq_true rfl) rfl (fun v1 => ?_)
      exact tr_iret0 hX hS dX8_write_22
    · exact tr_sub [] rfl (t_X8_write_11 hX hS)
theorem ok_X8_write {l : Launch} {E : Ev} (x1 : Int32) (x2 : Int64)  : Ok l E Gall yX8_write cX8_write 4 ((some .int)) (rmz 1 24) eI [.ref (E.2.1 0), .int x1, .long x2] (f_X8_write x1 x2) := by
  refine ok_of0 (by decide) (Nat.le_of_ble_eq_true rfl) (fun X hX hV hS => ?_)
  subst hV
  exact t_X8_write_0 hX hS x1 x2
def f_X8_wipe  : M Int32 :=
  rI 1 1 (fun v1 => wI 1 1 0 (rt v1))
set_option maxRecDepth 10000 in
set_option maxHeartbeats 4000000 in
theorem t_X8_wipe_0 {X : Cx} (hX : Good X RX8 cX8_wipe ((some .int))) (hS : Sta X 0 0 2) : Tr X eI 0 0 0 [(0, .ref (cxAd X 0))] [] (f_X8_wipe) := by
  unfold f_X8_wipe
  refine tr_aload_n 0 hX dX8_wipe_0 rfl rfl ?_
  refine tr_getF hX dX8_wipe_1 sh_0 (by decide) rfl inlX8 (by decide) rfl (hS.g (Nat.le_of_ble_eq_true rfl)) cr_0_0 k_1_16 mq_0 ?_
  refine tr_getI hX dX8_wipe_4 sh_1 (by decide) rfl inlX4 (by decide) rfl (hS.e (Nat.le_of_ble_eq_true rfl)) k_8_15 (fun v1 => ?_)
  refine tr_istore_n hX dX8_wipe_7 rfl (hS.n (by decide)) rfl ?_
  refine tr_aload_n 1 hX dX8_wipe_8 rfl rfl ?_
  refine tr_getF hX dX8_wipe_9 sh_0 (by decide) rfl inlX8 (by decide) rfl (hS.g (Nat.le_of_ble_eq_true rfl)) cr_0_0 k_1_16 mq_0 ?_
  refine tr_iconst 0 hX dX8_wipe_12 (by decide) ?_
  refine tr_putI hX dX8_wipe_13 sh_1 (by decide) rfl inlX4 tyX4 tyX4_ok nmX4 (by decide) rfl (hS.e (Nat.le_of_ble_eq_true rfl)) k_8_15 rfl rfl rfl rfl ?_
  refine tr_iload_n 0 hX dX8_wipe_16 rfl rfl ?_
  exact tr_iret0 hX hS dX8_wipe_17
theorem ok_X8_wipe {l : Launch} {E : Ev}   : Ok l E Gall yX8_wipe cX8_wipe 2 ((some .int)) (rmz 0 0) eI [.ref (E.2.1 0)] (f_X8_wipe) := by
  refine ok_of0 (by decide) (Nat.le_of_ble_eq_true rfl) (fun X hX hV hS => ?_)
  subst hV
  exact t_X8_wipe_0 hX hS 
def f_X8_fault  : M Int32 :=
  rT 0 2 (fun t1 => bnd (f_X4_readInto t1) (fun v2 => rt v2))
set_option maxRecDepth 10000 in
set_option maxHeartbeats 4000000 in
theorem t_X8_fault_0 {X : Cx} (hX : Good X RX8 cX8_fault ((some .int))) (hS : Sta X 4 90 1) : Tr X eI 0 0 0 [(0, .ref (cxAd X 0))] [] (f_X8_fault) := by
  unfold f_X8_fault
  refine tr_aload_n 0 hX dX8_fault_0 rfl rfl ?_
  refine tr_getF hX dX8_fault_1 sh_0 (by decide) rfl inlX8 (by decide) rfl (hS.g (Nat.le_of_ble_eq_true rfl)) cr_0_0 k_1_16 mq_0 ?_
  refine tr_aload_n 0 hX dX8_fault_4 rfl rfl ?_
  refine tr_getT hX dX8_fault_5 sh_0 (by decide) rfl inlX8 (by decide) rfl (hS.e (Nat.le_of_ble_eq_true rfl)) k_1_21 (fun t1 ht1 => ?_)
  refine tr_callV0I (st := []) 1 hX hS dX8_fault_8 (ok_X4_readInto t1 ht1) sh_1 (by decide) rfl (Nat.le_of_ble_eq_true rfl) k_9_0 k_9_1 k_9_2 k_1_15 k_9_3 hy_X4_readInto rfl rfl (Nat.le_of_ble_eq_true rfl) rfl (fun v2 => ?_)
  exact tr_iret0 hX hS dX8_fault_11
theorem ok_X8_fault {l : Launch} {E : Ev}   : Ok l E Gall yX8_fault cX8_fault 1 ((some .int)) (rmz 4 90) eI [.ref (E.2.1 0)] (f_X8_fault) := by
  refine ok_of0 (by decide) (Nat.le_of_ble_eq_true rfl) (fun X hX hV hS => ?_)
  subst hV
  exact t_X8_fault_0 hX hS 
def f_X8_lay  : M Int32 :=
  rT 0 2 (fun t1 => bnd (f_X4_readInto t1) (fun v2 => if v2 = (-4) then (rT 0 2 (fun t3 => rT 0 1 (fun t4 => wR 0 2 t4 (wR 0 1 t3 (rT 0 1 (fun t5 => bnd (f_X6_joinAll t5) (fun _ => bnd (f_X0_empty 20) (fun _ => wI 149 0 0 (wI 154 0 0 (wI 0 6 0 (rT 0 1 (fun t8 => rI t8 0 (fun v9 => rt v9))))))))))))) else (rt (-2))))
set_option maxRecDepth 10000 in
set_option maxHeartbeats 4000000 in
theorem t_X8_lay_0 {X : Cx} (hX : Good X RX8 cX8_lay ((some .int))) (hS : Sta X 4 90 2) : Tr X eI 0 0 0 [(0, .ref (cxAd X 0))] [] (f_X8_lay) := by
  unfold f_X8_lay
  refine tr_aload_n 0 hX dX8_lay_0 rfl rfl ?_
  refine tr_getF hX dX8_lay_1 sh_0 (by decide) rfl inlX8 (by decide) rfl (hS.g (Nat.le_of_ble_eq_true rfl)) cr_0_0 k_1_16 mq_0 ?_
  refine tr_aload_n 0 hX dX8_lay_4 rfl rfl ?_
  refine tr_getT hX dX8_lay_5 sh_0 (by decide) rfl inlX8 (by decide) rfl (hS.e (Nat.le_of_ble_eq_true rfl)) k_1_21 (fun t1 ht1 => ?_)
  refine tr_callV0I (st := []) 1 hX hS dX8_lay_8 (ok_X4_readInto t1 ht1) sh_1 (by decide) rfl (Nat.le_of_ble_eq_true rfl) k_9_0 k_9_1 k_9_2 k_1_15 k_9_3 hy_X4_readInto rfl rfl (Nat.le_of_ble_eq_true rfl) rfl (fun v2 => ?_)
  refine tr_bipush (-4) hX dX8_lay_11 (by decide) ?_
  refine tr_ic_eq 19 hX dX8_lay_13 (by decide) (fun c10 => ?_) (fun c10 => ?_)
  · refine tr_aload_n 0 hX dX8_lay_19 rfl rfl ?_
    refine tr_getT hX dX8_lay_20 sh_0 (by decide) rfl inlX8 (by decide) rfl (hS.e (Nat.le_of_ble_eq_true rfl)) k_1_21 (fun t3 ht3 => ?_)
    refine tr_astore_n hX dX8_lay_23 rfl (hS.n (by decide)) rfl ?_
    refine tr_aload_n 1 hX dX8_lay_24 rfl rfl ?_
    refine tr_aload_n 1 hX dX8_lay_25 rfl rfl ?_
    refine tr_getT hX dX8_lay_26 sh_0 (by decide) rfl inlX8 (by decide) rfl (hS.e (Nat.le_of_ble_eq_true rfl)) k_1_20 (fun t4 ht4 => ?_)
    refine tr_putT hX dX8_lay_29 sh_0 (by decide) rfl inlX8 tyX8 tyX8_ok nmX8 (by decide) rfl (hS.e (Nat.le_of_ble_eq_true rfl)) k_1_21 rfl rfl rfl rfl (by decide) ?_
    refine tr_aload_n 1 hX dX8_lay_32 rfl rfl ?_
    refine tr_aload_n 0 hX dX8_lay_33 rfl rfl ?_
    refine tr_putT hX dX8_lay_34 sh_0 (by decide) rfl inlX8 tyX8 tyX8_ok nmX8 (by decide) rfl (hS.e (Nat.le_of_ble_eq_true rfl)) k_1_20 rfl rfl rfl rfl (by decide) ?_
    refine tr_aload_n 1 hX dX8_lay_37 rfl rfl ?_
    refine tr_getT hX dX8_lay_38 sh_0 (by decide) rfl inlX8 (by decide) rfl (hS.e (Nat.le_of_ble_eq_true rfl)) k_1_20 (fun t5 ht5 => ?_)
    refine tr_callV0U (st := []) 0 hX hS dX8_lay_41 (ok_X6_joinAll t5 ht5) (shT ht5) (by decide) rfl (leT ht5) k_11_22 k_11_23 k_12_0 k_1_19 k_12_1 hy_X6_joinAll rfl rfl (Nat.le_of_ble_eq_true rfl) rfl (fun _ => ?_)
    refine tr_aload_n 1 hX dX8_lay_44 rfl rfl ?_
    refine tr_getF hX dX8_lay_45 sh_0 (by decide) rfl inlX8 (by decide) rfl (hS.g (Nat.le_of_ble_eq_true rfl)) cr_0_3 k_2_1 mq_0 ?_
    refine tr_callV0U (st := []) 0 hX hS dX8_lay_48 (ok_X0_empty 20 (by decide)) sh_20 (by decide) rfl (Nat.le_of_ble_eq_true rfl) k_12_2 k_12_3 k_12_4 k_2_0 k_12_5 hy_X0_empty rfl rfl (Nat.le_of_ble_eq_true rfl) rfl (fun _ => ?_)
    refine tr_aload_n 1 hX dX8_lay_51 rfl rfl ?_
    refine tr_getF hX dX8_lay_52 sh_0 (by decide) rfl inlX8 (by decide) rfl (hS.g (Nat.le_of_ble_eq_true rfl)) cr_0_9 k_2_15 mq_0 ?_
    refine tr_iconst 0 hX dX8_lay_55 (by decide) ?_
    refine tr_putI hX dX8_lay_56 sh_149 (by decide) rfl inlX5 tyX5 tyX5_ok nmX5 (by decide) rfl (hS.e (Nat.le_of_ble_eq_true rfl)) k_11_18 rfl rfl rfl rfl ?_
    refine tr_aload_n 1 hX dX8_lay_59 rfl rfl ?_
    refine tr_getF hX dX8_lay_60 sh_0 (by decide) rfl inlX8 (by decide) rfl (hS.g (Nat.le_of_ble_eq_true rfl)) cr_0_10 k_2_19 mq_0 ?_
    refine tr_iconst 0 hX dX8_lay_63 (by decide) ?_
    refine tr_putI hX dX8_lay_64 sh_154 (by decide) rfl inlX2 tyX2 tyX2_ok nmX2 (by decide) rfl (hS.e (Nat.le_of_ble_eq_true rfl)) k_11_19 rfl rfl rfl rfl ?_
    refine tr_aload_n 1 hX dX8_lay_67 rfl rfl ?_
    refine tr_iconst 0 hX dX8_lay_68 (by decide) ?_
    refine tr_putI hX dX8_lay_69 sh_0 (by decide) rfl inlX8 tyX8 tyX8_ok nmX8 (by decide) rfl (hS.e (Nat.le_of_ble_eq_true rfl)) k_11_20 rfl rfl rfl rfl ?_
    refine tr_aload_n 1 hX dX8_lay_72 rfl rfl ?_
    refine tr_getT hX dX8_lay_73 sh_0 (by decide) rfl inlX8 (by decide) rfl (hS.e (Nat.le_of_ble_eq_true rfl)) k_1_20 (fun t8 ht8 => ?_)
    refine tr_getI hX dX8_lay_76 (shT ht8) (by decide) rfl inlX6 (by decide) rfl (hS.e (leT ht8)) k_11_21 (fun v9 => ?_)
    exact tr_iret0 hX hS dX8_lay_79
  · refine tr_bipush (-2) hX dX8_lay_16 (by decide) ?_
    exact tr_iret0 hX hS dX8_lay_18
theorem ok_X8_lay {l : Launch} {E : Ev}   : Ok l E Gall yX8_lay cX8_lay 2 ((some .int)) (rmz 4 90) eI [.ref (E.2.1 0)] (f_X8_lay) := by
  refine ok_of0 (by decide) (Nat.le_of_ble_eq_true rfl) (fun X hX hV hS => ?_)
  subst hV
  exact t_X8_lay_0 hX hS 
