def f_X9_laySaying_20 (s20 : Int32 → M Unit) (x1 : Int32) : M Unit :=
  rI 161 19 (fun v1 => if v1 ≤ x1 then (aI 171 3 0 (fun v2 => bnd (f_X9_layLeast v2) (fun _ => rt ()))) else (aI 172 252 x1 (fun v5 => sI 182 168 x1 v5 (s20 (x1 + 1)))))
set_option maxRecDepth 10000 in
set_option maxHeartbeats 4000000 in
theorem t_X9_laySaying_20 {X : Cx} (hX : Good X RX9 cX9_laySaying (none)) (hS : Sta X 5 123 2) : ∀ s20 : Int32 → M Unit, (∀ x1 : Int32, Tr X eU 0 0 20 [(0, .ref (cxAd X 161)), (1, .int x1)] [] (s20 x1)) → ∀ x1 : Int32, Tr X eU 0 0 20 [(0, .ref (cxAd X 161)), (1, .int x1)] [] (f_X9_laySaying_20 s20 x1) := by
  intro s20 hs20 x1
  unfold f_X9_laySaying_20
  refine tr_iload_n 1 hX dX9_laySaying_20 rfl rfl ?_
  refine tr_aload_n 0 hX dX9_laySaying_21 rfl rfl ?_
  refine tr_getI hX dX9_laySaying_22 sh_161 (by decide) rfl inlX9 (by decide) rfl (hS.e (Nat.le_of_ble_eq_true rfl)) k_16_8 (fun v1 => ?_)
  refine tr_ic_ge 46 hX dX9_laySaying_25 (by decide) (fun c7 => ?_) (fun c7 => ?_)
  · refine tr_aload_n 0 hX dX9_laySaying_46 rfl rfl ?_
    refine tr_aload_n 0 hX dX9_laySaying_47 rfl rfl ?_
    refine tr_getF hX dX9_laySaying_48 sh_161 (by decide) rfl inlX9 (by decide) rfl (hS.g (Nat.le_of_ble_eq_true rfl)) cr_161_10 k_6_20 mq_161 ?_
    refine tr_iconst 0 hX dX9_laySaying_51 (by decide) ?_
    refine tr_iald hX dX9_laySaying_52 sh_171 (hS.e (Nat.le_of_ble_eq_true rfl)) (fun hb3 v2 => ?_)
    refine tr_callV0U (st := []) 1 hX hS dX9_laySaying_53 (ok_X9_layLeast v2) sh_161 (by decide) rfl (Nat.le_of_ble_eq_true rfl) k_23_11 k_23_12 k_23_13 k_1_5 k_23_14 hy_X9_layLeast rfl rfl (Nat.le_of_ble_eq_true rfl) rfl (fun _ => ?_)
    exact tr_vret0 hX hS dX9_laySaying_56
  · refine tr_aload_n 0 hX dX9_laySaying_28 rfl rfl ?_
    refine tr_getF hX dX9_laySaying_29 sh_161 (by decide) rfl inlX9 (by decide) rfl (hS.g (Nat.le_of_ble_eq_true rfl)) cr_161_27 k_7_7 mq_161 ?_
    refine tr_iload_n 1 hX dX9_laySaying_32 rfl rfl ?_
    refine tr_aload_n 0 hX dX9_laySaying_33 rfl rfl ?_
    refine tr_getF hX dX9_laySaying_34 sh_161 (by decide) rfl inlX9 (by decide) rfl (hS.g (Nat.le_of_ble_eq_true rfl)) cr_161_11 k_6_21 mq_161 ?_
    refine tr_iload_n 1 hX dX9_laySaying_37 rfl rfl ?_
    refine tr_iald hX dX9_laySaying_38 sh_172 (hS.e (Nat.le_of_ble_eq_true rfl)) (fun hb6 v5 => ?_)
    refine tr_iast hX dX9_laySaying_39 sh_182 (hS.e (Nat.le_of_ble_eq_true rfl)) (fun _ => ?_)
    refine tr_iinc (x1 + 1) 1 hX dX9_laySaying_40 rfl (congrArg (fun z => x1 + z) (by decide)) (hS.n (by decide)) rfl ?_
    refine tr_goto 20 hX dX9_laySaying_43 (by decide) ?_
    exact tr_sub [1, 0] rfl (hs20 (x1 + 1))
def f_X9_laySaying  : M Unit :=
  aI 170 3 0 (fun v1 => aI 171 3 0 (fun v3 => bnd (f_X9_layWays (1 <<< (v1 &&& 31)) v3) (fun _ => fix1 FU (f_X9_laySaying_20) 0)))
set_option maxRecDepth 10000 in
set_option maxHeartbeats 4000000 in
theorem t_X9_laySaying_0 {X : Cx} (hX : Good X RX9 cX9_laySaying (none)) (hS : Sta X 5 123 2) : Tr X eU 0 0 0 [(0, .ref (cxAd X 161))] [] (f_X9_laySaying) := by
  unfold f_X9_laySaying
  refine tr_aload_n 0 hX dX9_laySaying_0 rfl rfl ?_
  refine tr_iconst 1 hX dX9_laySaying_1 (by decide) ?_
  refine tr_aload_n 0 hX dX9_laySaying_2 rfl rfl ?_
  refine tr_getF hX dX9_laySaying_3 sh_161 (by decide) rfl inlX9 (by decide) rfl (hS.g (Nat.le_of_ble_eq_true rfl)) cr_161_9 k_6_19 mq_161 ?_
  refine tr_iconst 0 hX dX9_laySaying_6 (by decide) ?_
  refine tr_iald hX dX9_laySaying_7 sh_170 (hS.e (Nat.le_of_ble_eq_true rfl)) (fun hb2 v1 => ?_)
  refine tr_ishl hX dX9_laySaying_8 ?_
  refine tr_aload_n 0 hX dX9_laySaying_9 rfl rfl ?_
  refine tr_getF hX dX9_laySaying_10 sh_161 (by decide) rfl inlX9 (by decide) rfl (hS.g (Nat.le_of_ble_eq_true rfl)) cr_161_10 k_6_20 mq_161 ?_
  refine tr_iconst 0 hX dX9_laySaying_13 (by decide) ?_
  refine tr_iald hX dX9_laySaying_14 sh_171 (hS.e (Nat.le_of_ble_eq_true rfl)) (fun hb4 v3 => ?_)
  refine tr_callV0U (st := []) 2 hX hS dX9_laySaying_15 (ok_X9_layWays (1 <<< (v1 &&& 31)) v3) sh_161 (by decide) rfl (Nat.le_of_ble_eq_true rfl) k_16_12 k_16_13 k_16_14 k_1_5 k_16_15 hy_X9_layWays rfl rfl (Nat.le_of_ble_eq_true rfl) rfl (fun _ => ?_)
  refine tr_iconst 0 hX dX9_laySaying_18 (by decide) ?_
  refine tr_istore_n hX dX9_laySaying_19 rfl (hS.n (by decide)) rfl ?_
  exact tr_sub [1, 0] rfl (tr_fix1 (lvf := fun x1 => [(0, .ref (cxAd X 161)), (1, .int x1)]) (t_X9_laySaying_20 hX hS) FU 0)
theorem ok_X9_laySaying {l : Launch} {E : Ev}   : Ok l E Gall yX9_laySaying cX9_laySaying 2 (none) (rmz 5 123) eU [.ref (E.2.1 161)] (f_X9_laySaying) := by
  refine ok_of0 (by decide) (Nat.le_of_ble_eq_true rfl) (fun X hX hV hS => ?_)
  subst hV
  exact t_X9_laySaying_0 hX hS 
def f_X9_soundSo  : M Int64 :=
  aI 169 3 0 (fun v1 => if v1 = 0 then (rt (-2)) else (bnd f_X9_laySaying (fun _ => aL 185 2304 0 (fun v4 => rt v4))))
set_option maxRecDepth 10000 in
set_option maxHeartbeats 4000000 in
theorem t_X9_soundSo_0 {X : Cx} (hX : Good X RX9 cX9_soundSo ((some .long))) (hS : Sta X 6 144 1) : Tr X eL 0 0 0 [(0, .ref (cxAd X 161))] [] (f_X9_soundSo) := by
  unfold f_X9_soundSo
  refine tr_aload_n 0 hX dX9_soundSo_0 rfl rfl ?_
  refine tr_getF hX dX9_soundSo_1 sh_161 (by decide) rfl inlX9 (by decide) rfl (hS.g (Nat.le_of_ble_eq_true rfl)) cr_161_8 k_6_18 mq_161 ?_
  refine tr_iconst 0 hX dX9_soundSo_4 (by decide) ?_
  refine tr_iald hX dX9_soundSo_5 sh_169 (hS.e (Nat.le_of_ble_eq_true rfl)) (fun hb2 v1 => ?_)
  refine tr_if_ne 13 hX dX9_soundSo_6 (by decide) (fun c6 => ?_) (fun c6 => ?_)
  · refine tr_ldc2 hX dX9_soundSo_9 k_23_6 ?_
    exact tr_lret0 hX hS dX9_soundSo_12
  · refine tr_aload_n 0 hX dX9_soundSo_13 rfl rfl ?_
    refine tr_callV0U (st := []) 0 hX hS dX9_soundSo_14 (ok_X9_laySaying) sh_161 (by decide) rfl (Nat.le_of_ble_eq_true rfl) k_23_7 k_23_8 k_23_9 k_1_5 k_23_10 hy_X9_laySaying rfl rfl (Nat.le_of_ble_eq_true rfl) rfl (fun _ => ?_)
    refine tr_aload_n 0 hX dX9_soundSo_17 rfl rfl ?_
    refine tr_getF hX dX9_soundSo_18 sh_161 (by decide) rfl inlX9 (by decide) rfl (hS.g (Nat.le_of_ble_eq_true rfl)) cr_161_30 k_7_10 mq_161 ?_
    refine tr_iconst 0 hX dX9_soundSo_21 (by decide) ?_
    refine tr_lald hX dX9_soundSo_22 sh_185 (hS.e (Nat.le_of_ble_eq_true rfl)) (fun hb5 v4 => ?_)
    exact tr_lret0 hX hS dX9_soundSo_23
theorem ok_X9_soundSo {l : Launch} {E : Ev}   : Ok l E Gall yX9_soundSo cX9_soundSo 1 ((some .long)) (rmz 6 144) eL [.ref (E.2.1 161)] (f_X9_soundSo) := by
  refine ok_of0 (by decide) (Nat.le_of_ble_eq_true rfl) (fun X hX hV hS => ?_)
  subst hV
  exact t_X9_soundSo_0 hX hS 
def f_X9_rivals  : M Int64 :=
  aI 169 3 0 (fun v1 => if v1 = 0 then (rt (-2)) else (bnd f_X9_laySaying (fun _ => aL 184 2304 0 (fun v4 => rt v4))))
set_option maxRecDepth 10000 in
set_option maxHeartbeats 4000000 in
theorem t_X9_rivals_0 {X : Cx} (hX : Good X RX9 cX9_rivals ((some .long))) (hS : Sta X 6 144 1) : Tr X eL 0 0 0 [(0, .ref (cxAd X 161))] [] (f_X9_rivals) := by
  unfold f_X9_rivals
  refine tr_aload_n 0 hX dX9_rivals_0 rfl rfl ?_
  refine tr_getF hX dX9_rivals_1 sh_161 (by decide) rfl inlX9 (by decide) rfl (hS.g (Nat.le_of_ble_eq_true rfl)) cr_161_8 k_6_18 mq_161 ?_
  refine tr_iconst 0 hX dX9_rivals_4 (by decide) ?_
  refine tr_iald hX dX9_rivals_5 sh_169 (hS.e (Nat.le_of_ble_eq_true rfl)) (fun hb2 v1 => ?_)
  refine tr_if_ne 13 hX dX9_rivals_6 (by decide) (fun c6 => ?_) (fun c6 => ?_)
  · refine tr_ldc2 hX dX9_rivals_9 k_23_6 ?_
    exact tr_lret0 hX hS dX9_rivals_12
  · refine tr_aload_n 0 hX dX9_rivals_13 rfl rfl ?_
    refine tr_callV0U (st := []) 0 hX hS dX9_rivals_14 (ok_X9_laySaying) sh_161 (by decide) rfl (Nat.le_of_ble_eq_true rfl) k_23_7 k_23_8 k_23_9 k_1_5 k_23_10 hy_X9_laySaying rfl rfl (Nat.le_of_ble_eq_true rfl) rfl (fun _ => ?_)
    refine tr_aload_n 0 hX dX9_rivals_17 rfl rfl ?_
    refine tr_getF hX dX9_rivals_18 sh_161 (by decide) rfl inlX9 (by decide) rfl (hS.g (Nat.le_of_ble_eq_true rfl)) cr_161_29 k_7_9 mq_161 ?_
    refine tr_iconst 0 hX dX9_rivals_21 (by decide) ?_
    refine tr_lald hX dX9_rivals_22 sh_184 (hS.e (Nat.le_of_ble_eq_true rfl)) (fun hb5 v4 => ?_)
    exact tr_lret0 hX hS dX9_rivals_23
theorem ok_X9_rivals {l : Launch} {E : Ev}   : Ok l E Gall yX9_rivals cX9_rivals 1 ((some .long)) (rmz 6 144) eL [.ref (E.2.1 161)] (f_X9_rivals) := by
  refine ok_of0 (by decide) (Nat.le_of_ble_eq_true rfl) (fun X hX hV hS => ?_)
  subst hV
  exact t_X9_rivals_0 hX hS 
def f_X9_nearest_152 (x1 : Int32) (x2 : Int32) (s152 : Int32 → M Int32) (x3 : Int32) : M Int32 :=
  if x2 ≤ x3 then (aI 183 2304 0 (fun v1 => rt v1)) else (aI 181 8 x3 (fun v3 => sI 168 144 ((8 * x1) + x3) v3 (s152 (x3 + 1))))
set_option maxRecDepth 10000 in
set_option maxHeartbeats 4000000 in
theorem t_X9_nearest_152 {X : Cx} (hX : Good X RX9 cX9_nearest ((some .int))) (hS : Sta X 6 144 7) (x1 : Int32) (x2 : Int32) : ∀ s152 : Int32 → M Int32, (∀ x3 : Int32, Tr X eI 0 0 152 [(0, .ref (cxAd X 161)), (1, .int x1), (2, .int x2), (3, .int x3)] [] (s152 x3)) → ∀ x3 : Int32, Tr X eI 0 0 152 [(0, .ref (cxAd X 161)), (1, .int x1), (2, .int x2), (3, .int x3)] [] (f_X9_nearest_152 x1 x2 s152 x3) := by
  intro s152 hs152 x3
  unfold f_X9_nearest_152
  refine tr_iload_n 3 hX dX9_nearest_152 rfl rfl ?_
  refine tr_iload_n 2 hX dX9_nearest_153 rfl rfl ?_
  refine tr_ic_ge 180 hX dX9_nearest_154 (by decide) (fun c5 => ?_) (fun c5 => ?_)
  · refine tr_aload_n 0 hX dX9_nearest_180 rfl rfl ?_
    refine tr_getF hX dX9_nearest_181 sh_161 (by decide) rfl inlX9 (by decide) rfl (hS.g (Nat.le_of_ble_eq_true rfl)) cr_161_28 k_7_8 mq_161 ?_
    refine tr_iconst 0 hX dX9_nearest_184 (by decide) ?_
    refine tr_iald hX dX9_nearest_185 sh_183 (hS.e (Nat.le_of_ble_eq_true rfl)) (fun hb2 v1 => ?_)
    exact tr_iret0 hX hS dX9_nearest_186
  · refine tr_aload_n 0 hX dX9_nearest_157 rfl rfl ?_
    refine tr_getF hX dX9_nearest_158 sh_161 (by decide) rfl inlX9 (by decide) rfl (hS.g (Nat.le_of_ble_eq_true rfl)) cr_161_7 k_6_17 mq_161 ?_
    refine tr_bipush 8 hX dX9_nearest_161 (by decide) ?_
    refine tr_iload_n 1 hX dX9_nearest_163 rfl rfl ?_
    refine tr_imul hX dX9_nearest_164 ?_
    refine tr_iload_n 3 hX dX9_nearest_165 rfl rfl ?_
    refine tr_iadd hX dX9_nearest_166 ?_
    refine tr_aload_n 0 hX dX9_nearest_167 rfl rfl ?_
    refine tr_getF hX dX9_nearest_168 sh_161 (by decide) rfl inlX9 (by decide) rfl (hS.g (Nat.le_of_ble_eq_true rfl)) cr_161_26 k_7_6 mq_161 ?_
    refine tr_iload_n 3 hX dX9_nearest_171 rfl rfl ?_
    refine tr_iald hX dX9_nearest_172 sh_181 (hS.e (Nat.le_of_ble_eq_true rfl)) (fun hb4 v3 => ?_)
    refine tr_iast hX dX9_nearest_173 sh_168 (hS.e (Nat.le_of_ble_eq_true rfl)) (fun _ => ?_)
    refine tr_iinc (x3 + 1) 3 hX dX9_nearest_174 rfl (congrArg (fun z => x3 + z) (by decide)) (hS.n (by decide)) rfl ?_
    refine tr_goto 152 hX dX9_nearest_177 (by decide) ?_
    exact tr_sub [1, 2, 3, 0] rfl (hs152 (x3 + 1))
def f_X9_nearest_86 (s34 : Int32 → M Int32) (x1 : Int32) (x2 : Int32) (x3 : Int32) (x4 : Int32) (x5 : Int32) (s86 : Int32 → M Int32) (x6 : Int32) : M Int32 :=
  bnd (f_X9_unlikeAt x3) (fun v1 => bnd (f_X9_at (x3 + 1) x5 x6) (fun v2 => aI 183 2304 v2 (fun v3 => bnd (f_X9_at x3 x4 x5) (fun v5 => aI 183 2304 v5 (fun v6 => if (v1 + v3) = v6 then (s34 (x3 + 1)) else (sI 181 8 x3 (x6 + 1) (s86 (x6 + 1))))))))
set_option maxRecDepth 10000 in
set_option maxHeartbeats 4000000 in
theorem t_X9_nearest_86 {X : Cx} (hX : Good X RX9 cX9_nearest ((some .int))) (hS : Sta X 6 144 7) (s34 : Int32 → M Int32) (x1 : Int32) (x2 : Int32) (x3 : Int32) (x4 : Int32) (x5 : Int32) (hs34 : ∀ x3 : Int32, Tr X eI 0 0 34 [(0, .ref (cxAd X 161)), (1, .int x1), (2, .int x2), (3, .int x3)] [] (s34 x3)) : ∀ s86 : Int32 → M Int32, (∀ x6 : Int32, Tr X eI 0 0 86 [(0, .ref (cxAd X 161)), (1, .int x1), (2, .int x2), (3, .int x3), (4, .int x4), (5, .int x5), (6, .int x6)] [] (s86 x6)) → ∀ x6 : Int32, Tr X eI 0 0 86 [(0, .ref (cxAd X 161)), (1, .int x1), (2, .int x2), (3, .int x3), (4, .int x4), (5, .int x5), (6, .int x6)] [] (f_X9_nearest_86 s34 x1 x2 x3 x4 x5 s86 x6) := by
  intro s86 hs86 x6
  unfold f_X9_nearest_86
  refine tr_aload_n 0 hX dX9_nearest_86 rfl rfl ?_
  refine tr_iload_n 3 hX dX9_nearest_87 rfl rfl ?_
  refine tr_callV0I (st := []) 1 hX hS dX9_nearest_88 (ok_X9_unlikeAt x3) sh_161 (by decide) rfl (Nat.le_of_ble_eq_true rfl) k_23_23 k_24_0 k_24_1 k_1_5 k_24_2 hy_X9_unlikeAt rfl rfl (Nat.le_of_ble_eq_true rfl) rfl (fun v1 => ?_)
  refine tr_aload_n 0 hX dX9_nearest_91 rfl rfl ?_
  refine tr_getF hX dX9_nearest_92 sh_161 (by decide) rfl inlX9 (by decide) rfl (hS.g (Nat.le_of_ble_eq_true rfl)) cr_161_28 k_7_8 mq_161 ?_
  refine tr_iload_n 3 hX dX9_nearest_95 rfl rfl ?_
  refine tr_iconst 1 hX dX9_nearest_96 (by decide) ?_
  refine tr_iadd hX dX9_nearest_97 ?_
  refine tr_iload 5 hX dX9_nearest_98 rfl ?_
  refine tr_iload 6 hX dX9_nearest_100 rfl ?_
  refine tr_callS0I (st := [.ref (cxAd X 183), .int v1]) 3 hX hS dX9_nearest_102 (ok_X9_at (x3 + 1) x5 x6) k_23_20 k_23_21 k_1_5 k_23_22 hy_X9_at.2 rfl rfl (Nat.le_of_ble_eq_true rfl) rfl (fun v2 => ?_)
  refine tr_iald hX dX9_nearest_105 sh_183 (hS.e (Nat.le_of_ble_eq_true rfl)) (fun hb4 v3 => ?_)
  refine tr_iadd hX dX9_nearest_106 ?_
  refine tr_aload_n 0 hX dX9_nearest_107 rfl rfl ?_
  refine tr_getF hX dX9_nearest_108 sh_161 (by decide) rfl inlX9 (by decide) rfl (hS.g (Nat.le_of_ble_eq_true rfl)) cr_161_28 k_7_8 mq_161 ?_
  refine tr_iload_n 3 hX dX9_nearest_111 rfl rfl ?_
  refine tr_iload 4 hX dX9_nearest_112 rfl ?_
  refine tr_iload 5 hX dX9_nearest_114 rfl ?_
  refine tr_callS0I (st := [.ref (cxAd X 183), .int (v1 + v3)]) 3 hX hS dX9_nearest_116 (ok_X9_at x3 x4 x5) k_23_20 k_23_21 k_1_5 k_23_22 hy_X9_at.2 rfl rfl (Nat.le_of_ble_eq_true rfl) rfl (fun v5 => ?_)
  refine tr_iald hX dX9_nearest_119 sh_183 (hS.e (Nat.le_of_ble_eq_true rfl)) (fun hb7 v6 => ?_)
  refine tr_ic_eq 137 hX dX9_nearest_120 (by decide) (fun c8 => ?_) (fun c8 => ?_)
  · refine tr_iinc (x3 + 1) 3 hX dX9_nearest_137 rfl (congrArg (fun z => x3 + z) (by decide)) (hS.n (by decide)) rfl ?_
    refine tr_goto 34 hX dX9_nearest_140 (by decide) ?_
    exact tr_sub [1, 2, 3, 0] rfl (hs34 (x3 + 1))
  · refine tr_iinc (x6 + 1) 6 hX dX9_nearest_123 rfl (congrArg (fun z => x6 + z) (by decide)) (hS.n (by decide)) rfl ?_
    refine tr_aload_n 1 hX dX9_nearest_126 rfl rfl ?_
    refine tr_getF hX dX9_nearest_127 sh_161 (by decide) rfl inlX9 (by decide) rfl (hS.g (Nat.le_of_ble_eq_true rfl)) cr_161_26 k_7_6 mq_161 ?_
    refine tr_iload_n 4 hX dX9_nearest_130 rfl rfl ?_
    refine tr_iload 0 hX dX9_nearest_131 rfl ?_
    refine tr_iast hX dX9_nearest_133 sh_181 (hS.e (Nat.le_of_ble_eq_true rfl)) (fun _ => ?_)
    refine tr_goto 86 hX dX9_nearest_134 (by decide) ?_
    exact tr_sub [1, 2, 3, 4, 5, 6, 0] rfl (hs86 (x6 + 1))
def f_X9_nearest_74 (s34 : Int32 → M Int32) (x1 : Int32) (x2 : Int32) (x3 : Int32) (x4 : Int32) (p0 : Int32) : M Int32 :=
  sI 181 8 x3 0 (fix1 FU (f_X9_nearest_86 s34 x1 x2 x3 x4 p0) 0)
set_option maxRecDepth 10000 in
set_option maxHeartbeats 4000000 in
theorem t_X9_nearest_74 {X : Cx} (hX : Good X RX9 cX9_nearest ((some .int))) (hS : Sta X 6 144 7) (s34 : Int32 → M Int32) (x1 : Int32) (x2 : Int32) (x3 : Int32) (x4 : Int32) (p0 : Int32) (hs34 : ∀ x3 : Int32, Tr X eI 0 0 34 [(0, .ref (cxAd X 161)), (1, .int x1), (2, .int x2), (3, .int x3)] [] (s34 x3)) : Tr X eI 0 0 74 [(0, .ref (cxAd X 161)), (1, .int x1), (2, .int x2), (3, .int x3), (4, .int x4)] [.int p0] (f_X9_nearest_74 s34 x1 x2 x3 x4 p0) := by
  unfold f_X9_nearest_74
  refine tr_istore hX dX9_nearest_74 (hS.n (by decide)) rfl ?_
  refine tr_iconst 0 hX dX9_nearest_76 (by decide) ?_
  refine tr_istore hX dX9_nearest_77 (hS.n (by decide)) rfl ?_
  refine tr_aload_n 2 hX dX9_nearest_79 rfl rfl ?_
  refine tr_getF hX dX9_nearest_80 sh_161 (by decide) rfl inlX9 (by decide) rfl (hS.g (Nat.le_of_ble_eq_true rfl)) cr_161_26 k_7_6 mq_161 ?_
  refine tr_iload_n 5 hX dX9_nearest_83 rfl rfl ?_
  refine tr_iconst 0 hX dX9_nearest_84 (by decide) ?_
  refine tr_iast hX dX9_nearest_85 sh_181 (hS.e (Nat.le_of_ble_eq_true rfl)) (fun _ => ?_)
  exact tr_sub [2, 3, 4, 5, 6, 1, 0] rfl (tr_fix1 (lvf := fun x6 => [(0, .ref (cxAd X 161)), (1, .int x1), (2, .int x2), (3, .int x3), (4, .int x4), (5, .int p0), (6, .int x6)]) (t_X9_nearest_86 hX hS s34 x1 x2 x3 x4 p0 hs34) FU 0)
def f_X9_nearest_56 (s34 : Int32 → M Int32) (x1 : Int32) (x2 : Int32) (x3 : Int32) (p0 : Int32) : M Int32 :=
  if x3 ≤ 0 then (f_X9_nearest_74 s34 x1 x2 x3 p0 0) else (aI 181 8 (x3 - 1) (fun v1 => f_X9_nearest_74 s34 x1 x2 x3 p0 v1))
set_option maxRecDepth 10000 in
set_option maxHeartbeats 4000000 in
theorem t_X9_nearest_56 {X : Cx} (hX : Good X RX9 cX9_nearest ((some .int))) (hS : Sta X 6 144 7) (s34 : Int32 → M Int32) (x1 : Int32) (x2 : Int32) (x3 : Int32) (p0 : Int32) (hs34 : ∀ x3 : Int32, Tr X eI 0 0 34 [(0, .ref (cxAd X 161)), (1, .int x1), (2, .int x2), (3, .int x3)] [] (s34 x3)) : Tr X eI 0 0 56 [(0, .ref (cxAd X 161)), (1, .int x1), (2, .int x2), (3, .int x3)] [.int p0] (f_X9_nearest_56 s34 x1 x2 x3 p0) := by
  unfold f_X9_nearest_56
  refine tr_istore hX dX9_nearest_56 (hS.n (by decide)) rfl ?_
  refine tr_iload_n 4 hX dX9_nearest_58 rfl rfl ?_
  refine tr_if_le 73 hX dX9_nearest_59 (by decide) (fun c3 => ?_) (fun c3 => ?_)
  · refine tr_iconst 0 hX dX9_nearest_73 (by decide) ?_
    exact tr_sub [1, 2, 3, 4, 0] rfl (t_X9_nearest_74 hX hS s34 x1 x2 x3 p0 0 hs34)
  · refine tr_aload_n 1 hX dX9_nearest_62 rfl rfl ?_
    refine tr_getF hX dX9_nearest_63 sh_161 (by decide) rfl inlX9 (by decide) rfl (hS.g (Nat.le_of_ble_eq_true rfl)) cr_161_26 k_7_6 mq_161 ?_
    refine tr_iload_n 4 hX dX9_nearest_66 rfl rfl ?_
    refine tr_iconst 1 hX dX9_nearest_67 (by decide) ?_
    refine tr_isub hX dX9_nearest_68 ?_
    refine tr_iald hX dX9_nearest_69 sh_181 (hS.e (Nat.le_of_ble_eq_true rfl)) (fun hb2 v1 => ?_)
    refine tr_goto 74 hX dX9_nearest_70 (by decide) ?_
    exact tr_sub [1, 2, 3, 4, 0] rfl (t_X9_nearest_74 hX hS s34 x1 x2 x3 p0 v1 hs34)
def f_X9_nearest_34 (x1 : Int32) (x2 : Int32) (s34 : Int32 → M Int32) (x3 : Int32) : M Int32 :=
  if x2 ≤ x3 then (sI 167 18 x1 x2 (fix1 FU (f_X9_nearest_152 x1 x2) 0)) else (if x3 ≤ 1 then (f_X9_nearest_56 s34 x1 x2 x3 0) else (aI 181 8 (x3 - 2) (fun v1 => f_X9_nearest_56 s34 x1 x2 x3 v1)))
set_option maxRecDepth 10000 in
set_option maxHeartbeats 4000000 in
theorem t_X9_nearest_34 {X : Cx} (hX : Good X RX9 cX9_nearest ((some .int))) (hS : Sta X 6 144 7) (x1 : Int32) (x2 : Int32) : ∀ s34 : Int32 → M Int32, (∀ x3 : Int32, Tr X eI 0 0 34 [(0, .ref (cxAd X 161)), (1, .int x1), (2, .int x2), (3, .int x3)] [] (s34 x3)) → ∀ x3 : Int32, Tr X eI 0 0 34 [(0, .ref (cxAd X 161)), (1, .int x1), (2, .int x2), (3, .int x3)] [] (f_X9_nearest_34 x1 x2 s34 x3) := by
  intro s34 hs34 x3
  unfold f_X9_nearest_34
  refine tr_iload_n 3 hX dX9_nearest_34 rfl rfl ?_
  refine tr_iload_n 2 hX dX9_nearest_35 rfl rfl ?_
  refine tr_ic_ge 143 hX dX9_nearest_36 (by decide) (fun c4 => ?_) (fun c4 => ?_)
  · refine tr_aload_n 0 hX dX9_nearest_143 rfl rfl ?_
    refine tr_getF hX dX9_nearest_144 sh_161 (by decide) rfl inlX9 (by decide) rfl (hS.g (Nat.le_of_ble_eq_true rfl)) cr_161_6 k_6_16 mq_161 ?_
    refine tr_iload_n 1 hX dX9_nearest_147 rfl rfl ?_
    refine tr_iload_n 2 hX dX9_nearest_148 rfl rfl ?_
    refine tr_iast hX dX9_nearest_149 sh_167 (hS.e (Nat.le_of_ble_eq_true rfl)) (fun _ => ?_)
    refine tr_iconst 0 hX dX9_nearest_150 (by decide) ?_
    refine tr_istore_n hX dX9_nearest_151 rfl (hS.n (by decide)) rfl ?_
    exact tr_sub [1, 2, 3, 0] rfl (tr_fix1 (lvf := fun x3 => [(0, .ref (cxAd X 161)), (1, .int x1), (2, .int x2), (3, .int x3)]) (t_X9_nearest_152 hX hS x1 x2) FU 0)
  · refine tr_iload_n 3 hX dX9_nearest_39 rfl rfl ?_
    refine tr_iconst 1 hX dX9_nearest_40 (by decide) ?_
    refine tr_ic_le 55 hX dX9_nearest_41 (by decide) (fun c3 => ?_) (fun c3 => ?_)
    · refine tr_iconst 0 hX dX9_nearest_55 (by decide) ?_
      exact tr_sub [0, 1, 2, 3] rfl (t_X9_nearest_56 hX hS s34 x1 x2 x3 0 hs34)
    · refine tr_aload_n 0 hX dX9_nearest_44 rfl rfl ?_
      refine tr_getF hX dX9_nearest_45 sh_161 (by decide) rfl inlX9 (by decide) rfl (hS.g (Nat.le_of_ble_eq_true rfl)) cr_161_26 k_7_6 mq_161 ?_
      refine tr_iload_n 3 hX dX9_nearest_48 rfl rfl ?_
      refine tr_iconst 2 hX dX9_nearest_49 (by decide) ?_
      refine tr_isub hX dX9_nearest_50 ?_
      refine tr_iald hX dX9_nearest_51 sh_181 (hS.e (Nat.le_of_ble_eq_true rfl)) (fun hb2 v1 => ?_)
      refine tr_goto 56 hX dX9_nearest_52 (by decide) ?_
      exact tr_sub [0, 1, 2, 3] rfl (t_X9_nearest_56 hX hS s34 x1 x2 x3 v1 hs34)
def f_X9_nearest (x1 : Int32) : M Int32 :=
  bnd (f_X9_isVerse x1) (fun v1 => if v1 = 0 then (rt (-1)) else (aI 169 3 0 (fun v2 => if v2 = 0 then (rt (-2)) else (bnd f_X9_laySaying (fun _ => aI 171 3 0 (fun v5 => fix1 FU (f_X9_nearest_34 x1 v5) 0))))))
set_option maxRecDepth 10000 in
set_option maxHeartbeats 4000000 in
theorem t_X9_nearest_0 {X : Cx} (hX : Good X RX9 cX9_nearest ((some .int))) (hS : Sta X 6 144 7) (x1 : Int32) : Tr X eI 0 0 0 [(0, .ref (cxAd X 161)), (1, .int x1)] [] (f_X9_nearest x1) := by
  unfold f_X9_nearest
  refine tr_iload_n 1 hX dX9_nearest_0 rfl rfl ?_
  refine tr_callS0I (st := []) 1 hX hS dX9_nearest_1 (ok_X9_isVerse x1) k_13_12 k_13_13 k_1_5 k_13_14 hy_X9_isVerse.2 rfl rfl (Nat.le_of_ble_eq_true rfl) rfl (fun v1 => ?_)
  refine tr_if_ne 9 hX dX9_nearest_4 (by decide) (fun c8 => ?_) (fun c8 => ?_)
  · refine tr_iconst (-1) hX dX9_nearest_7 (by decide) ?_
    exact tr_iret0 hX hS dX9_nearest_8
  · refine tr_aload_n 0 hX dX9_nearest_9 rfl rfl ?_
    refine tr_getF hX dX9_nearest_10 sh_161 (by decide) rfl inlX9 (by decide) rfl (hS.g (Nat.le_of_ble_eq_true rfl)) cr_161_8 k_6_18 mq_161 ?_
    refine tr_iconst 0 hX dX9_nearest_13 (by decide) ?_
    refine tr_iald hX dX9_nearest_14 sh_169 (hS.e (Nat.le_of_ble_eq_true rfl)) (fun hb3 v2 => ?_)
    refine tr_if_ne 21 hX dX9_nearest_15 (by decide) (fun c7 => ?_) (fun c7 => ?_)
    · refine tr_bipush (-2) hX dX9_nearest_18 (by decide) ?_
      exact tr_iret0 hX hS dX9_nearest_20
    · refine tr_aload_n 0 hX dX9_nearest_21 rfl rfl ?_
      refine tr_callV0U (st := []) 0 hX hS dX9_nearest_22 (ok_X9_laySaying) sh_161 (by decide) rfl (Nat.le_of_ble_eq_true rfl) k_23_7 k_23_8 k_23_9 k_1_5 k_23_10 hy_X9_laySaying rfl rfl (Nat.le_of_ble_eq_true rfl) rfl (fun _ => ?_)
      refine tr_aload_n 0 hX dX9_nearest_25 rfl rfl ?_
      refine tr_getF hX dX9_nearest_26 sh_161 (by decide) rfl inlX9 (by decide) rfl (hS.g (Nat.le_of_ble_eq_true rfl)) cr_161_10 k_6_20 mq_161 ?_
      refine tr_iconst 0 hX dX9_nearest_29 (by decide) ?_
      refine tr_iald hX dX9_nearest_30 sh_171 (hS.e (Nat.le_of_ble_eq_true rfl)) (fun hb6 v5 => ?_)
      refine tr_istore_n hX dX9_nearest_31 rfl (hS.n (by decide)) rfl ?_
      refine tr_iconst 0 hX dX9_nearest_32 (by decide) ?_
      refine tr_istore_n hX dX9_nearest_33 rfl (hS.n (by decide)) rfl ?_
      exact tr_sub [2, 3, 1, 0] rfl (tr_fix1 (lvf := fun x3 => [(0, .ref (cxAd X 161)), (1, .int x1), (2, .int v5), (3, .int x3)]) (t_X9_nearest_34 hX hS x1 v5) FU 0)
theorem ok_X9_nearest {l : Launch} {E : Ev} (x1 : Int32)  : Ok l E Gall yX9_nearest cX9_nearest 7 ((some .int)) (rmz 6 144) eI [.ref (E.2.1 161), .int x1] (f_X9_nearest x1) := by
  refine ok_of0 (by decide) (Nat.le_of_ble_eq_true rfl) (fun X hX hV hS => ?_)
  subst hV
  exact t_X9_nearest_0 hX hS x1
def f_X9_farOf_189 (s74 : Int32 → Int32 → M Int32) (s108 : Int32 → Int32 → M Int32) (x1 : Int32) (x3 : Int32) (x5 : Int32) (x6 : Int32) (x7 : Int32) (p0 : Int32) : M Int32 :=
  s108 p0 (x7 + 1)
set_option maxRecDepth 10000 in
set_option maxHeartbeats 4000000 in
theorem t_X9_farOf_189 {X : Cx} (hX : Good X RX9 cX9_farOf ((some .int))) (hS : Sta X 5 123 9) (s74 : Int32 → Int32 → M Int32) (s108 : Int32 → Int32 → M Int32) (x1 : Int32) (x3 : Int32) (x5 : Int32) (x6 : Int32) (x7 : Int32) (p0 : Int32) (hs74 : ∀ x4 : Int32, ∀ x5 : Int32, Tr X eI 0 0 74 [(0, .ref (cxAd X 161)), (1, .int x1), (3, .int x3), (4, .int x4), (5, .int x5)] [] (s74 x4 x5)) (hs108 : ∀ x4 : Int32, ∀ x7 : Int32, Tr X eI 0 0 108 [(0, .ref (cxAd X 161)), (1, .int x1), (3, .int x3), (4, .int x4), (5, .int x5), (6, .int x6), (7, .int x7)] [] (s108 x4 x7)) : Tr X eI 0 0 189 [(0, .ref (cxAd X 161)), (1, .int x1), (3, .int x3), (5, .int x5), (6, .int x6), (7, .int x7)] [.int p0] (f_X9_farOf_189 s74 s108 x1 x3 x5 x6 x7 p0) := by
  unfold f_X9_farOf_189
  refine tr_istore hX dX9_farOf_189 (hS.n (by decide)) rfl ?_
  refine tr_iinc (x7 + 1) 6 hX dX9_farOf_191 rfl (congrArg (fun z => x7 + z) (by decide)) (hS.n (by decide)) rfl ?_
  refine tr_goto 108 hX dX9_farOf_194 (by decide) ?_
  exact tr_sub [2, 3, 4, 1, 5, 6, 0] rfl (hs108 p0 (x7 + 1))
def f_X9_farOf_173 (s74 : Int32 → Int32 → M Int32) (s108 : Int32 → Int32 → M Int32) (x1 : Int32) (x3 : Int32) (x4 : Int32) (x5 : Int32) (x6 : Int32) (x7 : Int32) (p0 : Int32) : M Int32 :=
  if x4 ≤ p0 then (f_X9_farOf_189 s74 s108 x1 x3 x5 x6 x7 x4) else (f_X9_farOf_189 s74 s108 x1 x3 x5 x6 x7 p0)
set_option maxRecDepth 10000 in
set_option maxHeartbeats 4000000 in
theorem t_X9_farOf_173 {X : Cx} (hX : Good X RX9 cX9_farOf ((some .int))) (hS : Sta X 5 123 9) (s74 : Int32 → Int32 → M Int32) (s108 : Int32 → Int32 → M Int32) (x1 : Int32) (x3 : Int32) (x4 : Int32) (x5 : Int32) (x6 : Int32) (x7 : Int32) (p0 : Int32) (hs74 : ∀ x4 : Int32, ∀ x5 : Int32, Tr X eI 0 0 74 [(0, .ref (cxAd X 161)), (1, .int x1), (3, .int x3), (4, .int x4), (5, .int x5)] [] (s74 x4 x5)) (hs108 : ∀ x4 : Int32, ∀ x7 : Int32, Tr X eI 0 0 108 [(0, .ref (cxAd X 161)), (1, .int x1), (3, .int x3), (4, .int x4), (5, .int x5), (6, .int x6), (7, .int x7)] [] (s108 x4 x7)) : Tr X eI 0 0 173 [(0, .ref (cxAd X 161)), (1, .int x1), (3, .int x3), (4, .int x4), (5, .int x5), (6, .int x6), (7, .int x7)] [.int p0] (f_X9_farOf_173 s74 s108 x1 x3 x4 x5 x6 x7 p0) := by
  unfold f_X9_farOf_173
  refine tr_istore hX dX9_farOf_173 (hS.n (by decide)) rfl ?_
  refine tr_iload 0 hX dX9_farOf_175 rfl ?_
  refine tr_iload 4 hX dX9_farOf_177 rfl ?_
  refine tr_ic_ge 187 hX dX9_farOf_179 (by decide) (fun c1 => ?_) (fun c1 => ?_)
  · refine tr_iload 4 hX dX9_farOf_187 rfl ?_
    exact tr_sub [1, 2, 3, 5, 6, 7] rfl (t_X9_farOf_189 hX hS s74 s108 x1 x3 x5 x6 x7 x4 hs74 hs108)
  · refine tr_iload 0 hX dX9_farOf_182 rfl ?_
    refine tr_goto 189 hX dX9_farOf_184 (by decide) ?_
    exact tr_sub [1, 2, 3, 5, 6, 7] rfl (t_X9_farOf_189 hX hS s74 s108 x1 x3 x5 x6 x7 p0 hs74 hs108)
def f_X9_farOf_108 (s74 : Int32 → Int32 → M Int32) (x1 : Int32) (x3 : Int32) (x5 : Int32) (x6 : Int32) (s108 : Int32 → Int32 → M Int32) (x4 : Int32) (x7 : Int32) : M Int32 :=
  aI 163 2 0 (fun v1 => if v1 ≤ x7 then (s74 x4 (x5 + 1)) else (sI 181 8 x5 x7 (aI 168 144 ((8 * x1) + x5) (fun v3 => if x7 = v3 then (f_X9_farOf_173 s74 s108 x1 x3 x4 x5 x6 x7 x4) else (bnd (f_X9_unlikeAt x5) (fun v5 => bnd (f_X9_at (x5 + 1) x6 x7) (fun v6 => aI 183 2304 v6 (fun v7 => f_X9_farOf_173 s74 s108 x1 x3 x4 x5 x6 x7 (v5 + v7)))))))))
set_option maxRecDepth 10000 in
set_option maxHeartbeats 4000000 in
theorem t_X9_farOf_108 {X : Cx} (hX : Good X RX9 cX9_farOf ((some .int))) (hS : Sta X 5 123 9) (s74 : Int32 → Int32 → M Int32) (x1 : Int32) (x3 : Int32) (x5 : Int32) (x6 : Int32) (hs74 : ∀ x4 : Int32, ∀ x5 : Int32, Tr X eI 0 0 74 [(0, .ref (cxAd X 161)), (1, .int x1), (3, .int x3), (4, .int x4), (5, .int x5)] [] (s74 x4 x5)) : ∀ s108 : Int32 → Int32 → M Int32, (∀ x4 : Int32, ∀ x7 : Int32, Tr X eI 0 0 108 [(0, .ref (cxAd X 161)), (1, .int x1), (3, .int x3), (4, .int x4), (5, .int x5), (6, .int x6), (7, .int x7)] [] (s108 x4 x7)) → ∀ x4 : Int32, ∀ x7 : Int32, Tr X eI 0 0 108 [(0, .ref (cxAd X 161)), (1, .int x1), (3, .int x3), (4, .int x4), (5, .int x5), (6, .int x6), (7, .int x7)] [] (f_X9_farOf_108 s74 x1 x3 x5 x6 s108 x4 x7) := by
  intro s108 hs108 x4 x7
  unfold f_X9_farOf_108
  refine tr_iload 6 hX dX9_farOf_108 rfl ?_
  refine tr_aload_n 0 hX dX9_farOf_110 rfl rfl ?_
  refine tr_getF hX dX9_farOf_111 sh_161 (by decide) rfl inlX9 (by decide) rfl (hS.g (Nat.le_of_ble_eq_true rfl)) cr_161_2 k_6_12 mq_161 ?_
  refine tr_iconst 0 hX dX9_farOf_114 (by decide) ?_
  refine tr_iald hX dX9_farOf_115 sh_163 (hS.e (Nat.le_of_ble_eq_true rfl)) (fun hb2 v1 => ?_)
  refine tr_ic_ge 197 hX dX9_farOf_116 (by decide) (fun c10 => ?_) (fun c10 => ?_)
  · refine tr_iinc (x5 + 1) 4 hX dX9_farOf_197 rfl (congrArg (fun z => x5 + z) (by decide)) (hS.n (by decide)) rfl ?_
    refine tr_goto 74 hX dX9_farOf_200 (by decide) ?_
    exact tr_sub [1, 2, 3, 4, 0] rfl (hs74 x4 (x5 + 1))
  · refine tr_aload_n 0 hX dX9_farOf_119 rfl rfl ?_
    refine tr_getF hX dX9_farOf_120 sh_161 (by decide) rfl inlX9 (by decide) rfl (hS.g (Nat.le_of_ble_eq_true rfl)) cr_161_26 k_7_6 mq_161 ?_
    refine tr_iload 4 hX dX9_farOf_123 rfl ?_
    refine tr_iload 6 hX dX9_farOf_125 rfl ?_
    refine tr_iast hX dX9_farOf_127 sh_181 (hS.e (Nat.le_of_ble_eq_true rfl)) (fun _ => ?_)
    refine tr_iload 6 hX dX9_farOf_128 rfl ?_
    refine tr_aload_n 0 hX dX9_farOf_130 rfl rfl ?_
    refine tr_getF hX dX9_farOf_131 sh_161 (by decide) rfl inlX9 (by decide) rfl (hS.g (Nat.le_of_ble_eq_true rfl)) cr_161_7 k_6_17 mq_161 ?_
    refine tr_bipush 8 hX dX9_farOf_134 (by decide) ?_
    refine tr_iload_n 1 hX dX9_farOf_136 rfl rfl ?_
    refine tr_imul hX dX9_farOf_137 ?_
    refine tr_iload 4 hX dX9_farOf_138 rfl ?_
    refine tr_iadd hX dX9_farOf_140 ?_
    refine tr_iald hX dX9_farOf_141 sh_168 (hS.e (Nat.le_of_ble_eq_true rfl)) (fun hb4 v3 => ?_)
    refine tr_ic_ne 150 hX dX9_farOf_142 (by decide) (fun c9 => ?_) (fun c9 => ?_)
    · refine tr_iload 3 hX dX9_farOf_145 rfl ?_
      refine tr_goto 173 hX dX9_farOf_147 (by decide) ?_
      exact tr_sub [0, 1, 2, 3, 4, 5, 6] rfl (t_X9_farOf_173 hX hS s74 s108 x1 x3 x4 x5 x6 x7 x4 hs74 hs108)
    · refine tr_aload_n 0 hX dX9_farOf_150 rfl rfl ?_
      refine tr_iload 4 hX dX9_farOf_151 rfl ?_
      refine tr_callV0I (st := []) 1 hX hS dX9_farOf_153 (ok_X9_unlikeAt x5) sh_161 (by decide) rfl (Nat.le_of_ble_eq_true rfl) k_23_23 k_24_0 k_24_1 k_1_5 k_24_2 hy_X9_unlikeAt rfl rfl (Nat.le_of_ble_eq_true rfl) rfl (fun v5 => ?_)
      refine tr_aload_n 0 hX dX9_farOf_156 rfl rfl ?_
      refine tr_getF hX dX9_farOf_157 sh_161 (by decide) rfl inlX9 (by decide) rfl (hS.g (Nat.le_of_ble_eq_true rfl)) cr_161_28 k_7_8 mq_161 ?_
      refine tr_iload 4 hX dX9_farOf_160 rfl ?_
      refine tr_iconst 1 hX dX9_farOf_162 (by decide) ?_
      refine tr_iadd hX dX9_farOf_163 ?_
      refine tr_iload 5 hX dX9_farOf_164 rfl ?_
      refine tr_iload 6 hX dX9_farOf_166 rfl ?_
      refine tr_callS0I (st := [.ref (cxAd X 183), .int v5]) 3 hX hS dX9_farOf_168 (ok_X9_at (x5 + 1) x6 x7) k_23_20 k_23_21 k_1_5 k_23_22 hy_X9_at.2 rfl rfl (Nat.le_of_ble_eq_true rfl) rfl (fun v6 => ?_)
      refine tr_iald hX dX9_farOf_171 sh_183 (hS.e (Nat.le_of_ble_eq_true rfl)) (fun hb8 v7 => ?_)
      refine tr_iadd hX dX9_farOf_172 ?_
      exact tr_sub [0, 1, 2, 3, 4, 5, 6] rfl (t_X9_farOf_173 hX hS s74 s108 x1 x3 x4 x5 x6 x7 (v5 + v7) hs74 hs108)
def f_X9_farOf_103 (s74 : Int32 → Int32 → M Int32) (x1 : Int32) (x3 : Int32) (x4 : Int32) (x5 : Int32) (p0 : Int32) : M Int32 :=
  fix2 FU (f_X9_farOf_108 s74 x1 x3 x5 p0) x4 0
set_option maxRecDepth 10000 in
set_option maxHeartbeats 4000000 in
theorem t_X9_farOf_103 {X : Cx} (hX : Good X RX9 cX9_farOf ((some .int))) (hS : Sta X 5 123 9) (s74 : Int32 → Int32 → M Int32) (x1 : Int32) (x3 : Int32) (x4 : Int32) (x5 : Int32) (p0 : Int32) (hs74 : ∀ x4 : Int32, ∀ x5 : Int32, Tr X eI 0 0 74 [(0, .ref (cxAd X 161)), (1, .int x1), (3, .int x3), (4, .int x4), (5, .int x5)] [] (s74 x4 x5)) : Tr X eI 0 0 103 [(0, .ref (cxAd X 161)), (1, .int x1), (3, .int x3), (4, .int x4), (5, .int x5)] [.int p0] (f_X9_farOf_103 s74 x1 x3 x4 x5 p0) := by
  unfold f_X9_farOf_103
  refine tr_istore hX dX9_farOf_103 (hS.n (by decide)) rfl ?_
  refine tr_iconst 0 hX dX9_farOf_105 (by decide) ?_
  refine tr_istore hX dX9_farOf_106 (hS.n (by decide)) rfl ?_
  exact tr_sub [2, 3, 4, 5, 6, 1, 0] rfl (tr_fix2 (lvf := fun x4 x7 => [(0, .ref (cxAd X 161)), (1, .int x1), (3, .int x3), (4, .int x4), (5, .int x5), (6, .int p0), (7, .int x7)]) (t_X9_farOf_108 hX hS s74 x1 x3 x5 p0 hs74) FU x4 0)
def f_X9_farOf_74 (x1 : Int32) (x3 : Int32) (s74 : Int32 → Int32 → M Int32) (x4 : Int32) (x5 : Int32) : M Int32 :=
  if x3 ≤ x5 then (rt x4) else (bnd (f_X9_layRow x1) (fun _ => if x5 ≤ 0 then (f_X9_farOf_103 s74 x1 x3 x4 x5 0) else (aI 181 8 (x5 - 1) (fun v2 => f_X9_farOf_103 s74 x1 x3 x4 x5 v2))))
set_option maxRecDepth 10000 in
set_option maxHeartbeats 4000000 in
theorem t_X9_farOf_74 {X : Cx} (hX : Good X RX9 cX9_farOf ((some .int))) (hS : Sta X 5 123 9) (x1 : Int32) (x3 : Int32) : ∀ s74 : Int32 → Int32 → M Int32, (∀ x4 : Int32, ∀ x5 : Int32, Tr X eI 0 0 74 [(0, .ref (cxAd X 161)), (1, .int x1), (3, .int x3), (4, .int x4), (5, .int x5)] [] (s74 x4 x5)) → ∀ x4 : Int32, ∀ x5 : Int32, Tr X eI 0 0 74 [(0, .ref (cxAd X 161)), (1, .int x1), (3, .int x3), (4, .int x4), (5, .int x5)] [] (f_X9_farOf_74 x1 x3 s74 x4 x5) := by
  intro s74 hs74 x4 x5
  unfold f_X9_farOf_74
  refine tr_iload 4 hX dX9_farOf_74 rfl ?_
  refine tr_iload_n 2 hX dX9_farOf_76 rfl rfl ?_
  refine tr_ic_ge 203 hX dX9_farOf_77 (by decide) (fun c5 => ?_) (fun c5 => ?_)
  · refine tr_iload 3 hX dX9_farOf_203 rfl ?_
    exact tr_iret0 hX hS dX9_farOf_205
  · refine tr_aload_n 0 hX dX9_farOf_80 rfl rfl ?_
    refine tr_iload_n 1 hX dX9_farOf_81 rfl rfl ?_
    refine tr_callV0U (st := []) 1 hX hS dX9_farOf_82 (ok_X9_layRow x1) sh_161 (by decide) rfl (Nat.le_of_ble_eq_true rfl) k_17_19 k_17_20 k_17_21 k_1_5 k_17_22 hy_X9_layRow rfl rfl (Nat.le_of_ble_eq_true rfl) rfl (fun _ => ?_)
    refine tr_iload 4 hX dX9_farOf_85 rfl ?_
    refine tr_if_le 102 hX dX9_farOf_87 (by decide) (fun c4 => ?_) (fun c4 => ?_)
    · refine tr_iconst 0 hX dX9_farOf_102 (by decide) ?_
      exact tr_sub [0, 1, 2, 3, 4] rfl (t_X9_farOf_103 hX hS s74 x1 x3 x4 x5 0 hs74)
    · refine tr_aload_n 0 hX dX9_farOf_90 rfl rfl ?_
      refine tr_getF hX dX9_farOf_91 sh_161 (by decide) rfl inlX9 (by decide) rfl (hS.g (Nat.le_of_ble_eq_true rfl)) cr_161_26 k_7_6 mq_161 ?_
      refine tr_iload 4 hX dX9_farOf_94 rfl ?_
      refine tr_iconst 1 hX dX9_farOf_96 (by decide) ?_
      refine tr_isub hX dX9_farOf_97 ?_
      refine tr_iald hX dX9_farOf_98 sh_181 (hS.e (Nat.le_of_ble_eq_true rfl)) (fun hb3 v2 => ?_)
      refine tr_goto 103 hX dX9_farOf_99 (by decide) ?_
      exact tr_sub [0, 1, 2, 3, 4] rfl (t_X9_farOf_103 hX hS s74 x1 x3 x4 x5 v2 hs74)
def f_X9_farOf_34 (x1 : Int32) (x3 : Int32) (s34 : Int32 → M Int32) (x4 : Int32) : M Int32 :=
  rI 161 19 (fun v1 => if v1 ≤ x4 then (bnd (f_X9_layLeast x3) (fun _ => fix2 FU (f_X9_farOf_74 x1 x3) 100000 0)) else (bnd (f_X9_tokenAt x4) (fun v3 => sI 182 168 x4 v3 (s34 (x4 + 1)))))
set_option maxRecDepth 10000 in
set_option maxHeartbeats 4000000 in
theorem t_X9_farOf_34 {X : Cx} (hX : Good X RX9 cX9_farOf ((some .int))) (hS : Sta X 5 123 9) (x1 : Int32) (x3 : Int32) : ∀ s34 : Int32 → M Int32, (∀ x4 : Int32, Tr X eI 0 0 34 [(0, .ref (cxAd X 161)), (1, .int x1), (3, .int x3), (4, .int x4)] [] (s34 x4)) → ∀ x4 : Int32, Tr X eI 0 0 34 [(0, .ref (cxAd X 161)), (1, .int x1), (3, .int x3), (4, .int x4)] [] (f_X9_farOf_34 x1 x3 s34 x4) := by
  intro s34 hs34 x4
  unfold f_X9_farOf_34
  refine tr_iload 3 hX dX9_farOf_34 rfl ?_
  refine tr_aload_n 0 hX dX9_farOf_36 rfl rfl ?_
  refine tr_getI hX dX9_farOf_37 sh_161 (by decide) rfl inlX9 (by decide) rfl (hS.e (Nat.le_of_ble_eq_true rfl)) k_16_8 (fun v1 => ?_)
  refine tr_ic_ge 62 hX dX9_farOf_40 (by decide) (fun c4 => ?_) (fun c4 => ?_)
  · refine tr_aload_n 0 hX dX9_farOf_62 rfl rfl ?_
    refine tr_iload_n 2 hX dX9_farOf_63 rfl rfl ?_
    refine tr_callV0U (st := []) 1 hX hS dX9_farOf_64 (ok_X9_layLeast x3) sh_161 (by decide) rfl (Nat.le_of_ble_eq_true rfl) k_23_11 k_23_12 k_23_13 k_1_5 k_23_14 hy_X9_layLeast rfl rfl (Nat.le_of_ble_eq_true rfl) rfl (fun _ => ?_)
    refine tr_ldc hX dX9_farOf_67 k_23_19 ?_
    refine tr_istore hX dX9_farOf_69 (hS.n (by decide)) rfl ?_
    refine tr_iconst 0 hX dX9_farOf_71 (by decide) ?_
    refine tr_istore hX dX9_farOf_72 (hS.n (by decide)) rfl ?_
    exact tr_sub [2, 3, 4, 1, 0] rfl (tr_fix2 (lvf := fun x4 x5 => [(0, .ref (cxAd X 161)), (1, .int x1), (3, .int x3), (4, .int x4), (5, .int x5)]) (t_X9_farOf_74 hX hS x1 x3) FU 100000 0)
  · refine tr_aload_n 0 hX dX9_farOf_43 rfl rfl ?_
    refine tr_getF hX dX9_farOf_44 sh_161 (by decide) rfl inlX9 (by decide) rfl (hS.g (Nat.le_of_ble_eq_true rfl)) cr_161_27 k_7_7 mq_161 ?_
    refine tr_iload 3 hX dX9_farOf_47 rfl ?_
    refine tr_aload_n 0 hX dX9_farOf_49 rfl rfl ?_
    refine tr_iload 3 hX dX9_farOf_50 rfl ?_
    refine tr_callV0I (st := [.int x4, .ref (cxAd X 182)]) 1 hX hS dX9_farOf_52 (ok_X9_tokenAt x4) sh_161 (by decide) rfl (Nat.le_of_ble_eq_true rfl) k_17_23 k_18_0 k_18_1 k_1_5 k_18_2 hy_X9_tokenAt rfl rfl (Nat.le_of_ble_eq_true rfl) rfl (fun v3 => ?_)
    refine tr_iast hX dX9_farOf_55 sh_182 (hS.e (Nat.le_of_ble_eq_true rfl)) (fun _ => ?_)
    refine tr_iinc (x4 + 1) 3 hX dX9_farOf_56 rfl (congrArg (fun z => x4 + z) (by decide)) (hS.n (by decide)) rfl ?_
    refine tr_goto 34 hX dX9_farOf_59 (by decide) ?_
    exact tr_sub [1, 2, 3, 0] rfl (hs34 (x4 + 1))
def f_X9_farOf (x1 : Int32) (x2 : Int32) : M Int32 :=
  aI 167 18 x1 (fun v1 => aI 163 2 0 (fun v3 => if 2 ≤ v3 then (bnd (f_X9_layWays x2 v1) (fun _ => bnd (f_X9_layRow x1) (fun _ => fix1 FU (f_X9_farOf_34 x1 v1) 0))) else (rt (-4))))
set_option maxRecDepth 10000 in
set_option maxHeartbeats 4000000 in
theorem t_X9_farOf_0 {X : Cx} (hX : Good X RX9 cX9_farOf ((some .int))) (hS : Sta X 5 123 9) (x1 : Int32) (x2 : Int32) : Tr X eI 0 0 0 [(0, .ref (cxAd X 161)), (1, .int x1), (2, .int x2)] [] (f_X9_farOf x1 x2) := by
  unfold f_X9_farOf
  refine tr_aload_n 0 hX dX9_farOf_0 rfl rfl ?_
  refine tr_getF hX dX9_farOf_1 sh_161 (by decide) rfl inlX9 (by decide) rfl (hS.g (Nat.le_of_ble_eq_true rfl)) cr_161_6 k_6_16 mq_161 ?_
  refine tr_iload_n 1 hX dX9_farOf_4 rfl rfl ?_
  refine tr_iald hX dX9_farOf_5 sh_167 (hS.e (Nat.le_of_ble_eq_true rfl)) (fun hb2 v1 => ?_)
  refine tr_istore_n hX dX9_farOf_6 rfl (hS.n (by decide)) rfl ?_
  refine tr_aload_n 1 hX dX9_farOf_7 rfl rfl ?_
  refine tr_getF hX dX9_farOf_8 sh_161 (by decide) rfl inlX9 (by decide) rfl (hS.g (Nat.le_of_ble_eq_true rfl)) cr_161_2 k_6_12 mq_161 ?_
  refine tr_iconst 0 hX dX9_farOf_11 (by decide) ?_
  refine tr_iald hX dX9_farOf_12 sh_163 (hS.e (Nat.le_of_ble_eq_true rfl)) (fun hb4 v3 => ?_)
  refine tr_iconst 2 hX dX9_farOf_13 (by decide) ?_
  refine tr_ic_ge 20 hX dX9_farOf_14 (by decide) (fun c7 => ?_) (fun c7 => ?_)
  · refine tr_aload_n 1 hX dX9_farOf_20 rfl rfl ?_
    refine tr_iload_n 3 hX dX9_farOf_21 rfl rfl ?_
    refine tr_iload_n 0 hX dX9_farOf_22 rfl rfl ?_
    refine tr_callV0U (st := []) 2 hX hS dX9_farOf_23 (ok_X9_layWays x2 v1) sh_161 (by decide) rfl (Nat.le_of_ble_eq_true rfl) k_16_12 k_16_13 k_16_14 k_1_5 k_16_15 hy_X9_layWays rfl rfl (Nat.le_of_ble_eq_true rfl) rfl (fun _ => ?_)
    refine tr_aload_n 1 hX dX9_farOf_26 rfl rfl ?_
    refine tr_iload_n 2 hX dX9_farOf_27 rfl rfl ?_
    refine tr_callV0U (st := []) 1 hX hS dX9_farOf_28 (ok_X9_layRow x1) sh_161 (by decide) rfl (Nat.le_of_ble_eq_true rfl) k_17_19 k_17_20 k_17_21 k_1_5 k_17_22 hy_X9_layRow rfl rfl (Nat.le_of_ble_eq_true rfl) rfl (fun _ => ?_)
    refine tr_iconst 0 hX dX9_farOf_31 (by decide) ?_
    refine tr_istore hX dX9_farOf_32 (hS.n (by decide)) rfl ?_
    exact tr_sub [2, 3, 1, 0] rfl (tr_fix1 (lvf := fun x4 => [(0, .ref (cxAd X 161)), (1, .int x1), (3, .int v1), (4, .int x4)]) (t_X9_farOf_34 hX hS x1 v1) FU 0)
  · refine tr_bipush (-4) hX dX9_farOf_17 (by decide) ?_
    exact tr_iret0 hX hS dX9_farOf_19
theorem ok_X9_farOf {l : Launch} {E : Ev} (x1 : Int32) (x2 : Int32)  : Ok l E Gall yX9_farOf cX9_farOf 9 ((some .int)) (rmz 5 123) eI [.ref (E.2.1 161), .int x1, .int x2] (f_X9_farOf x1 x2) := by
  refine ok_of0 (by decide) (Nat.le_of_ble_eq_true rfl) (fun X hX hV hS => ?_)
  subst hV
  exact t_X9_farOf_0 hX hS x1 x2
def f_X9_far_31  : M Int32 :=
  rt (-1)
set_option maxRecDepth 10000 in
set_option maxHeartbeats 4000000 in
theorem t_X9_far_31 {X : Cx} (hX : Good X RX9 cX9_far ((some .int))) (hS : Sta X 6 151 5) : Tr X eI 0 0 31 [] [] (f_X9_far_31) := by
  unfold f_X9_far_31
  refine tr_iconst (-1) hX dX9_far_31 (by decide) ?_
  exact tr_iret0 hX hS dX9_far_32
def f_X9_far_98 (p0 : Int32) : M Int32 :=
  rt p0
set_option maxRecDepth 10000 in
set_option maxHeartbeats 4000000 in
theorem t_X9_far_98 {X : Cx} (hX : Good X RX9 cX9_far ((some .int))) (hS : Sta X 6 151 5) (p0 : Int32) : Tr X eI 0 0 98 [] [.int p0] (f_X9_far_98 p0) := by
  unfold f_X9_far_98
  exact tr_iret0 hX hS dX9_far_98
def f_X9_far_70 (p0 : Int32) : M Int32 :=
  rt p0
set_option maxRecDepth 10000 in
set_option maxHeartbeats 4000000 in
theorem t_X9_far_70 {X : Cx} (hX : Good X RX9 cX9_far ((some .int))) (hS : Sta X 6 151 5) (p0 : Int32) : Tr X eI 0 0 70 [] [.int p0] (f_X9_far_70 p0) := by
  unfold f_X9_far_70
  exact tr_iret0 hX hS dX9_far_70
def f_X9_far (x1 : Int32) (x2 : Int32) (x3 : Int32) : M Int32 :=
  bnd (f_X9_isVerse x1) (fun v1 => if v1 = 0 then (f_X9_far_31) else (bnd (f_X9_in x2.toInt64 0 31) (fun v2 => if v2 = 0 then (f_X9_far_31) else (bnd (f_X9_in x3.toInt64 0 2) (fun v3 => if v3 = 0 then (f_X9_far_31) else (aI 167 18 x1 (fun v4 => if v4 = 0 then (rt (-2)) else (bnd (f_X9_farOf x1 x2) (fun v6 => if 1 ≤ v6 then (if x3 = 0 then (f_X9_far_98 v6) else (if x3 = 1 then (f_X9_far_98 (v6 - 1)) else (gd (¬ (2 : Int32) = 0) (f_X9_far_98 ((v6 - 1) / 2))))) else (if 0 ≤ v6 then (f_X9_far_70 0) else (f_X9_far_70 (-4))))))))))))
set_option maxRecDepth 10000 in
set_option maxHeartbeats 4000000 in
theorem t_X9_far_0 {X : Cx} (hX : Good X RX9 cX9_far ((some .int))) (hS : Sta X 6 151 5) (x1 : Int32) (x2 : Int32) (x3 : Int32) : Tr X eI 0 0 0 [(0, .ref (cxAd X 161)), (1, .int x1), (2, .int x2), (3, .int x3)] [] (f_X9_far x1 x2 x3) := by
  unfold f_X9_far
  refine tr_iload_n 1 hX dX9_far_0 rfl rfl ?_
  refine tr_callS0I (st := []) 1 hX hS dX9_far_1 (ok_X9_isVerse x1) k_13_12 k_13_13 k_1_5 k_13_14 hy_X9_isVerse.2 rfl rfl (Nat.le_of_ble_eq_true rfl) rfl (fun v1 => ?_)
  refine tr_if_eq 31 hX dX9_far_4 (by decide) (fun c14 => ?_) (fun c14 => ?_)
  · exact tr_sub [] rfl (t_X9_far_31 hX hS)
  · refine tr_iload_n 2 hX dX9_far_7 rfl rfl ?_
    refine tr_i2l hX dX9_far_8 ?_
    refine tr_lconst 0 hX dX9_far_9 (by decide) ?_
    refine tr_ldc2 hX dX9_far_10 k_26_7 ?_
    refine tr_callS0I (st := []) 3 hX hS dX9_far_13 (ok_X9_in x2.toInt64 0 31) k_8_8 k_8_9 k_1_5 k_8_10 hy_X9_in.2 rfl rfl (Nat.le_of_ble_eq_true rfl) rfl (fun v2 => ?_)
    refine tr_if_eq 31 hX dX9_far_16 (by decide) (fun c13 => ?_) (fun c13 => ?_)
    · exact tr_sub [] rfl (t_X9_far_31 hX hS)
    · refine tr_iload_n 3 hX dX9_far_19 rfl rfl ?_
      refine tr_i2l hX dX9_far_20 ?_
      refine tr_lconst 0 hX dX9_far_21 (by decide) ?_
      refine tr_ldc2 hX dX9_far_22 k_11_9 ?_
      refine tr_callS0I (st := []) 3 hX hS dX9_far_25 (ok_X9_in x3.toInt64 0 2) k_8_8 k_8_9 k_1_5 k_8_10 hy_X9_in.2 rfl rfl (Nat.le_of_ble_eq_true rfl) rfl (fun v3 => ?_)
      refine tr_if_ne 33 hX dX9_far_28 (by decide) (fun c12 => ?_) (fun c12 => ?_)
      · exact tr_sub [] rfl (t_X9_far_31 hX hS)
      · refine tr_aload_n 0 hX dX9_far_33 rfl rfl ?_
        refine tr_getF hX dX9_far_34 sh_161 (by decide) rfl inlX9 (by decide) rfl (hS.g (Nat.le_of_ble_eq_true rfl)) cr_161_6 k_6_16 mq_161 ?_
        refine tr_iload_n 1 hX dX9_far_37 rfl rfl ?_
        refine tr_iald hX dX9_far_38 sh_167 (hS.e (Nat.le_of_ble_eq_true rfl)) (fun hb5 v4 => ?_)
        refine tr_if_ne 45 hX dX9_far_39 (by decide) (fun c11 => ?_) (fun c11 => ?_)
        · refine tr_bipush (-2) hX dX9_far_42 (by decide) ?_
          exact tr_iret0 hX hS dX9_far_44
        · refine tr_aload_n 0 hX dX9_far_45 rfl rfl ?_
          refine tr_iload_n 1 hX dX9_far_46 rfl rfl ?_
          refine tr_iload_n 2 hX dX9_far_47 rfl rfl ?_
          refine tr_callV0I (st := []) 2 hX hS dX9_far_48 (ok_X9_farOf x1 x2) sh_161 (by decide) rfl (Nat.le_of_ble_eq_true rfl) k_26_8 k_26_9 k_26_10 k_1_5 k_26_11 hy_X9_farOf rfl rfl (Nat.le_of_ble_eq_true rfl) rfl (fun v6 => ?_)
          refine tr_istore hX dX9_far_51 (hS.n (by decide)) rfl ?_
          refine tr_iload 0 hX dX9_far_53 rfl ?_
          refine tr_iconst 1 hX dX9_far_55 (by decide) ?_
          refine tr_ic_ge 71 hX dX9_far_56 (by decide) (fun c10 => ?_) (fun c10 => ?_)
          · refine tr_iload_n 4 hX dX9_far_71 rfl rfl ?_
            refine tr_if_ne 80 hX dX9_far_72 (by decide) (fun c8 => ?_) (fun c8 => ?_)
            · refine tr_iload 0 hX dX9_far_75 rfl ?_
              refine tr_goto 98 hX dX9_far_77 (by decide) ?_
              exact tr_sub [] rfl (t_X9_far_98 hX hS v6)
            · refine tr_iload_n 4 hX dX9_far_80 rfl rfl ?_
              refine tr_iconst 1 hX dX9_far_81 (by decide) ?_
              refine tr_ic_ne 92 hX dX9_far_82 (by decide) (fun c7 => ?_) (fun c7 => ?_)
              · refine tr_iload 0 hX dX9_far_85 rfl ?_
                refine tr_iconst 1 hX dX9_far_87 (by decide) ?_
                refine tr_isub hX dX9_far_88 ?_
                refine tr_goto 98 hX dX9_far_89 (by decide) ?_
                exact tr_sub [] rfl (t_X9_far_98 hX hS (v6 - 1))
              · refine tr_iload 0 hX dX9_far_92 rfl ?_
                refine tr_iconst 1 hX dX9_far_94 (by decide) ?_
                refine tr_isub hX dX9_far_95 ?_
                refine tr_iconst 2 hX dX9_far_96 (by decide) ?_
                refine tr_idiv hX dX9_far_97 (fun _ => ?_)
                exact tr_sub [] rfl (t_X9_far_98 hX hS ((v6 - 1) / 2))
          · refine tr_iload 0 hX dX9_far_59 rfl ?_
            refine tr_if_ge 69 hX dX9_far_61 (by decide) (fun c9 => ?_) (fun c9 => ?_)
            · refine tr_iconst 0 hX dX9_far_69 (by decide) ?_
              exact tr_sub [] rfl (t_X9_far_70 hX hS 0)
            · refine tr_bipush (-4) hX dX9_far_64 (by decide) ?_
              refine tr_goto 70 hX dX9_far_66 (by decide) ?_
              exact tr_sub [] rfl (t_X9_far_70 hX hS (-4))
theorem ok_X9_far {l : Launch} {E : Ev} (x1 : Int32) (x2 : Int32) (x3 : Int32)  : Ok l E Gall yX9_far cX9_far 5 ((some .int)) (rmz 6 151) eI [.ref (E.2.1 161), .int x1, .int x2, .int x3] (f_X9_far x1 x2 x3) := by
  refine ok_of0 (by decide) (Nat.le_of_ble_eq_true rfl) (fun X hX hV hS => ?_)
  subst hV
  exact t_X9_far_0 hX hS x1 x2 x3
def f_X9_hoursOf_28 (s4 : Int32 → Int32 → M Int32) (x1 : Int32) (x3 : Int32) (p0 : Int32) (p1 : Int32) : M Int32 :=
  nm ((p1 + p0)) (fun v1 => s4 v1 (x3 + 1))
set_option maxRecDepth 10000 in
set_option maxHeartbeats 4000000 in
theorem t_X9_hoursOf_28 {X : Cx} (hX : Good X RX9 cX9_hoursOf ((some .int))) (hS : Sta X 1 21 4) (s4 : Int32 → Int32 → M Int32) (x1 : Int32) (x3 : Int32) (p0 : Int32) (p1 : Int32) (hs4 : ∀ x2 : Int32, ∀ x3 : Int32, Tr X eI 0 0 4 [(0, .ref (cxAd X 161)), (1, .int x1), (2, .int x2), (3, .int x3)] [] (s4 x2 x3)) : Tr X eI 0 0 28 [(0, .ref (cxAd X 161)), (1, .int x1), (3, .int x3)] [.int p0, .int p1] (f_X9_hoursOf_28 s4 x1 x3 p0 p1) := by
  unfold f_X9_hoursOf_28
  refine tr_iadd hX dX9_hoursOf_28 ?_
  refine tr_nm (fun v1 ev1 => ?_)
  refine tr_istore_n hX dX9_hoursOf_29 rfl (hS.n (by decide)) rfl ?_
  refine tr_iinc (x3 + 1) 3 hX dX9_hoursOf_30 rfl (congrArg (fun z => x3 + z) (by decide)) (hS.n (by decide)) rfl ?_
  refine tr_goto 4 hX dX9_hoursOf_33 (by decide) ?_
  exact tr_sub [2, 3, 1, 0] rfl (hs4 v1 (x3 + 1))
def f_X9_hoursOf_4 (x1 : Int32) (s4 : Int32 → Int32 → M Int32) (x2 : Int32) (x3 : Int32) : M Int32 :=
  if 5 ≤ x3 then (rt x2) else (bnd (f_X9_has x1 x3) (fun v1 => if v1 = 0 then (f_X9_hoursOf_28 s4 x1 x3 0 x2) else (aI 166 10 x3 (fun v2 => f_X9_hoursOf_28 s4 x1 x3 v2 x2))))
set_option maxRecDepth 10000 in
set_option maxHeartbeats 4000000 in
theorem t_X9_hoursOf_4 {X : Cx} (hX : Good X RX9 cX9_hoursOf ((some .int))) (hS : Sta X 1 21 4) (x1 : Int32) : ∀ s4 : Int32 → Int32 → M Int32, (∀ x2 : Int32, ∀ x3 : Int32, Tr X eI 0 0 4 [(0, .ref (cxAd X 161)), (1, .int x1), (2, .int x2), (3, .int x3)] [] (s4 x2 x3)) → ∀ x2 : Int32, ∀ x3 : Int32, Tr X eI 0 0 4 [(0, .ref (cxAd X 161)), (1, .int x1), (2, .int x2), (3, .int x3)] [] (f_X9_hoursOf_4 x1 s4 x2 x3) := by
  intro s4 hs4 x2 x3
  unfold f_X9_hoursOf_4
  refine tr_iload_n 3 hX dX9_hoursOf_4 rfl rfl ?_
  refine tr_iconst 5 hX dX9_hoursOf_5 (by decide) ?_
  refine tr_ic_ge 36 hX dX9_hoursOf_6 (by decide) (fun c5 => ?_) (fun c5 => ?_)
  · refine tr_iload_n 2 hX dX9_hoursOf_36 rfl rfl ?_
    exact tr_iret0 hX hS dX9_hoursOf_37
  · refine tr_iload_n 2 hX dX9_hoursOf_9 rfl rfl ?_
    refine tr_iload_n 1 hX dX9_hoursOf_10 rfl rfl ?_
    refine tr_iload_n 3 hX dX9_hoursOf_11 rfl rfl ?_
    refine tr_callS0I (st := [.int x2]) 2 hX hS dX9_hoursOf_12 (ok_X9_has x1 x3) k_16_16 k_16_17 k_1_5 k_16_18 hy_X9_has.2 rfl rfl (Nat.le_of_ble_eq_true rfl) rfl (fun v1 => ?_)
    refine tr_if_eq 27 hX dX9_hoursOf_15 (by decide) (fun c4 => ?_) (fun c4 => ?_)
    · refine tr_iconst 0 hX dX9_hoursOf_27 (by decide) ?_
      exact tr_sub [0, 1, 3] rfl (t_X9_hoursOf_28 hX hS s4 x1 x3 0 x2 hs4)
    · refine tr_aload_n 0 hX dX9_hoursOf_18 rfl rfl ?_
      refine tr_getF hX dX9_hoursOf_19 sh_161 (by decide) rfl inlX9 (by decide) rfl (hS.g (Nat.le_of_ble_eq_true rfl)) cr_161_5 k_6_15 mq_161 ?_
      refine tr_iload_n 3 hX dX9_hoursOf_22 rfl rfl ?_
      refine tr_iald hX dX9_hoursOf_23 sh_166 (hS.e (Nat.le_of_ble_eq_true rfl)) (fun hb3 v2 => ?_)
      refine tr_goto 28 hX dX9_hoursOf_24 (by decide) ?_
      exact tr_sub [0, 1, 3] rfl (t_X9_hoursOf_28 hX hS s4 x1 x3 v2 x2 hs4)
def f_X9_hoursOf (x1 : Int32) : M Int32 :=
  fix2 FU (f_X9_hoursOf_4 x1) 0 0
set_option maxRecDepth 10000 in
set_option maxHeartbeats 4000000 in
theorem t_X9_hoursOf_0 {X : Cx} (hX : Good X RX9 cX9_hoursOf ((some .int))) (hS : Sta X 1 21 4) (x1 : Int32) : Tr X eI 0 0 0 [(0, .ref (cxAd X 161)), (1, .int x1)] [] (f_X9_hoursOf x1) := by
  unfold f_X9_hoursOf
  refine tr_iconst 0 hX dX9_hoursOf_0 (by decide) ?_
  refine tr_istore_n hX dX9_hoursOf_1 rfl (hS.n (by decide)) rfl ?_
  refine tr_iconst 0 hX dX9_hoursOf_2 (by decide) ?_
  refine tr_istore_n hX dX9_hoursOf_3 rfl (hS.n (by decide)) rfl ?_
  exact tr_sub [2, 3, 1, 0] rfl (tr_fix2 (lvf := fun x2 x3 => [(0, .ref (cxAd X 161)), (1, .int x1), (2, .int x2), (3, .int x3)]) (t_X9_hoursOf_4 hX hS x1) FU 0 0)
theorem ok_X9_hoursOf {l : Launch} {E : Ev} (x1 : Int32)  : Ok l E Gall yX9_hoursOf cX9_hoursOf 4 ((some .int)) (rmz 1 21) eI [.ref (E.2.1 161), .int x1] (f_X9_hoursOf x1) := by
  refine ok_of0 (by decide) (Nat.le_of_ble_eq_true rfl) (fun X hX hV hS => ?_)
  subst hV
  exact t_X9_hoursOf_0 hX hS x1
def f_X9_best_29  : M Int32 :=
  rt (-1)
set_option maxRecDepth 10000 in
set_option maxHeartbeats 4000000 in
theorem t_X9_best_29 {X : Cx} (hX : Good X RX9 cX9_best ((some .int))) (hS : Sta X 6 151 8) : Tr X eI 0 0 29 [] [] (f_X9_best_29) := by
  unfold f_X9_best_29
  refine tr_iconst (-1) hX dX9_best_29 (by decide) ?_
  exact tr_iret0 hX hS dX9_best_30
def f_X9_best_127 (p0 : Int32) : M Int32 :=
  rt p0
set_option maxRecDepth 10000 in
set_option maxHeartbeats 4000000 in
theorem t_X9_best_127 {X : Cx} (hX : Good X RX9 cX9_best ((some .int))) (hS : Sta X 6 151 8) (p0 : Int32) : Tr X eI 0 0 127 [] [.int p0] (f_X9_best_127 p0) := by
  unfold f_X9_best_127
  exact tr_iret0 hX hS dX9_best_127
def f_X9_best_110 (s65 : Int32 → Int32 → Int32 → M Int32) (x1 : Int32) (x2 : Int32) (x3 : Int32) (x4 : Int32) (x5 : Int32) (x6 : Int32) : M Int32 :=
  s65 x4 x5 (x6 + 1)
set_option maxRecDepth 10000 in
set_option maxHeartbeats 4000000 in
theorem t_X9_best_110 {X : Cx} (hX : Good X RX9 cX9_best ((some .int))) (hS : Sta X 6 151 8) (s65 : Int32 → Int32 → Int32 → M Int32) (x1 : Int32) (x2 : Int32) (x3 : Int32) (x4 : Int32) (x5 : Int32) (x6 : Int32) (hs65 : ∀ x4 : Int32, ∀ x5 : Int32, ∀ x6 : Int32, Tr X eI 0 0 65 [(0, .ref (cxAd X 161)), (1, .int x1), (2, .int x2), (3, .int x3), (4, .int x4), (5, .int x5), (6, .int x6)] [] (s65 x4 x5 x6)) : Tr X eI 0 0 110 [(0, .ref (cxAd X 161)), (1, .int x1), (2, .int x2), (3, .int x3), (4, .int x4), (5, .int x5), (6, .int x6)] [] (f_X9_best_110 s65 x1 x2 x3 x4 x5 x6) := by
  unfold f_X9_best_110
  refine tr_iinc (x6 + 1) 6 hX dX9_best_110 rfl (congrArg (fun z => x6 + z) (by decide)) (hS.n (by decide)) rfl ?_
  refine tr_goto 65 hX dX9_best_113 (by decide) ?_
  exact tr_sub [1, 2, 3, 4, 5, 6, 0] rfl (hs65 x4 x5 (x6 + 1))
def f_X9_best_93 (s65 : Int32 → Int32 → Int32 → M Int32) (x1 : Int32) (x2 : Int32) (x3 : Int32) (x4 : Int32) (x5 : Int32) (x6 : Int32) (p0 : Int32) : M Int32 :=
  if p0 ≤ x5 then (f_X9_best_110 s65 x1 x2 x3 x4 x5 x6) else (f_X9_best_110 s65 x1 x2 x3 x6 p0 x6)
set_option maxRecDepth 10000 in
set_option maxHeartbeats 4000000 in
theorem t_X9_best_93 {X : Cx} (hX : Good X RX9 cX9_best ((some .int))) (hS : Sta X 6 151 8) (s65 : Int32 → Int32 → Int32 → M Int32) (x1 : Int32) (x2 : Int32) (x3 : Int32) (x4 : Int32) (x5 : Int32) (x6 : Int32) (p0 : Int32) (hs65 : ∀ x4 : Int32, ∀ x5 : Int32, ∀ x6 : Int32, Tr X eI 0 0 65 [(0, .ref (cxAd X 161)), (1, .int x1), (2, .int x2), (3, .int x3), (4, .int x4), (5, .int x5), (6, .int x6)] [] (s65 x4 x5 x6)) : Tr X eI 0 0 93 [(0, .ref (cxAd X 161)), (1, .int x1), (2, .int x2), (3, .int x3), (4, .int x4), (5, .int x5), (6, .int x6)] [.int p0] (f_X9_best_93 s65 x1 x2 x3 x4 x5 x6 p0) := by
  unfold f_X9_best_93
  refine tr_istore hX dX9_best_93 (hS.n (by decide)) rfl ?_
  refine tr_iload 0 hX dX9_best_95 rfl ?_
  refine tr_iload 6 hX dX9_best_97 rfl ?_
  refine tr_ic_le 110 hX dX9_best_99 (by decide) (fun c1 => ?_) (fun c1 => ?_)
  · exact tr_sub [1, 2, 3, 4, 5, 6, 7] rfl (t_X9_best_110 hX hS s65 x1 x2 x3 x4 x5 x6 hs65)
  · refine tr_iload 0 hX dX9_best_102 rfl ?_
    refine tr_istore hX dX9_best_104 (hS.n (by decide)) rfl ?_
    refine tr_iload 7 hX dX9_best_106 rfl ?_
    refine tr_istore hX dX9_best_108 (hS.n (by decide)) rfl ?_
    exact tr_sub [3, 4, 5, 6, 0, 1, 7] rfl (t_X9_best_110 hX hS s65 x1 x2 x3 x6 p0 x6 hs65)
def f_X9_best_65 (x1 : Int32) (x2 : Int32) (x3 : Int32) (s65 : Int32 → Int32 → Int32 → M Int32) (x4 : Int32) (x5 : Int32) (x6 : Int32) : M Int32 :=
  if 32 ≤ x6 then (if x3 = 0 then (f_X9_best_127 x4) else (f_X9_best_127 x5)) else (bnd (f_X9_hoursOf x6) (fun v2 => if x2 < v2 then (f_X9_best_93 s65 x1 x2 x3 x4 x5 x6 0) else (bnd (f_X9_farOf x1 x6) (fun v3 => f_X9_best_93 s65 x1 x2 x3 x4 x5 x6 v3))))
set_option maxRecDepth 10000 in
set_option maxHeartbeats 4000000 in
theorem t_X9_best_65 {X : Cx} (hX : Good X RX9 cX9_best ((some .int))) (hS : Sta X 6 151 8) (x1 : Int32) (x2 : Int32) (x3 : Int32) : ∀ s65 : Int32 → Int32 → Int32 → M Int32, (∀ x4 : Int32, ∀ x5 : Int32, ∀ x6 : Int32, Tr X eI 0 0 65 [(0, .ref (cxAd X 161)), (1, .int x1), (2, .int x2), (3, .int x3), (4, .int x4), (5, .int x5), (6, .int x6)] [] (s65 x4 x5 x6)) → ∀ x4 : Int32, ∀ x5 : Int32, ∀ x6 : Int32, Tr X eI 0 0 65 [(0, .ref (cxAd X 161)), (1, .int x1), (2, .int x2), (3, .int x3), (4, .int x4), (5, .int x5), (6, .int x6)] [] (f_X9_best_65 x1 x2 x3 s65 x4 x5 x6) := by
  intro s65 hs65 x4 x5 x6
  unfold f_X9_best_65
  refine tr_iload 6 hX dX9_best_65 rfl ?_
  refine tr_bipush 32 hX dX9_best_67 (by decide) ?_
  refine tr_ic_ge 116 hX dX9_best_69 (by decide) (fun c5 => ?_) (fun c5 => ?_)
  · refine tr_iload_n 3 hX dX9_best_116 rfl rfl ?_
    refine tr_if_ne 125 hX dX9_best_117 (by decide) (fun c1 => ?_) (fun c1 => ?_)
    · refine tr_iload 4 hX dX9_best_120 rfl ?_
      refine tr_goto 127 hX dX9_best_122 (by decide) ?_
      exact tr_sub [] rfl (t_X9_best_127 hX hS x4)
    · refine tr_iload 5 hX dX9_best_125 rfl ?_
      exact tr_sub [] rfl (t_X9_best_127 hX hS x5)
  · refine tr_aload_n 0 hX dX9_best_72 rfl rfl ?_
    refine tr_iload 6 hX dX9_best_73 rfl ?_
    refine tr_callV0I (st := []) 1 hX hS dX9_best_75 (ok_X9_hoursOf x6) sh_161 (by decide) rfl (Nat.le_of_ble_eq_true rfl) k_27_11 k_27_12 k_27_13 k_1_5 k_27_14 hy_X9_hoursOf rfl rfl (Nat.le_of_ble_eq_true rfl) rfl (fun v2 => ?_)
    refine tr_iload_n 2 hX dX9_best_78 rfl rfl ?_
    refine tr_ic_gt 92 hX dX9_best_79 (by decide) (fun c4 => ?_) (fun c4 => ?_)
    · refine tr_iconst 0 hX dX9_best_92 (by decide) ?_
      exact tr_sub [0, 1, 2, 3, 4, 5, 6] rfl (t_X9_best_93 hX hS s65 x1 x2 x3 x4 x5 x6 0 hs65)
    · refine tr_aload_n 0 hX dX9_best_82 rfl rfl ?_
      refine tr_iload_n 1 hX dX9_best_83 rfl rfl ?_
      refine tr_iload 6 hX dX9_best_84 rfl ?_
      refine tr_callV0I (st := []) 2 hX hS dX9_best_86 (ok_X9_farOf x1 x6) sh_161 (by decide) rfl (Nat.le_of_ble_eq_true rfl) k_26_8 k_26_9 k_26_10 k_1_5 k_26_11 hy_X9_farOf rfl rfl (Nat.le_of_ble_eq_true rfl) rfl (fun v3 => ?_)
      refine tr_goto 93 hX dX9_best_89 (by decide) ?_
      exact tr_sub [0, 1, 2, 3, 4, 5, 6] rfl (t_X9_best_93 hX hS s65 x1 x2 x3 x4 x5 x6 v3 hs65)
def f_X9_best (x1 : Int32) (x2 : Int32) (x3 : Int32) : M Int32 :=
  bnd (f_X9_isVerse x1) (fun v1 => if v1 = 0 then (f_X9_best_29) else (bnd (f_X9_in x2.toInt64 0 495) (fun v2 => if v2 = 0 then (f_X9_best_29) else (bnd (f_X9_in x3.toInt64 0 1) (fun v3 => if v3 = 0 then (f_X9_best_29) else (aI 167 18 x1 (fun v4 => if v4 = 0 then (rt (-2)) else (aI 163 2 0 (fun v6 => if 2 ≤ v6 then (fix3 FU (f_X9_best_65 x1 x2 x3) 0 0 1) else (rt (-4)))))))))))
set_option maxRecDepth 10000 in
set_option maxHeartbeats 4000000 in
theorem t_X9_best_0 {X : Cx} (hX : Good X RX9 cX9_best ((some .int))) (hS : Sta X 6 151 8) (x1 : Int32) (x2 : Int32) (x3 : Int32) : Tr X eI 0 0 0 [(0, .ref (cxAd X 161)), (1, .int x1), (2, .int x2), (3, .int x3)] [] (f_X9_best x1 x2 x3) := by
  unfold f_X9_best
  refine tr_iload_n 1 hX dX9_best_0 rfl rfl ?_
  refine tr_callS0I (st := []) 1 hX hS dX9_best_1 (ok_X9_isVerse x1) k_13_12 k_13_13 k_1_5 k_13_14 hy_X9_isVerse.2 rfl rfl (Nat.le_of_ble_eq_true rfl) rfl (fun v1 => ?_)
  refine tr_if_eq 29 hX dX9_best_4 (by decide) (fun c12 => ?_) (fun c12 => ?_)
  · exact tr_sub [] rfl (t_X9_best_29 hX hS)
  · refine tr_iload_n 2 hX dX9_best_7 rfl rfl ?_
    refine tr_i2l hX dX9_best_8 ?_
    refine tr_lconst 0 hX dX9_best_9 (by decide) ?_
    refine tr_ldc2 hX dX9_best_10 k_27_10 ?_
    refine tr_callS0I (st := []) 3 hX hS dX9_best_13 (ok_X9_in x2.toInt64 0 495) k_8_8 k_8_9 k_1_5 k_8_10 hy_X9_in.2 rfl rfl (Nat.le_of_ble_eq_true rfl) rfl (fun v2 => ?_)
    refine tr_if_eq 29 hX dX9_best_16 (by decide) (fun c11 => ?_) (fun c11 => ?_)
    · exact tr_sub [] rfl (t_X9_best_29 hX hS)
    · refine tr_iload_n 3 hX dX9_best_19 rfl rfl ?_
      refine tr_i2l hX dX9_best_20 ?_
      refine tr_lconst 0 hX dX9_best_21 (by decide) ?_
      refine tr_lconst 1 hX dX9_best_22 (by decide) ?_
      refine tr_callS0I (st := []) 3 hX hS dX9_best_23 (ok_X9_in x3.toInt64 0 1) k_8_8 k_8_9 k_1_5 k_8_10 hy_X9_in.2 rfl rfl (Nat.le_of_ble_eq_true rfl) rfl (fun v3 => ?_)
      refine tr_if_ne 31 hX dX9_best_26 (by decide) (fun c10 => ?_) (fun c10 => ?_)
      · exact tr_sub [] rfl (t_X9_best_29 hX hS)
      · refine tr_aload_n 0 hX dX9_best_31 rfl rfl ?_
        refine tr_getF hX dX9_best_32 sh_161 (by decide) rfl inlX9 (by decide) rfl (hS.g (Nat.le_of_ble_eq_true rfl)) cr_161_6 k_6_16 mq_161 ?_
        refine tr_iload_n 1 hX dX9_best_35 rfl rfl ?_
        refine tr_iald hX dX9_best_36 sh_167 (hS.e (Nat.le_of_ble_eq_true rfl)) (fun hb5 v4 => ?_)
        refine tr_if_ne 43 hX dX9_best_37 (by decide) (fun c9 => ?_) (fun c9 => ?_)
        · refine tr_bipush (-2) hX dX9_best_40 (by decide) ?_
          exact tr_iret0 hX hS dX9_best_42
        · refine tr_aload_n 0 hX dX9_best_43 rfl rfl ?_
          refine tr_getF hX dX9_best_44 sh_161 (by decide) rfl inlX9 (by decide) rfl (hS.g (Nat.le_of_ble_eq_true rfl)) cr_161_2 k_6_12 mq_161 ?_
          refine tr_iconst 0 hX dX9_best_47 (by decide) ?_
          refine tr_iald hX dX9_best_48 sh_163 (hS.e (Nat.le_of_ble_eq_true rfl)) (fun hb7 v6 => ?_)
          refine tr_iconst 2 hX dX9_best_49 (by decide) ?_
          refine tr_ic_ge 56 hX dX9_best_50 (by decide) (fun c8 => ?_) (fun c8 => ?_)
          · refine tr_iconst 0 hX dX9_best_56 (by decide) ?_
            refine tr_istore hX dX9_best_57 (hS.n (by decide)) rfl ?_
            refine tr_iconst 0 hX dX9_best_59 (by decide) ?_
            refine tr_istore hX dX9_best_60 (hS.n (by decide)) rfl ?_
            refine tr_iconst 1 hX dX9_best_62 (by decide) ?_
            refine tr_istore hX dX9_best_63 (hS.n (by decide)) rfl ?_
            exact tr_sub [3, 4, 5, 6, 2, 1, 0] rfl (tr_fix3 (lvf := fun x4 x5 x6 => [(0, .ref (cxAd X 161)), (1, .int x1), (2, .int x2), (3, .int x3), (4, .int x4), (5, .int x5), (6, .int x6)]) (t_X9_best_65 hX hS x1 x2 x3) FU 0 0 1)
          · refine tr_bipush (-4) hX dX9_best_53 (by decide) ?_
            exact tr_iret0 hX hS dX9_best_55
theorem ok_X9_best {l : Launch} {E : Ev} (x1 : Int32) (x2 : Int32) (x3 : Int32)  : Ok l E Gall yX9_best cX9_best 8 ((some .int)) (rmz 6 151) eI [.ref (E.2.1 161), .int x1, .int x2, .int x3] (f_X9_best x1 x2 x3) := by
  refine ok_of0 (by decide) (Nat.le_of_ble_eq_true rfl) (fun X hX hV hS => ?_)
  subst hV
  exact t_X9_best_0 hX hS x1 x2 x3
def f_X9_showsBy_105 (s6 : Int32 → Int32 → M Int32) (x1 : Int32) (x2 : Int32) (x3 : Int32) (x5 : Int32) (p0 : Int32) (p1 : Int32) : M Int32 :=
  nm ((p1 ||| p0)) (fun v1 => s6 v1 (x5 + 1))
set_option maxRecDepth 10000 in
set_option maxHeartbeats 4000000 in
theorem t_X9_showsBy_105 {X : Cx} (hX : Good X RX9 cX9_showsBy ((some .int))) (hS : Sta X 5 111 9) (s6 : Int32 → Int32 → M Int32) (x1 : Int32) (x2 : Int32) (x3 : Int32) (x5 : Int32) (p0 : Int32) (p1 : Int32) (hs6 : ∀ x4 : Int32, ∀ x5 : Int32, Tr X eI 0 0 6 [(0, .ref (cxAd X 161)), (1, .int x1), (2, .int x2), (3, .int x3), (4, .int x4), (5, .int x5)] [] (s6 x4 x5)) : Tr X eI 0 0 105 [(0, .ref (cxAd X 161)), (1, .int x1), (2, .int x2), (3, .int x3), (5, .int x5)] [.int p0, .int p1] (f_X9_showsBy_105 s6 x1 x2 x3 x5 p0 p1) := by
  unfold f_X9_showsBy_105
  refine tr_ior hX dX9_showsBy_105 ?_
  refine tr_nm (fun v1 ev1 => ?_)
  refine tr_istore hX dX9_showsBy_106 (hS.n (by decide)) rfl ?_
  refine tr_iinc (x5 + 1) 5 hX dX9_showsBy_108 rfl (congrArg (fun z => x5 + z) (by decide)) (hS.n (by decide)) rfl ?_
  refine tr_goto 6 hX dX9_showsBy_111 (by decide) ?_
  exact tr_sub [2, 3, 4, 5, 1, 0] rfl (hs6 v1 (x5 + 1))
def f_X9_showsBy_82 (s6 : Int32 → Int32 → M Int32) (s32 : Int32 → Int32 → M Int32) (x1 : Int32) (x2 : Int32) (x3 : Int32) (x4 : Int32) (x5 : Int32) (x7 : Int32) (p0 : Int32) : M Int32 :=
  s32 p0 (x7 + 1)
set_option maxRecDepth 10000 in
set_option maxHeartbeats 4000000 in
theorem t_X9_showsBy_82 {X : Cx} (hX : Good X RX9 cX9_showsBy ((some .int))) (hS : Sta X 5 111 9) (s6 : Int32 → Int32 → M Int32) (s32 : Int32 → Int32 → M Int32) (x1 : Int32) (x2 : Int32) (x3 : Int32) (x4 : Int32) (x5 : Int32) (x7 : Int32) (p0 : Int32) (hs6 : ∀ x4 : Int32, ∀ x5 : Int32, Tr X eI 0 0 6 [(0, .ref (cxAd X 161)), (1, .int x1), (2, .int x2), (3, .int x3), (4, .int x4), (5, .int x5)] [] (s6 x4 x5)) (hs32 : ∀ x6 : Int32, ∀ x7 : Int32, Tr X eI 0 0 32 [(0, .ref (cxAd X 161)), (1, .int x1), (2, .int x2), (3, .int x3), (4, .int x4), (5, .int x5), (6, .int x6), (7, .int x7)] [] (s32 x6 x7)) : Tr X eI 0 0 82 [(0, .ref (cxAd X 161)), (1, .int x1), (2, .int x2), (3, .int x3), (4, .int x4), (5, .int x5), (7, .int x7)] [.int p0] (f_X9_showsBy_82 s6 s32 x1 x2 x3 x4 x5 x7 p0) := by
  unfold f_X9_showsBy_82
  refine tr_istore hX dX9_showsBy_82 (hS.n (by decide)) rfl ?_
  refine tr_iinc (x7 + 1) 7 hX dX9_showsBy_84 rfl (congrArg (fun z => x7 + z) (by decide)) (hS.n (by decide)) rfl ?_
  refine tr_goto 32 hX dX9_showsBy_87 (by decide) ?_
  exact tr_sub [2, 3, 4, 5, 6, 7, 1, 0] rfl (hs32 p0 (x7 + 1))
def f_X9_showsBy_77 (s6 : Int32 → Int32 → M Int32) (s32 : Int32 → Int32 → M Int32) (x1 : Int32) (x2 : Int32) (x3 : Int32) (x4 : Int32) (x5 : Int32) (x7 : Int32) : M Int32 :=
  f_X9_showsBy_82 s6 s32 x1 x2 x3 x4 x5 x7 1
set_option maxRecDepth 10000 in
set_option maxHeartbeats 4000000 in
theorem t_X9_showsBy_77 {X : Cx} (hX : Good X RX9 cX9_showsBy ((some .int))) (hS : Sta X 5 111 9) (s6 : Int32 → Int32 → M Int32) (s32 : Int32 → Int32 → M Int32) (x1 : Int32) (x2 : Int32) (x3 : Int32) (x4 : Int32) (x5 : Int32) (x7 : Int32) (hs6 : ∀ x4 : Int32, ∀ x5 : Int32, Tr X eI 0 0 6 [(0, .ref (cxAd X 161)), (1, .int x1), (2, .int x2), (3, .int x3), (4, .int x4), (5, .int x5)] [] (s6 x4 x5)) (hs32 : ∀ x6 : Int32, ∀ x7 : Int32, Tr X eI 0 0 32 [(0, .ref (cxAd X 161)), (1, .int x1), (2, .int x2), (3, .int x3), (4, .int x4), (5, .int x5), (6, .int x6), (7, .int x7)] [] (s32 x6 x7)) : Tr X eI 0 0 77 [(0, .ref (cxAd X 161)), (1, .int x1), (2, .int x2), (3, .int x3), (4, .int x4), (5, .int x5), (7, .int x7)] [] (f_X9_showsBy_77 s6 s32 x1 x2 x3 x4 x5 x7) := by
  unfold f_X9_showsBy_77
  refine tr_iconst 1 hX dX9_showsBy_77 (by decide) ?_
  refine tr_goto 82 hX dX9_showsBy_78 (by decide) ?_
  exact tr_sub [0, 1, 2, 3, 4, 5, 6] rfl (t_X9_showsBy_82 hX hS s6 s32 x1 x2 x3 x4 x5 x7 1 hs6 hs32)
def f_X9_showsBy_32 (s6 : Int32 → Int32 → M Int32) (x1 : Int32) (x2 : Int32) (x3 : Int32) (x4 : Int32) (x5 : Int32) (s32 : Int32 → Int32 → M Int32) (x6 : Int32) (x7 : Int32) : M Int32 :=
  rI 161 19 (fun v1 => if v1 ≤ x7 then (if x6 = 0 then (f_X9_showsBy_105 s6 x1 x2 x3 x5 0 x4) else (f_X9_showsBy_105 s6 x1 x2 x3 x5 (1 <<< (x5 &&& 31)) x4)) else (bnd (f_X9_layRow x1) (fun _ => bnd (f_X9_tokenAt x7) (fun v4 => sI 181 8 x2 x3 (if x6 = 0 then (bnd (f_X9_tokenAt x7) (fun v5 => if v5 = v4 then (f_X9_showsBy_82 s6 s32 x1 x2 x3 x4 x5 x7 0) else (f_X9_showsBy_77 s6 s32 x1 x2 x3 x4 x5 x7))) else (f_X9_showsBy_77 s6 s32 x1 x2 x3 x4 x5 x7))))))
set_option maxRecDepth 10000 in
set_option maxHeartbeats 4000000 in
theorem t_X9_showsBy_32 {X : Cx} (hX : Good X RX9 cX9_showsBy ((some .int))) (hS : Sta X 5 111 9) (s6 : Int32 → Int32 → M Int32) (x1 : Int32) (x2 : Int32) (x3 : Int32) (x4 : Int32) (x5 : Int32) (hs6 : ∀ x4 : Int32, ∀ x5 : Int32, Tr X eI 0 0 6 [(0, .ref (cxAd X 161)), (1, .int x1), (2, .int x2), (3, .int x3), (4, .int x4), (5, .int x5)] [] (s6 x4 x5)) : ∀ s32 : Int32 → Int32 → M Int32, (∀ x6 : Int32, ∀ x7 : Int32, Tr X eI 0 0 32 [(0, .ref (cxAd X 161)), (1, .int x1), (2, .int x2), (3, .int x3), (4, .int x4), (5, .int x5), (6, .int x6), (7, .int x7)] [] (s32 x6 x7)) → ∀ x6 : Int32, ∀ x7 : Int32, Tr X eI 0 0 32 [(0, .ref (cxAd X 161)), (1, .int x1), (2, .int x2), (3, .int x3), (4, .int x4), (5, .int x5), (6, .int x6), (7, .int x7)] [] (f_X9_showsBy_32 s6 x1 x2 x3 x4 x5 s32 x6 x7) := by
  intro s32 hs32 x6 x7
  unfold f_X9_showsBy_32
  refine tr_iload 7 hX dX9_showsBy_32 rfl ?_
  refine tr_aload_n 0 hX dX9_showsBy_34 rfl rfl ?_
  refine tr_getI hX dX9_showsBy_35 sh_161 (by decide) rfl inlX9 (by decide) rfl (hS.e (Nat.le_of_ble_eq_true rfl)) k_16_8 (fun v1 => ?_)
  refine tr_ic_ge 90 hX dX9_showsBy_38 (by decide) (fun c8 => ?_) (fun c8 => ?_)
  · refine tr_iload 4 hX dX9_showsBy_90 rfl ?_
    refine tr_iload 6 hX dX9_showsBy_92 rfl ?_
    refine tr_if_eq 104 hX dX9_showsBy_94 (by decide) (fun c2 => ?_) (fun c2 => ?_)
    · refine tr_iconst 0 hX dX9_showsBy_104 (by decide) ?_
      exact tr_sub [0, 1, 2, 3, 5] rfl (t_X9_showsBy_105 hX hS s6 x1 x2 x3 x5 0 x4 hs6)
    · refine tr_iconst 1 hX dX9_showsBy_97 (by decide) ?_
      refine tr_iload 5 hX dX9_showsBy_98 rfl ?_
      refine tr_ishl hX dX9_showsBy_100 ?_
      refine tr_goto 105 hX dX9_showsBy_101 (by decide) ?_
      exact tr_sub [0, 1, 2, 3, 5] rfl (t_X9_showsBy_105 hX hS s6 x1 x2 x3 x5 (1 <<< (x5 &&& 31)) x4 hs6)
  · refine tr_aload_n 0 hX dX9_showsBy_41 rfl rfl ?_
    refine tr_iload_n 1 hX dX9_showsBy_42 rfl rfl ?_
    refine tr_callV0U (st := []) 1 hX hS dX9_showsBy_43 (ok_X9_layRow x1) sh_161 (by decide) rfl (Nat.le_of_ble_eq_true rfl) k_17_19 k_17_20 k_17_21 k_1_5 k_17_22 hy_X9_layRow rfl rfl (Nat.le_of_ble_eq_true rfl) rfl (fun _ => ?_)
    refine tr_aload_n 0 hX dX9_showsBy_46 rfl rfl ?_
    refine tr_iload 7 hX dX9_showsBy_47 rfl ?_
    refine tr_callV0I (st := []) 1 hX hS dX9_showsBy_49 (ok_X9_tokenAt x7) sh_161 (by decide) rfl (Nat.le_of_ble_eq_true rfl) k_17_23 k_18_0 k_18_1 k_1_5 k_18_2 hy_X9_tokenAt rfl rfl (Nat.le_of_ble_eq_true rfl) rfl (fun v4 => ?_)
    refine tr_istore hX dX9_showsBy_52 (hS.n (by decide)) rfl ?_
    refine tr_aload_n 1 hX dX9_showsBy_54 rfl rfl ?_
    refine tr_getF hX dX9_showsBy_55 sh_161 (by decide) rfl inlX9 (by decide) rfl (hS.g (Nat.le_of_ble_eq_true rfl)) cr_161_26 k_7_6 mq_161 ?_
    refine tr_iload_n 3 hX dX9_showsBy_58 rfl rfl ?_
    refine tr_iload_n 4 hX dX9_showsBy_59 rfl rfl ?_
    refine tr_iast hX dX9_showsBy_60 sh_181 (hS.e (Nat.le_of_ble_eq_true rfl)) (fun _ => ?_)
    refine tr_iload 7 hX dX9_showsBy_61 rfl ?_
    refine tr_if_ne 77 hX dX9_showsBy_63 (by decide) (fun c7 => ?_) (fun c7 => ?_)
    · refine tr_aload_n 1 hX dX9_showsBy_66 rfl rfl ?_
      refine tr_iload 8 hX dX9_showsBy_67 rfl ?_
      refine tr_callV0I (st := []) 1 hX hS dX9_showsBy_69 (ok_X9_tokenAt x7) sh_161 (by decide) rfl (Nat.le_of_ble_eq_true rfl) k_17_23 k_18_0 k_18_1 k_1_5 k_18_2 hy_X9_tokenAt rfl rfl (Nat.le_of_ble_eq_true rfl) rfl (fun v5 => ?_)
      refine tr_iload 0 hX dX9_showsBy_72 rfl ?_
      refine tr_ic_eq 81 hX dX9_showsBy_74 (by decide) (fun c6 => ?_) (fun c6 => ?_)
      · refine tr_iconst 0 hX dX9_showsBy_81 (by decide) ?_
        exact tr_sub [1, 2, 3, 4, 5, 6, 8] rfl (t_X9_showsBy_82 hX hS s6 s32 x1 x2 x3 x4 x5 x7 0 hs6 hs32)
      · exact tr_sub [1, 2, 3, 4, 5, 6, 8] rfl (t_X9_showsBy_77 hX hS s6 s32 x1 x2 x3 x4 x5 x7 hs6 hs32)
    · exact tr_sub [1, 2, 3, 4, 5, 6, 8] rfl (t_X9_showsBy_77 hX hS s6 s32 x1 x2 x3 x4 x5 x7 hs6 hs32)
def f_X9_showsBy_6 (x1 : Int32) (x2 : Int32) (x3 : Int32) (s6 : Int32 → Int32 → M Int32) (x4 : Int32) (x5 : Int32) : M Int32 :=
  if 5 ≤ x5 then (rt x4) else (aI 167 18 x1 (fun v1 => bnd (f_X9_layWays (1 <<< (x5 &&& 31)) v1) (fun _ => fix2 FU (f_X9_showsBy_32 s6 x1 x2 x3 x4 x5) 0 0)))
set_option maxRecDepth 10000 in
set_option maxHeartbeats 4000000 in
theorem t_X9_showsBy_6 {X : Cx} (hX : Good X RX9 cX9_showsBy ((some .int))) (hS : Sta X 5 111 9) (x1 : Int32) (x2 : Int32) (x3 : Int32) : ∀ s6 : Int32 → Int32 → M Int32, (∀ x4 : Int32, ∀ x5 : Int32, Tr X eI 0 0 6 [(0, .ref (cxAd X 161)), (1, .int x1), (2, .int x2), (3, .int x3), (4, .int x4), (5, .int x5)] [] (s6 x4 x5)) → ∀ x4 : Int32, ∀ x5 : Int32, Tr X eI 0 0 6 [(0, .ref (cxAd X 161)), (1, .int x1), (2, .int x2), (3, .int x3), (4, .int x4), (5, .int x5)] [] (f_X9_showsBy_6 x1 x2 x3 s6 x4 x5) := by
  intro s6 hs6 x4 x5
  unfold f_X9_showsBy_6
  refine tr_iload 5 hX dX9_showsBy_6 rfl ?_
  refine tr_iconst 5 hX dX9_showsBy_8 (by decide) ?_
  refine tr_ic_ge 114 hX dX9_showsBy_9 (by decide) (fun c4 => ?_) (fun c4 => ?_)
  · refine tr_iload 4 hX dX9_showsBy_114 rfl ?_
    exact tr_iret0 hX hS dX9_showsBy_116
  · refine tr_aload_n 0 hX dX9_showsBy_12 rfl rfl ?_
    refine tr_iconst 1 hX dX9_showsBy_13 (by decide) ?_
    refine tr_iload 5 hX dX9_showsBy_14 rfl ?_
    refine tr_ishl hX dX9_showsBy_16 ?_
    refine tr_aload_n 0 hX dX9_showsBy_17 rfl rfl ?_
    refine tr_getF hX dX9_showsBy_18 sh_161 (by decide) rfl inlX9 (by decide) rfl (hS.g (Nat.le_of_ble_eq_true rfl)) cr_161_6 k_6_16 mq_161 ?_
    refine tr_iload_n 1 hX dX9_showsBy_21 rfl rfl ?_
    refine tr_iald hX dX9_showsBy_22 sh_167 (hS.e (Nat.le_of_ble_eq_true rfl)) (fun hb2 v1 => ?_)
    refine tr_callV0U (st := []) 2 hX hS dX9_showsBy_23 (ok_X9_layWays (1 <<< (x5 &&& 31)) v1) sh_161 (by decide) rfl (Nat.le_of_ble_eq_true rfl) k_16_12 k_16_13 k_16_14 k_1_5 k_16_15 hy_X9_layWays rfl rfl (Nat.le_of_ble_eq_true rfl) rfl (fun _ => ?_)
    refine tr_iconst 0 hX dX9_showsBy_26 (by decide) ?_
    refine tr_istore hX dX9_showsBy_27 (hS.n (by decide)) rfl ?_
    refine tr_iconst 0 hX dX9_showsBy_29 (by decide) ?_
    refine tr_istore hX dX9_showsBy_30 (hS.n (by decide)) rfl ?_
    exact tr_sub [2, 3, 4, 5, 6, 7, 1, 0] rfl (tr_fix2 (lvf := fun x6 x7 => [(0, .ref (cxAd X 161)), (1, .int x1), (2, .int x2), (3, .int x3), (4, .int x4), (5, .int x5), (6, .int x6), (7, .int x7)]) (t_X9_showsBy_32 hX hS s6 x1 x2 x3 x4 x5 hs6) FU 0 0)
def f_X9_showsBy (x1 : Int32) (x2 : Int32) (x3 : Int32) : M Int32 :=
  fix2 FU (f_X9_showsBy_6 x1 x2 x3) 0 0
set_option maxRecDepth 10000 in
set_option maxHeartbeats 4000000 in
theorem t_X9_showsBy_0 {X : Cx} (hX : Good X RX9 cX9_showsBy ((some .int))) (hS : Sta X 5 111 9) (x1 : Int32) (x2 : Int32) (x3 : Int32) : Tr X eI 0 0 0 [(0, .ref (cxAd X 161)), (1, .int x1), (2, .int x2), (3, .int x3)] [] (f_X9_showsBy x1 x2 x3) := by
  unfold f_X9_showsBy
  refine tr_iconst 0 hX dX9_showsBy_0 (by decide) ?_
  refine tr_istore hX dX9_showsBy_1 (hS.n (by decide)) rfl ?_
  refine tr_iconst 0 hX dX9_showsBy_3 (by decide) ?_
  refine tr_istore hX dX9_showsBy_4 (hS.n (by decide)) rfl ?_
  exact tr_sub [2, 3, 4, 5, 1, 0] rfl (tr_fix2 (lvf := fun x4 x5 => [(0, .ref (cxAd X 161)), (1, .int x1), (2, .int x2), (3, .int x3), (4, .int x4), (5, .int x5)]) (t_X9_showsBy_6 hX hS x1 x2 x3) FU 0 0)
theorem ok_X9_showsBy {l : Launch} {E : Ev} (x1 : Int32) (x2 : Int32) (x3 : Int32)  : Ok l E Gall yX9_showsBy cX9_showsBy 9 ((some .int)) (rmz 5 111) eI [.ref (E.2.1 161), .int x1, .int x2, .int x3] (f_X9_showsBy x1 x2 x3) := by
  refine ok_of0 (by decide) (Nat.le_of_ble_eq_true rfl) (fun X hX hV hS => ?_)
  subst hV
  exact t_X9_showsBy_0 hX hS x1 x2 x3
def f_X9_isSlip_30 (p0 : Int32) : M Int32 :=
  gd (p0 = 0 ∨ p0 = 1) (rt p0)
set_option maxRecDepth 10000 in
set_option maxHeartbeats 4000000 in
theorem t_X9_isSlip_30 {X : Cx} (hX : Good X RX9 cX9_isSlip ((some .boolean))) (hS : Sta X 0 0 4) (p0 : Int32) : Tr X eI 0 0 30 [] [.int p0] (f_X9_isSlip_30 p0) := by
  unfold f_X9_isSlip_30
  exact tr_zret0 hX hS dX9_isSlip_30
def f_X9_isSlip_29  : M Int32 :=
  f_X9_isSlip_30 0
set_option maxRecDepth 10000 in
set_option maxHeartbeats 4000000 in
theorem t_X9_isSlip_29 {X : Cx} (hX : Good X RX9 cX9_isSlip ((some .boolean))) (hS : Sta X 0 0 4) : Tr X eI 0 0 29 [] [] (f_X9_isSlip_29) := by
  unfold f_X9_isSlip_29
  refine tr_iconst 0 hX dX9_isSlip_29 (by decide) ?_
  exact tr_sub [] rfl (t_X9_isSlip_30 hX hS 0)
def f_X9_isSlip (x1 : Int32) (x2 : Int32) (x3 : Int32) : M Int32 :=
  aI 167 18 x1 (fun v1 => if v1 ≤ x2 then (f_X9_isSlip_29) else (aI 168 144 ((8 * x1) + x2) (fun v3 => if v3 = x3 then (f_X9_isSlip_29) else (f_X9_isSlip_30 1))))
set_option maxRecDepth 10000 in
set_option maxHeartbeats 4000000 in
theorem t_X9_isSlip_0 {X : Cx} (hX : Good X RX9 cX9_isSlip ((some .boolean))) (hS : Sta X 0 0 4) (x1 : Int32) (x2 : Int32) (x3 : Int32) : Tr X eI 0 0 0 [(0, .ref (cxAd X 161)), (1, .int x1), (2, .int x2), (3, .int x3)] [] (f_X9_isSlip x1 x2 x3) := by
  unfold f_X9_isSlip
  refine tr_iload_n 2 hX dX9_isSlip_0 rfl rfl ?_
  refine tr_aload_n 0 hX dX9_isSlip_1 rfl rfl ?_
  refine tr_getF hX dX9_isSlip_2 sh_161 (by decide) rfl inlX9 (by decide) rfl (hS.g (Nat.le_of_ble_eq_true rfl)) cr_161_6 k_6_16 mq_161 ?_
  refine tr_iload_n 1 hX dX9_isSlip_5 rfl rfl ?_
  refine tr_iald hX dX9_isSlip_6 sh_167 (hS.e (Nat.le_of_ble_eq_true rfl)) (fun hb2 v1 => ?_)
  refine tr_ic_ge 29 hX dX9_isSlip_7 (by decide) (fun c6 => ?_) (fun c6 => ?_)
  · exact tr_sub [] rfl (t_X9_isSlip_29 hX hS)
  · refine tr_aload_n 0 hX dX9_isSlip_10 rfl rfl ?_
    refine tr_getF hX dX9_isSlip_11 sh_161 (by decide) rfl inlX9 (by decide) rfl (hS.g (Nat.le_of_ble_eq_true rfl)) cr_161_7 k_6_17 mq_161 ?_
    refine tr_bipush 8 hX dX9_isSlip_14 (by decide) ?_
    refine tr_iload_n 1 hX dX9_isSlip_16 rfl rfl ?_
    refine tr_imul hX dX9_isSlip_17 ?_
    refine tr_iload_n 2 hX dX9_isSlip_18 rfl rfl ?_
    refine tr_iadd hX dX9_isSlip_19 ?_
    refine tr_iald hX dX9_isSlip_20 sh_168 (hS.e (Nat.le_of_ble_eq_true rfl)) (fun hb4 v3 => ?_)
    refine tr_iload_n 3 hX dX9_isSlip_21 rfl rfl ?_
    refine tr_ic_eq 29 hX dX9_isSlip_22 (by decide) (fun c5 => ?_) (fun c5 => ?_)
    · exact tr_sub [] rfl (t_X9_isSlip_29 hX hS)
    · refine tr_iconst 1 hX dX9_isSlip_25 (by decide) ?_
      refine tr_goto 30 hX dX9_isSlip_26 (by decide) ?_
      exact tr_sub [] rfl (t_X9_isSlip_30 hX hS 1)
theorem ok_X9_isSlip {l : Launch} {E : Ev} (x1 : Int32) (x2 : Int32) (x3 : Int32)  : Ok l E Gall yX9_isSlip cX9_isSlip 4 ((some .boolean)) (rmz 0 0) eI [.ref (E.2.1 161), .int x1, .int x2, .int x3] (f_X9_isSlip x1 x2 x3) := by
  refine ok_of0 (by decide) (Nat.le_of_ble_eq_true rfl) (fun X hX hV hS => ?_)
  subst hV
  exact t_X9_isSlip_0 hX hS x1 x2 x3
def f_X9_learnt_32  : M Int32 :=
  rt (-1)
set_option maxRecDepth 10000 in
set_option maxHeartbeats 4000000 in
theorem t_X9_learnt_32 {X : Cx} (hX : Good X RX9 cX9_learnt ((some .int))) (hS : Sta X 6 139 4) : Tr X eI 0 0 32 [] [] (f_X9_learnt_32) := by
  unfold f_X9_learnt_32
  refine tr_iconst (-1) hX dX9_learnt_32 (by decide) ?_
  exact tr_iret0 hX hS dX9_learnt_33
def f_X9_learnt (x1 : Int32) (x2 : Int32) (x3 : Int32) : M Int32 :=
  bnd (f_X9_isVerse x1) (fun v1 => if v1 = 0 then (f_X9_learnt_32) else (bnd (f_X9_isPlace x2) (fun v2 => if v2 = 0 then (f_X9_learnt_32) else (bnd (f_X9_isWord x3) (fun v3 => if v3 = 0 then (f_X9_learnt_32) else (bnd (f_X9_isSlip x1 x2 x3) (fun v4 => if v4 = 0 then (f_X9_learnt_32) else (bnd (f_X9_showsBy x1 x2 x3) (fun v5 => rt v5)))))))))
set_option maxRecDepth 10000 in
set_option maxHeartbeats 4000000 in
theorem t_X9_learnt_0 {X : Cx} (hX : Good X RX9 cX9_learnt ((some .int))) (hS : Sta X 6 139 4) (x1 : Int32) (x2 : Int32) (x3 : Int32) : Tr X eI 0 0 0 [(0, .ref (cxAd X 161)), (1, .int x1), (2, .int x2), (3, .int x3)] [] (f_X9_learnt x1 x2 x3) := by
  unfold f_X9_learnt
  refine tr_iload_n 1 hX dX9_learnt_0 rfl rfl ?_
  refine tr_callS0I (st := []) 1 hX hS dX9_learnt_1 (ok_X9_isVerse x1) k_13_12 k_13_13 k_1_5 k_13_14 hy_X9_isVerse.2 rfl rfl (Nat.le_of_ble_eq_true rfl) rfl (fun v1 => ?_)
  refine tr_if_eq 32 hX dX9_learnt_4 (by decide) (fun c9 => ?_) (fun c9 => ?_)
  · exact tr_sub [] rfl (t_X9_learnt_32 hX hS)
  · refine tr_iload_n 2 hX dX9_learnt_7 rfl rfl ?_
    refine tr_callS0I (st := []) 1 hX hS dX9_learnt_8 (ok_X9_isPlace x2) k_14_12 k_14_13 k_1_5 k_14_14 hy_X9_isPlace.2 rfl rfl (Nat.le_of_ble_eq_true rfl) rfl (fun v2 => ?_)
    refine tr_if_eq 32 hX dX9_learnt_11 (by decide) (fun c8 => ?_) (fun c8 => ?_)
    · exact tr_sub [] rfl (t_X9_learnt_32 hX hS)
    · refine tr_aload_n 0 hX dX9_learnt_14 rfl rfl ?_
      refine tr_iload_n 3 hX dX9_learnt_15 rfl rfl ?_
      refine tr_callV0I (st := []) 1 hX hS dX9_learnt_16 (ok_X9_isWord x3) sh_161 (by decide) rfl (Nat.le_of_ble_eq_true rfl) k_13_16 k_13_17 k_13_18 k_1_5 k_13_19 hy_X9_isWord rfl rfl (Nat.le_of_ble_eq_true rfl) rfl (fun v3 => ?_)
      refine tr_if_eq 32 hX dX9_learnt_19 (by decide) (fun c7 => ?_) (fun c7 => ?_)
      · exact tr_sub [] rfl (t_X9_learnt_32 hX hS)
      · refine tr_aload_n 0 hX dX9_learnt_22 rfl rfl ?_
        refine tr_iload_n 1 hX dX9_learnt_23 rfl rfl ?_
        refine tr_iload_n 2 hX dX9_learnt_24 rfl rfl ?_
        refine tr_iload_n 3 hX dX9_learnt_25 rfl rfl ?_
        refine tr_callV0I (st := []) 3 hX hS dX9_learnt_26 (ok_X9_isSlip x1 x2 x3) sh_161 (by decide) rfl (Nat.le_of_ble_eq_true rfl) k_28_16 k_28_17 k_28_18 k_1_5 k_28_19 hy_X9_isSlip rfl rfl (Nat.le_of_ble_eq_true rfl) rfl (fun v4 => ?_)
        refine tr_if_ne 34 hX dX9_learnt_29 (by decide) (fun c6 => ?_) (fun c6 => ?_)
        · exact tr_sub [] rfl (t_X9_learnt_32 hX hS)
        · refine tr_aload_n 0 hX dX9_learnt_34 rfl rfl ?_
          refine tr_iload_n 1 hX dX9_learnt_35 rfl rfl ?_
          refine tr_iload_n 2 hX dX9_learnt_36 rfl rfl ?_
          refine tr_iload_n 3 hX dX9_learnt_37 rfl rfl ?_
          refine tr_callV0I (st := []) 3 hX hS dX9_learnt_38 (ok_X9_showsBy x1 x2 x3) sh_161 (by decide) rfl (Nat.le_of_ble_eq_true rfl) k_28_20 k_28_21 k_28_22 k_1_5 k_28_23 hy_X9_showsBy rfl rfl (Nat.le_of_ble_eq_true rfl) rfl (fun v5 => ?_)
          exact tr_iret0 hX hS dX9_learnt_41
theorem ok_X9_learnt {l : Launch} {E : Ev} (x1 : Int32) (x2 : Int32) (x3 : Int32)  : Ok l E Gall yX9_learnt cX9_learnt 4 ((some .int)) (rmz 6 139) eI [.ref (E.2.1 161), .int x1, .int x2, .int x3] (f_X9_learnt x1 x2 x3) := by
  refine ok_of0 (by decide) (Nat.le_of_ble_eq_true rfl) (fun X hX hV hS => ?_)
  subst hV
  exact t_X9_learnt_0 hX hS x1 x2 x3
def f_X9_slip_22  : M Int32 :=
  rt (-1)
set_option maxRecDepth 10000 in
set_option maxHeartbeats 4000000 in
theorem t_X9_slip_22 {X : Cx} (hX : Good X RX9 cX9_slip ((some .int))) (hS : Sta X 2 46 4) : Tr X eI 0 0 22 [] [] (f_X9_slip_22) := by
  unfold f_X9_slip_22
  refine tr_iconst (-1) hX dX9_slip_22 (by decide) ?_
  exact tr_iret0 hX hS dX9_slip_23
def f_X9_slip (x1 : Int32) (x2 : Int32) (x3 : Int32) : M Int32 :=
  bnd (f_X9_isVerse x1) (fun v1 => if v1 = 0 then (f_X9_slip_22) else (bnd (f_X9_isPlace x2) (fun v2 => if v2 = 0 then (f_X9_slip_22) else (bnd (f_X9_isWord x3) (fun v3 => if v3 = 0 then (f_X9_slip_22) else (rI 161 13 (fun v4 => if v4 = 20 then (rt (-3)) else (rI 161 13 (fun v5 => sI 173 60 (3 * v5) x1 (rI 161 13 (fun v6 => sI 173 60 ((3 * v6) + 1) x2 (rI 161 13 (fun v7 => sI 173 60 ((3 * v7) + 2) x3 (rI 161 13 (fun v8 => wI 161 13 (v8 + 1) (rI 161 13 (fun v9 => rt v9)))))))))))))))))
set_option maxRecDepth 10000 in
set_option maxHeartbeats 4000000 in
theorem t_X9_slip_0 {X : Cx} (hX : Good X RX9 cX9_slip ((some .int))) (hS : Sta X 2 46 4) (x1 : Int32) (x2 : Int32) (x3 : Int32) : Tr X eI 0 0 0 [(0, .ref (cxAd X 161)), (1, .int x1), (2, .int x2), (3, .int x3)] [] (f_X9_slip x1 x2 x3) := by
  unfold f_X9_slip
  refine tr_iload_n 1 hX dX9_slip_0 rfl rfl ?_
  refine tr_callS0I (st := []) 1 hX hS dX9_slip_1 (ok_X9_isVerse x1) k_13_12 k_13_13 k_1_5 k_13_14 hy_X9_isVerse.2 rfl rfl (Nat.le_of_ble_eq_true rfl) rfl (fun v1 => ?_)
  refine tr_if_eq 22 hX dX9_slip_4 (by decide) (fun c13 => ?_) (fun c13 => ?_)
  · exact tr_sub [] rfl (t_X9_slip_22 hX hS)
  · refine tr_iload_n 2 hX dX9_slip_7 rfl rfl ?_
    refine tr_callS0I (st := []) 1 hX hS dX9_slip_8 (ok_X9_isPlace x2) k_14_12 k_14_13 k_1_5 k_14_14 hy_X9_isPlace.2 rfl rfl (Nat.le_of_ble_eq_true rfl) rfl (fun v2 => ?_)
    refine tr_if_eq 22 hX dX9_slip_11 (by decide) (fun c12 => ?_) (fun c12 => ?_)
    · exact tr_sub [] rfl (t_X9_slip_22 hX hS)
    · refine tr_aload_n 0 hX dX9_slip_14 rfl rfl ?_
      refine tr_iload_n 3 hX dX9_slip_15 rfl rfl ?_
      refine tr_callV0I (st := []) 1 hX hS dX9_slip_16 (ok_X9_isWord x3) sh_161 (by decide) rfl (Nat.le_of_ble_eq_true rfl) k_13_16 k_13_17 k_13_18 k_1_5 k_13_19 hy_X9_isWord rfl rfl (Nat.le_of_ble_eq_true rfl) rfl (fun v3 => ?_)
      refine tr_if_ne 24 hX dX9_slip_19 (by decide) (fun c11 => ?_) (fun c11 => ?_)
      · exact tr_sub [] rfl (t_X9_slip_22 hX hS)
      · refine tr_aload_n 0 hX dX9_slip_24 rfl rfl ?_
        refine tr_getI hX dX9_slip_25 sh_161 (by decide) rfl inlX9 (by decide) rfl (hS.e (Nat.le_of_ble_eq_true rfl)) k_12_12 (fun v4 => ?_)
        refine tr_bipush 20 hX dX9_slip_28 (by decide) ?_
        refine tr_ic_ne 36 hX dX9_slip_30 (by decide) (fun c10 => ?_) (fun c10 => ?_)
        · refine tr_bipush (-3) hX dX9_slip_33 (by decide) ?_
          exact tr_iret0 hX hS dX9_slip_35
        · refine tr_aload_n 0 hX dX9_slip_36 rfl rfl ?_
          refine tr_getF hX dX9_slip_37 sh_161 (by decide) rfl inlX9 (by decide) rfl (hS.g (Nat.le_of_ble_eq_true rfl)) cr_161_14 k_6_22 mq_161 ?_
          refine tr_iconst 3 hX dX9_slip_40 (by decide) ?_
          refine tr_aload_n 0 hX dX9_slip_41 rfl rfl ?_
          refine tr_getI hX dX9_slip_42 sh_161 (by decide) rfl inlX9 (by decide) rfl (hS.e (Nat.le_of_ble_eq_true rfl)) k_12_12 (fun v5 => ?_)
          refine tr_imul hX dX9_slip_45 ?_
          refine tr_iload_n 1 hX dX9_slip_46 rfl rfl ?_
          refine tr_iast hX dX9_slip_47 sh_173 (hS.e (Nat.le_of_ble_eq_true rfl)) (fun _ => ?_)
          refine tr_aload_n 0 hX dX9_slip_48 rfl rfl ?_
          refine tr_getF hX dX9_slip_49 sh_161 (by decide) rfl inlX9 (by decide) rfl (hS.g (Nat.le_of_ble_eq_true rfl)) cr_161_14 k_6_22 mq_161 ?_
          refine tr_iconst 3 hX dX9_slip_52 (by decide) ?_
          refine tr_aload_n 0 hX dX9_slip_53 rfl rfl ?_
          refine tr_getI hX dX9_slip_54 sh_161 (by decide) rfl inlX9 (by decide) rfl (hS.e (Nat.le_of_ble_eq_true rfl)) k_12_12 (fun v6 => ?_)
          refine tr_imul hX dX9_slip_57 ?_
          refine tr_iconst 1 hX dX9_slip_58 (by decide) ?_
          refine tr_iadd hX dX9_slip_59 ?_
          refine tr_iload_n 2 hX dX9_slip_60 rfl rfl ?_
          refine tr_iast hX dX9_slip_61 sh_173 (hS.e (Nat.le_of_ble_eq_true rfl)) (fun _ => ?_)
          refine tr_aload_n 0 hX dX9_slip_62 rfl rfl ?_
          refine tr_getF hX dX9_slip_63 sh_161 (by decide) rfl inlX9 (by decide) rfl (hS.g (Nat.le_of_ble_eq_true rfl)) cr_161_14 k_6_22 mq_161 ?_
          refine tr_iconst 3 hX dX9_slip_66 (by decide) ?_
          refine tr_aload_n 0 hX dX9_slip_67 rfl rfl ?_
          refine tr_getI hX dX9_slip_68 sh_161 (by decide) rfl inlX9 (by decide) rfl (hS.e (Nat.le_of_ble_eq_true rfl)) k_12_12 (fun v7 => ?_)
          refine tr_imul hX dX9_slip_71 ?_
          refine tr_iconst 2 hX dX9_slip_72 (by decide) ?_
          refine tr_iadd hX dX9_slip_73 ?_
          refine tr_iload_n 3 hX dX9_slip_74 rfl rfl ?_
          refine tr_iast hX dX9_slip_75 sh_173 (hS.e (Nat.le_of_ble_eq_true rfl)) (fun _ => ?_)
          refine tr_aload_n 0 hX dX9_slip_76 rfl rfl ?_
          refine tr_dup hX dX9_slip_77 rfl ?_
          refine tr_getI hX dX9_slip_78 sh_161 (by decide) rfl inlX9 (by decide) rfl (hS.e (Nat.le_of_ble_eq_true rfl)) k_12_12 (fun v8 => ?_)
          refine tr_iconst 1 hX dX9_slip_81 (by decide) ?_
          refine tr_iadd hX dX9_slip_82 ?_
          refine tr_putI hX dX9_slip_83 sh_161 (by decide) rfl inlX9 tyX9 tyX9_ok nmX9 (by decide) rfl (hS.e (Nat.le_of_ble_eq_true rfl)) k_12_12 rfl rfl rfl rfl ?_
          refine tr_aload_n 0 hX dX9_slip_86 rfl rfl ?_
          refine tr_getI hX dX9_slip_87 sh_161 (by decide) rfl inlX9 (by decide) rfl (hS.e (Nat.le_of_ble_eq_true rfl)) k_12_12 (fun v9 => ?_)
          exact tr_iret0 hX hS dX9_slip_90
theorem ok_X9_slip {l : Launch} {E : Ev} (x1 : Int32) (x2 : Int32) (x3 : Int32)  : Ok l E Gall yX9_slip cX9_slip 4 ((some .int)) (rmz 2 46) eI [.ref (E.2.1 161), .int x1, .int x2, .int x3] (f_X9_slip x1 x2 x3) := by
  refine ok_of0 (by decide) (Nat.le_of_ble_eq_true rfl) (fun X hX hV hS => ?_)
  subst hV
  exact t_X9_slip_0 hX hS x1 x2 x3
def f_X9_noSlips  : M Int32 :=
  rI 161 13 (fun v1 => wI 161 13 0 (rt v1))
set_option maxRecDepth 10000 in
set_option maxHeartbeats 4000000 in
theorem t_X9_noSlips_0 {X : Cx} (hX : Good X RX9 cX9_noSlips ((some .int))) (hS : Sta X 0 0 2) : Tr X eI 0 0 0 [(0, .ref (cxAd X 161))] [] (f_X9_noSlips) := by
  unfold f_X9_noSlips
  refine tr_aload_n 0 hX dX9_noSlips_0 rfl rfl ?_
  refine tr_getI hX dX9_noSlips_1 sh_161 (by decide) rfl inlX9 (by decide) rfl (hS.e (Nat.le_of_ble_eq_true rfl)) k_12_12 (fun v1 => ?_)
  refine tr_istore_n hX dX9_noSlips_4 rfl (hS.n (by decide)) rfl ?_
  refine tr_aload_n 1 hX dX9_noSlips_5 rfl rfl ?_
  refine tr_iconst 0 hX dX9_noSlips_6 (by decide) ?_
  refine tr_putI hX dX9_noSlips_7 sh_161 (by decide) rfl inlX9 tyX9 tyX9_ok nmX9 (by decide) rfl (hS.e (Nat.le_of_ble_eq_true rfl)) k_12_12 rfl rfl rfl rfl ?_
  refine tr_iload_n 0 hX dX9_noSlips_10 rfl rfl ?_
  exact tr_iret0 hX hS dX9_noSlips_11
theorem ok_X9_noSlips {l : Launch} {E : Ev}   : Ok l E Gall yX9_noSlips cX9_noSlips 2 ((some .int)) (rmz 0 0) eI [.ref (E.2.1 161)] (f_X9_noSlips) := by
  refine ok_of0 (by decide) (Nat.le_of_ble_eq_true rfl) (fun X hX hV hS => ?_)
  subst hV
  exact t_X9_noSlips_0 hX hS 
def f_X9_isListed_47 (p0 : Int32) : M Int32 :=
  gd (p0 = 0 ∨ p0 = 1) (rt p0)
set_option maxRecDepth 10000 in
set_option maxHeartbeats 4000000 in
theorem t_X9_isListed_47 {X : Cx} (hX : Good X RX9 cX9_isListed ((some .boolean))) (hS : Sta X 0 0 3) (p0 : Int32) : Tr X eI 0 0 47 [] [.int p0] (f_X9_isListed_47 p0) := by
  unfold f_X9_isListed_47
  exact tr_zret0 hX hS dX9_isListed_47
def f_X9_isListed_42  : M Int32 :=
  f_X9_isListed_47 1
set_option maxRecDepth 10000 in
set_option maxHeartbeats 4000000 in
theorem t_X9_isListed_42 {X : Cx} (hX : Good X RX9 cX9_isListed ((some .boolean))) (hS : Sta X 0 0 3) : Tr X eI 0 0 42 [] [] (f_X9_isListed_42) := by
  unfold f_X9_isListed_42
  refine tr_iconst 1 hX dX9_isListed_42 (by decide) ?_
  refine tr_goto 47 hX dX9_isListed_43 (by decide) ?_
  exact tr_sub [] rfl (t_X9_isListed_47 hX hS 1)
def f_X9_isListed (x1 : Int32) (x2 : Int32) : M Int32 :=
  aI 164 96 (3 * x1) (fun v1 => aI 164 96 (3 * x2) (fun v3 => if v1 = v3 then (aI 164 96 ((3 * x1) + 1) (fun v5 => aI 164 96 ((3 * x2) + 1) (fun v7 => if v5 = v7 then (f_X9_isListed_47 0) else (f_X9_isListed_42)))) else (f_X9_isListed_42)))
set_option maxRecDepth 10000 in
set_option maxHeartbeats 4000000 in
theorem t_X9_isListed_0 {X : Cx} (hX : Good X RX9 cX9_isListed ((some .boolean))) (hS : Sta X 0 0 3) (x1 : Int32) (x2 : Int32) : Tr X eI 0 0 0 [(0, .ref (cxAd X 161)), (1, .int x1), (2, .int x2)] [] (f_X9_isListed x1 x2) := by
  unfold f_X9_isListed
  refine tr_aload_n 0 hX dX9_isListed_0 rfl rfl ?_
  refine tr_getF hX dX9_isListed_1 sh_161 (by decide) rfl inlX9 (by decide) rfl (hS.g (Nat.le_of_ble_eq_true rfl)) cr_161_3 k_6_13 mq_161 ?_
  refine tr_iconst 3 hX dX9_isListed_4 (by decide) ?_
  refine tr_iload_n 1 hX dX9_isListed_5 rfl rfl ?_
  refine tr_imul hX dX9_isListed_6 ?_
  refine tr_iald hX dX9_isListed_7 sh_164 (hS.e (Nat.le_of_ble_eq_true rfl)) (fun hb2 v1 => ?_)
  refine tr_aload_n 0 hX dX9_isListed_8 rfl rfl ?_
  refine tr_getF hX dX9_isListed_9 sh_161 (by decide) rfl inlX9 (by decide) rfl (hS.g (Nat.le_of_ble_eq_true rfl)) cr_161_3 k_6_13 mq_161 ?_
  refine tr_iconst 3 hX dX9_isListed_12 (by decide) ?_
  refine tr_iload_n 2 hX dX9_isListed_13 rfl rfl ?_
  refine tr_imul hX dX9_isListed_14 ?_
  refine tr_iald hX dX9_isListed_15 sh_164 (hS.e (Nat.le_of_ble_eq_true rfl)) (fun hb4 v3 => ?_)
  refine tr_ic_ne 42 hX dX9_isListed_16 (by decide) (fun c10 => ?_) (fun c10 => ?_)
  · refine tr_aload_n 0 hX dX9_isListed_19 rfl rfl ?_
    refine tr_getF hX dX9_isListed_20 sh_161 (by decide) rfl inlX9 (by decide) rfl (hS.g (Nat.le_of_ble_eq_true rfl)) cr_161_3 k_6_13 mq_161 ?_
    refine tr_iconst 3 hX dX9_isListed_23 (by decide) ?_
    refine tr_iload_n 1 hX dX9_isListed_24 rfl rfl ?_
    refine tr_imul hX dX9_isListed_25 ?_
    refine tr_iconst 1 hX dX9_isListed_26 (by decide) ?_
    refine tr_iadd hX dX9_isListed_27 ?_
    refine tr_iald hX dX9_isListed_28 sh_164 (hS.e (Nat.le_of_ble_eq_true rfl)) (fun hb6 v5 => ?_)
    refine tr_aload_n 0 hX dX9_isListed_29 rfl rfl ?_
    refine tr_getF hX dX9_isListed_30 sh_161 (by decide) rfl inlX9 (by decide) rfl (hS.g (Nat.le_of_ble_eq_true rfl)) cr_161_3 k_6_13 mq_161 ?_
    refine tr_iconst 3 hX dX9_isListed_33 (by decide) ?_
    refine tr_iload_n 2 hX dX9_isListed_34 rfl rfl ?_
    refine tr_imul hX dX9_isListed_35 ?_
    refine tr_iconst 1 hX dX9_isListed_36 (by decide) ?_
    refine tr_iadd hX dX9_isListed_37 ?_
    refine tr_iald hX dX9_isListed_38 sh_164 (hS.e (Nat.le_of_ble_eq_true rfl)) (fun hb8 v7 => ?_)
    refine tr_ic_eq 46 hX dX9_isListed_39 (by decide) (fun c9 => ?_) (fun c9 => ?_)
    · refine tr_iconst 0 hX dX9_isListed_46 (by decide) ?_
      exact tr_sub [] rfl (t_X9_isListed_47 hX hS 0)
    · exact tr_sub [] rfl (t_X9_isListed_42 hX hS)
  · exact tr_sub [] rfl (t_X9_isListed_42 hX hS)
theorem ok_X9_isListed {l : Launch} {E : Ev} (x1 : Int32) (x2 : Int32)  : Ok l E Gall yX9_isListed cX9_isListed 3 ((some .boolean)) (rmz 0 0) eI [.ref (E.2.1 161), .int x1, .int x2] (f_X9_isListed x1 x2) := by
  refine ok_of0 (by decide) (Nat.le_of_ble_eq_true rfl) (fun X hX hV hS => ?_)
  subst hV
  exact t_X9_isListed_0 hX hS x1 x2
def f_X9_fewestWays_93 (s5 : Int32 → Int32 → M Int32) (x2 : Int32) (p0 : Int32) : M Int32 :=
  s5 p0 (x2 + 1)
set_option maxRecDepth 10000 in
set_option maxHeartbeats 4000000 in
theorem t_X9_fewestWays_93 {X : Cx} (hX : Good X RX9 cX9_fewestWays ((some .int))) (hS : Sta X 1 22 5) (s5 : Int32 → Int32 → M Int32) (x2 : Int32) (p0 : Int32) (hs5 : ∀ x1 : Int32, ∀ x2 : Int32, Tr X eI 0 0 5 [(0, .ref (cxAd X 161)), (1, .int x1), (2, .int x2)] [] (s5 x1 x2)) : Tr X eI 0 0 93 [(0, .ref (cxAd X 161)), (2, .int x2)] [.int p0] (f_X9_fewestWays_93 s5 x2 p0) := by
  unfold f_X9_fewestWays_93
  refine tr_istore_n hX dX9_fewestWays_93 rfl (hS.n (by decide)) rfl ?_
  refine tr_iinc (x2 + 1) 2 hX dX9_fewestWays_94 rfl (congrArg (fun z => x2 + z) (by decide)) (hS.n (by decide)) rfl ?_
  refine tr_goto 5 hX dX9_fewestWays_97 (by decide) ?_
  exact tr_sub [2, 1, 0] rfl (hs5 p0 (x2 + 1))
def f_X9_fewestWays_84 (s5 : Int32 → Int32 → M Int32) (x1 : Int32) (x2 : Int32) (x3 : Int32) : M Int32 :=
  if x3 = 0 then (f_X9_fewestWays_93 s5 x2 x1) else (f_X9_fewestWays_93 s5 x2 x2)
set_option maxRecDepth 10000 in
set_option maxHeartbeats 4000000 in
theorem t_X9_fewestWays_84 {X : Cx} (hX : Good X RX9 cX9_fewestWays ((some .int))) (hS : Sta X 1 22 5) (s5 : Int32 → Int32 → M Int32) (x1 : Int32) (x2 : Int32) (x3 : Int32) (hs5 : ∀ x1 : Int32, ∀ x2 : Int32, Tr X eI 0 0 5 [(0, .ref (cxAd X 161)), (1, .int x1), (2, .int x2)] [] (s5 x1 x2)) : Tr X eI 0 0 84 [(0, .ref (cxAd X 161)), (1, .int x1), (2, .int x2), (3, .int x3)] [] (f_X9_fewestWays_84 s5 x1 x2 x3) := by
  unfold f_X9_fewestWays_84
  refine tr_iload_n 3 hX dX9_fewestWays_84 rfl rfl ?_
  refine tr_if_eq 92 hX dX9_fewestWays_85 (by decide) (fun c1 => ?_) (fun c1 => ?_)
  · refine tr_iload_n 1 hX dX9_fewestWays_92 rfl rfl ?_
    exact tr_sub [0, 2] rfl (t_X9_fewestWays_93 hX hS s5 x2 x1 hs5)
  · refine tr_iload_n 2 hX dX9_fewestWays_88 rfl rfl ?_
    refine tr_goto 93 hX dX9_fewestWays_89 (by decide) ?_
    exact tr_sub [0, 2] rfl (t_X9_fewestWays_93 hX hS s5 x2 x2 hs5)
def f_X9_fewestWays_77 (s5 : Int32 → Int32 → M Int32) (s37 : Int32 → Int32 → M Int32) (x1 : Int32) (x2 : Int32) (x4 : Int32) (p0 : Int32) : M Int32 :=
  s37 p0 (x4 + 1)
set_option maxRecDepth 10000 in
set_option maxHeartbeats 4000000 in
theorem t_X9_fewestWays_77 {X : Cx} (hX : Good X RX9 cX9_fewestWays ((some .int))) (hS : Sta X 1 22 5) (s5 : Int32 → Int32 → M Int32) (s37 : Int32 → Int32 → M Int32) (x1 : Int32) (x2 : Int32) (x4 : Int32) (p0 : Int32) (hs5 : ∀ x1 : Int32, ∀ x2 : Int32, Tr X eI 0 0 5 [(0, .ref (cxAd X 161)), (1, .int x1), (2, .int x2)] [] (s5 x1 x2)) (hs37 : ∀ x3 : Int32, ∀ x4 : Int32, Tr X eI 0 0 37 [(0, .ref (cxAd X 161)), (1, .int x1), (2, .int x2), (3, .int x3), (4, .int x4)] [] (s37 x3 x4)) : Tr X eI 0 0 77 [(0, .ref (cxAd X 161)), (1, .int x1), (2, .int x2), (4, .int x4)] [.int p0] (f_X9_fewestWays_77 s5 s37 x1 x2 x4 p0) := by
  unfold f_X9_fewestWays_77
  refine tr_istore_n hX dX9_fewestWays_77 rfl (hS.n (by decide)) rfl ?_
  refine tr_iinc (x4 + 1) 4 hX dX9_fewestWays_78 rfl (congrArg (fun z => x4 + z) (by decide)) (hS.n (by decide)) rfl ?_
  refine tr_goto 37 hX dX9_fewestWays_81 (by decide) ?_
  exact tr_sub [2, 3, 4, 1, 0] rfl (hs37 p0 (x4 + 1))
def f_X9_fewestWays_72 (s5 : Int32 → Int32 → M Int32) (s37 : Int32 → Int32 → M Int32) (x1 : Int32) (x2 : Int32) (x4 : Int32) : M Int32 :=
  f_X9_fewestWays_77 s5 s37 x1 x2 x4 1
set_option maxRecDepth 10000 in
set_option maxHeartbeats 4000000 in
theorem t_X9_fewestWays_72 {X : Cx} (hX : Good X RX9 cX9_fewestWays ((some .int))) (hS : Sta X 1 22 5) (s5 : Int32 → Int32 → M Int32) (s37 : Int32 → Int32 → M Int32) (x1 : Int32) (x2 : Int32) (x4 : Int32) (hs5 : ∀ x1 : Int32, ∀ x2 : Int32, Tr X eI 0 0 5 [(0, .ref (cxAd X 161)), (1, .int x1), (2, .int x2)] [] (s5 x1 x2)) (hs37 : ∀ x3 : Int32, ∀ x4 : Int32, Tr X eI 0 0 37 [(0, .ref (cxAd X 161)), (1, .int x1), (2, .int x2), (3, .int x3), (4, .int x4)] [] (s37 x3 x4)) : Tr X eI 0 0 72 [(0, .ref (cxAd X 161)), (1, .int x1), (2, .int x2), (4, .int x4)] [] (f_X9_fewestWays_72 s5 s37 x1 x2 x4) := by
  unfold f_X9_fewestWays_72
  refine tr_iconst 1 hX dX9_fewestWays_72 (by decide) ?_
  refine tr_goto 77 hX dX9_fewestWays_73 (by decide) ?_
  exact tr_sub [0, 1, 2, 3] rfl (t_X9_fewestWays_77 hX hS s5 s37 x1 x2 x4 1 hs5 hs37)
def f_X9_fewestWays_37 (s5 : Int32 → Int32 → M Int32) (x1 : Int32) (x2 : Int32) (s37 : Int32 → Int32 → M Int32) (x3 : Int32) (x4 : Int32) : M Int32 :=
  rI 161 13 (fun v1 => if v1 ≤ x4 then (f_X9_fewestWays_84 s5 x1 x2 x3) else (if x3 = 0 then (f_X9_fewestWays_84 s5 x1 x2 x3) else (aI 186 20 x4 (fun v2 => if v2 = 0 then (f_X9_fewestWays_72 s5 s37 x1 x2 x4) else (aI 186 20 x4 (fun v4 => if (v4 &&& x2) = 0 then (f_X9_fewestWays_77 s5 s37 x1 x2 x4 0) else (f_X9_fewestWays_72 s5 s37 x1 x2 x4)))))))
set_option maxRecDepth 10000 in
set_option maxHeartbeats 4000000 in
theorem t_X9_fewestWays_37 {X : Cx} (hX : Good X RX9 cX9_fewestWays ((some .int))) (hS : Sta X 1 22 5) (s5 : Int32 → Int32 → M Int32) (x1 : Int32) (x2 : Int32) (hs5 : ∀ x1 : Int32, ∀ x2 : Int32, Tr X eI 0 0 5 [(0, .ref (cxAd X 161)), (1, .int x1), (2, .int x2)] [] (s5 x1 x2)) : ∀ s37 : Int32 → Int32 → M Int32, (∀ x3 : Int32, ∀ x4 : Int32, Tr X eI 0 0 37 [(0, .ref (cxAd X 161)), (1, .int x1), (2, .int x2), (3, .int x3), (4, .int x4)] [] (s37 x3 x4)) → ∀ x3 : Int32, ∀ x4 : Int32, Tr X eI 0 0 37 [(0, .ref (cxAd X 161)), (1, .int x1), (2, .int x2), (3, .int x3), (4, .int x4)] [] (f_X9_fewestWays_37 s5 x1 x2 s37 x3 x4) := by
  intro s37 hs37 x3 x4
  unfold f_X9_fewestWays_37
  refine tr_iload 4 hX dX9_fewestWays_37 rfl ?_
  refine tr_aload_n 0 hX dX9_fewestWays_39 rfl rfl ?_
  refine tr_getI hX dX9_fewestWays_40 sh_161 (by decide) rfl inlX9 (by decide) rfl (hS.e (Nat.le_of_ble_eq_true rfl)) k_12_12 (fun v1 => ?_)
  refine tr_ic_ge 84 hX dX9_fewestWays_43 (by decide) (fun c9 => ?_) (fun c9 => ?_)
  · exact tr_sub [0, 1, 2, 3] rfl (t_X9_fewestWays_84 hX hS s5 x1 x2 x3 hs5)
  · refine tr_iload_n 3 hX dX9_fewestWays_46 rfl rfl ?_
    refine tr_if_eq 84 hX dX9_fewestWays_47 (by decide) (fun c8 => ?_) (fun c8 => ?_)
    · exact tr_sub [0, 1, 2, 3] rfl (t_X9_fewestWays_84 hX hS s5 x1 x2 x3 hs5)
    · refine tr_aload_n 0 hX dX9_fewestWays_50 rfl rfl ?_
      refine tr_getF hX dX9_fewestWays_51 sh_161 (by decide) rfl inlX9 (by decide) rfl (hS.g (Nat.le_of_ble_eq_true rfl)) cr_161_31 k_7_11 mq_161 ?_
      refine tr_iload 4 hX dX9_fewestWays_54 rfl ?_
      refine tr_iald hX dX9_fewestWays_56 sh_186 (hS.e (Nat.le_of_ble_eq_true rfl)) (fun hb3 v2 => ?_)
      refine tr_if_eq 72 hX dX9_fewestWays_57 (by decide) (fun c7 => ?_) (fun c7 => ?_)
      · exact tr_sub [0, 1, 2, 4] rfl (t_X9_fewestWays_72 hX hS s5 s37 x1 x2 x4 hs5 hs37)
      · refine tr_aload_n 0 hX dX9_fewestWays_60 rfl rfl ?_
        refine tr_getF hX dX9_fewestWays_61 sh_161 (by decide) rfl inlX9 (by decide) rfl (hS.g (Nat.le_of_ble_eq_true rfl)) cr_161_31 k_7_11 mq_161 ?_
        refine tr_iload 4 hX dX9_fewestWays_64 rfl ?_
        refine tr_iald hX dX9_fewestWays_66 sh_186 (hS.e (Nat.le_of_ble_eq_true rfl)) (fun hb5 v4 => ?_)
        refine tr_iload_n 2 hX dX9_fewestWays_67 rfl rfl ?_
        refine tr_iand hX dX9_fewestWays_68 ?_
        refine tr_if_eq 76 hX dX9_fewestWays_69 (by decide) (fun c6 => ?_) (fun c6 => ?_)
        · refine tr_iconst 0 hX dX9_fewestWays_76 (by decide) ?_
          exact tr_sub [0, 1, 2, 4] rfl (t_X9_fewestWays_77 hX hS s5 s37 x1 x2 x4 0 hs5 hs37)
        · exact tr_sub [0, 1, 2, 4] rfl (t_X9_fewestWays_72 hX hS s5 s37 x1 x2 x4 hs5 hs37)
def f_X9_fewestWays_33 (s5 : Int32 → Int32 → M Int32) (x1 : Int32) (x2 : Int32) (p0 : Int32) : M Int32 :=
  fix2 FU (f_X9_fewestWays_37 s5 x1 x2) p0 0
set_option maxRecDepth 10000 in
set_option maxHeartbeats 4000000 in
theorem t_X9_fewestWays_33 {X : Cx} (hX : Good X RX9 cX9_fewestWays ((some .int))) (hS : Sta X 1 22 5) (s5 : Int32 → Int32 → M Int32) (x1 : Int32) (x2 : Int32) (p0 : Int32) (hs5 : ∀ x1 : Int32, ∀ x2 : Int32, Tr X eI 0 0 5 [(0, .ref (cxAd X 161)), (1, .int x1), (2, .int x2)] [] (s5 x1 x2)) : Tr X eI 0 0 33 [(0, .ref (cxAd X 161)), (1, .int x1), (2, .int x2)] [.int p0] (f_X9_fewestWays_33 s5 x1 x2 p0) := by
  unfold f_X9_fewestWays_33
  refine tr_istore_n hX dX9_fewestWays_33 rfl (hS.n (by decide)) rfl ?_
  refine tr_iconst 0 hX dX9_fewestWays_34 (by decide) ?_
  refine tr_istore hX dX9_fewestWays_35 (hS.n (by decide)) rfl ?_
  exact tr_sub [2, 3, 4, 1, 0] rfl (tr_fix2 (lvf := fun x3 x4 => [(0, .ref (cxAd X 161)), (1, .int x1), (2, .int x2), (3, .int x3), (4, .int x4)]) (t_X9_fewestWays_37 hX hS s5 x1 x2 hs5) FU p0 0)
def f_X9_fewestWays_28 (s5 : Int32 → Int32 → M Int32) (x1 : Int32) (x2 : Int32) : M Int32 :=
  f_X9_fewestWays_33 s5 x1 x2 1
set_option maxRecDepth 10000 in
set_option maxHeartbeats 4000000 in
theorem t_X9_fewestWays_28 {X : Cx} (hX : Good X RX9 cX9_fewestWays ((some .int))) (hS : Sta X 1 22 5) (s5 : Int32 → Int32 → M Int32) (x1 : Int32) (x2 : Int32) (hs5 : ∀ x1 : Int32, ∀ x2 : Int32, Tr X eI 0 0 5 [(0, .ref (cxAd X 161)), (1, .int x1), (2, .int x2)] [] (s5 x1 x2)) : Tr X eI 0 0 28 [(0, .ref (cxAd X 161)), (1, .int x1), (2, .int x2)] [] (f_X9_fewestWays_28 s5 x1 x2) := by
  unfold f_X9_fewestWays_28
  refine tr_iconst 1 hX dX9_fewestWays_28 (by decide) ?_
  refine tr_goto 33 hX dX9_fewestWays_29 (by decide) ?_
  exact tr_sub [0, 1, 2] rfl (t_X9_fewestWays_33 hX hS s5 x1 x2 1 hs5)
def f_X9_fewestWays_5 (s5 : Int32 → Int32 → M Int32) (x1 : Int32) (x2 : Int32) : M Int32 :=
  if 32 ≤ x2 then (rt x1) else (if x1 = (-4) then (f_X9_fewestWays_28 s5 x1 x2) else (bnd (f_X9_bits x2) (fun v1 => bnd (f_X9_bits x1) (fun v2 => if v2 ≤ v1 then (f_X9_fewestWays_33 s5 x1 x2 0) else (f_X9_fewestWays_28 s5 x1 x2)))))
set_option maxRecDepth 10000 in
set_option maxHeartbeats 4000000 in
theorem t_X9_fewestWays_5 {X : Cx} (hX : Good X RX9 cX9_fewestWays ((some .int))) (hS : Sta X 1 22 5) : ∀ s5 : Int32 → Int32 → M Int32, (∀ x1 : Int32, ∀ x2 : Int32, Tr X eI 0 0 5 [(0, .ref (cxAd X 161)), (1, .int x1), (2, .int x2)] [] (s5 x1 x2)) → ∀ x1 : Int32, ∀ x2 : Int32, Tr X eI 0 0 5 [(0, .ref (cxAd X 161)), (1, .int x1), (2, .int x2)] [] (f_X9_fewestWays_5 s5 x1 x2) := by
  intro s5 hs5 x1 x2
  unfold f_X9_fewestWays_5
  refine tr_iload_n 2 hX dX9_fewestWays_5 rfl rfl ?_
  refine tr_bipush 32 hX dX9_fewestWays_6 (by decide) ?_
  refine tr_ic_ge 100 hX dX9_fewestWays_8 (by decide) (fun c5 => ?_) (fun c5 => ?_)
  · refine tr_iload_n 1 hX dX9_fewestWays_100 rfl rfl ?_
    exact tr_iret0 hX hS dX9_fewestWays_101
  · refine tr_iload_n 1 hX dX9_fewestWays_11 rfl rfl ?_
    refine tr_bipush (-4) hX dX9_fewestWays_12 (by decide) ?_
    refine tr_ic_eq 28 hX dX9_fewestWays_14 (by decide) (fun c4 => ?_) (fun c4 => ?_)
    · exact tr_sub [0, 1, 2] rfl (t_X9_fewestWays_28 hX hS s5 x1 x2 hs5)
    · refine tr_iload_n 2 hX dX9_fewestWays_17 rfl rfl ?_
      refine tr_callS0I (st := []) 1 hX hS dX9_fewestWays_18 (ok_X9_bits x2) k_32_9 k_32_10 k_1_5 k_32_11 hy_X9_bits.2 rfl rfl (Nat.le_of_ble_eq_true rfl) rfl (fun v1 => ?_)
      refine tr_iload_n 1 hX dX9_fewestWays_21 rfl rfl ?_
      refine tr_callS0I (st := [.int v1]) 1 hX hS dX9_fewestWays_22 (ok_X9_bits x1) k_32_9 k_32_10 k_1_5 k_32_11 hy_X9_bits.2 rfl rfl (Nat.le_of_ble_eq_true rfl) rfl (fun v2 => ?_)
      refine tr_ic_ge 32 hX dX9_fewestWays_25 (by decide) (fun c3 => ?_) (fun c3 => ?_)
      · refine tr_iconst 0 hX dX9_fewestWays_32 (by decide) ?_
        exact tr_sub [0, 1, 2] rfl (t_X9_fewestWays_33 hX hS s5 x1 x2 0 hs5)
      · exact tr_sub [0, 1, 2] rfl (t_X9_fewestWays_28 hX hS s5 x1 x2 hs5)
def f_X9_fewestWays  : M Int32 :=
  fix2 FU (f_X9_fewestWays_5) (-4) 0
set_option maxRecDepth 10000 in
set_option maxHeartbeats 4000000 in
theorem t_X9_fewestWays_0 {X : Cx} (hX : Good X RX9 cX9_fewestWays ((some .int))) (hS : Sta X 1 22 5) : Tr X eI 0 0 0 [(0, .ref (cxAd X 161))] [] (f_X9_fewestWays) := by
  unfold f_X9_fewestWays
  refine tr_bipush (-4) hX dX9_fewestWays_0 (by decide) ?_
  refine tr_istore_n hX dX9_fewestWays_2 rfl (hS.n (by decide)) rfl ?_
  refine tr_iconst 0 hX dX9_fewestWays_3 (by decide) ?_
  refine tr_istore_n hX dX9_fewestWays_4 rfl (hS.n (by decide)) rfl ?_
  exact tr_sub [2, 1, 0] rfl (tr_fix2 (lvf := fun x1 x2 => [(0, .ref (cxAd X 161)), (1, .int x1), (2, .int x2)]) (t_X9_fewestWays_5 hX hS) FU (-4) 0)
theorem ok_X9_fewestWays {l : Launch} {E : Ev}   : Ok l E Gall yX9_fewestWays cX9_fewestWays 5 ((some .int)) (rmz 1 22) eI [.ref (E.2.1 161)] (f_X9_fewestWays) := by
  refine ok_of0 (by decide) (Nat.le_of_ble_eq_true rfl) (fun X hX hV hS => ?_)
  subst hV
  exact t_X9_fewestWays_0 hX hS 
def f_X9_slips_231 (p0 : Int32) : M Int32 :=
  rt p0
set_option maxRecDepth 10000 in
set_option maxHeartbeats 4000000 in
theorem t_X9_slips_231 {X : Cx} (hX : Good X RX9 cX9_slips ((some .int))) (hS : Sta X 6 139 10) (p0 : Int32) : Tr X eI 0 0 231 [] [.int p0] (f_X9_slips_231 p0) := by
  unfold f_X9_slips_231
  exact tr_iret0 hX hS dX9_slips_231
def f_X9_slips_192 (s24 : Int32 → Int32 → Int32 → Int32 → M Int32) (x1 : Int32) (x2 : Int32) (x4 : Int32) (x5 : Int32) (p0 : Int32) (p1 : Int32) : M Int32 :=
  nm ((p1 + p0)) (fun v1 => s24 x2 v1 x4 (x5 + 1))
set_option maxRecDepth 10000 in
set_option maxHeartbeats 4000000 in
theorem t_X9_slips_192 {X : Cx} (hX : Good X RX9 cX9_slips ((some .int))) (hS : Sta X 6 139 10) (s24 : Int32 → Int32 → Int32 → Int32 → M Int32) (x1 : Int32) (x2 : Int32) (x4 : Int32) (x5 : Int32) (p0 : Int32) (p1 : Int32) (hs24 : ∀ x2 : Int32, ∀ x3 : Int32, ∀ x4 : Int32, ∀ x5 : Int32, Tr X eI 0 0 24 [(0, .ref (cxAd X 161)), (1, .int x1), (2, .int x2), (3, .int x3), (4, .int x4), (5, .int x5)] [] (s24 x2 x3 x4 x5)) : Tr X eI 0 0 192 [(0, .ref (cxAd X 161)), (1, .int x1), (2, .int x2), (4, .int x4), (5, .int x5)] [.int p0, .int p1] (f_X9_slips_192 s24 x1 x2 x4 x5 p0 p1) := by
  unfold f_X9_slips_192
  refine tr_iadd hX dX9_slips_192 ?_
  refine tr_nm (fun v1 ev1 => ?_)
  refine tr_istore_n hX dX9_slips_193 rfl (hS.n (by decide)) rfl ?_
  refine tr_iinc (x5 + 1) 5 hX dX9_slips_194 rfl (congrArg (fun z => x5 + z) (by decide)) (hS.n (by decide)) rfl ?_
  refine tr_goto 24 hX dX9_slips_197 (by decide) ?_
  exact tr_sub [2, 3, 4, 1, 5, 0] rfl (hs24 x2 v1 x4 (x5 + 1))
def f_X9_slips_191 (s24 : Int32 → Int32 → Int32 → Int32 → M Int32) (x1 : Int32) (x2 : Int32) (x4 : Int32) (x5 : Int32) (p0 : Int32) : M Int32 :=
  f_X9_slips_192 s24 x1 x2 x4 x5 0 p0
set_option maxRecDepth 10000 in
set_option maxHeartbeats 4000000 in
theorem t_X9_slips_191 {X : Cx} (hX : Good X RX9 cX9_slips ((some .int))) (hS : Sta X 6 139 10) (s24 : Int32 → Int32 → Int32 → Int32 → M Int32) (x1 : Int32) (x2 : Int32) (x4 : Int32) (x5 : Int32) (p0 : Int32) (hs24 : ∀ x2 : Int32, ∀ x3 : Int32, ∀ x4 : Int32, ∀ x5 : Int32, Tr X eI 0 0 24 [(0, .ref (cxAd X 161)), (1, .int x1), (2, .int x2), (3, .int x3), (4, .int x4), (5, .int x5)] [] (s24 x2 x3 x4 x5)) : Tr X eI 0 0 191 [(0, .ref (cxAd X 161)), (1, .int x1), (2, .int x2), (4, .int x4), (5, .int x5)] [.int p0] (f_X9_slips_191 s24 x1 x2 x4 x5 p0) := by
  unfold f_X9_slips_191
  refine tr_iconst 0 hX dX9_slips_191 (by decide) ?_
  exact tr_sub [0, 1, 2, 3, 4] rfl (t_X9_slips_192 hX hS s24 x1 x2 x4 x5 0 p0 hs24)
def f_X9_slips_157 (s24 : Int32 → Int32 → Int32 → Int32 → M Int32) (x1 : Int32) (x3 : Int32) (x4 : Int32) (x5 : Int32) (x6 : Int32) (x7 : Int32) (x8 : Int32) (x9 : Int32) (p0 : Int32) (p1 : Int32) : M Int32 :=
  nm ((p1 + p0)) (fun v1 => if x9 = 0 then (f_X9_slips_191 s24 x1 v1 x4 x5 x3) else (aI 168 144 ((8 * x6) + x7) (fun v2 => bnd (f_X9_isListed v2 x8) (fun v4 => if v4 = 0 then (f_X9_slips_191 s24 x1 v1 x4 x5 x3) else (f_X9_slips_192 s24 x1 v1 x4 x5 1 x3)))))
set_option maxRecDepth 10000 in
set_option maxHeartbeats 4000000 in
theorem t_X9_slips_157 {X : Cx} (hX : Good X RX9 cX9_slips ((some .int))) (hS : Sta X 6 139 10) (s24 : Int32 → Int32 → Int32 → Int32 → M Int32) (x1 : Int32) (x3 : Int32) (x4 : Int32) (x5 : Int32) (x6 : Int32) (x7 : Int32) (x8 : Int32) (x9 : Int32) (p0 : Int32) (p1 : Int32) (hs24 : ∀ x2 : Int32, ∀ x3 : Int32, ∀ x4 : Int32, ∀ x5 : Int32, Tr X eI 0 0 24 [(0, .ref (cxAd X 161)), (1, .int x1), (2, .int x2), (3, .int x3), (4, .int x4), (5, .int x5)] [] (s24 x2 x3 x4 x5)) : Tr X eI 0 0 157 [(0, .ref (cxAd X 161)), (1, .int x1), (3, .int x3), (4, .int x4), (5, .int x5), (6, .int x6), (7, .int x7), (8, .int x8), (9, .int x9)] [.int p0, .int p1] (f_X9_slips_157 s24 x1 x3 x4 x5 x6 x7 x8 x9 p0 p1) := by
  unfold f_X9_slips_157
  refine tr_iadd hX dX9_slips_157 ?_
  refine tr_nm (fun v1 ev1 => ?_)
  refine tr_istore_n hX dX9_slips_158 rfl (hS.n (by decide)) rfl ?_
  refine tr_iload_n 3 hX dX9_slips_159 rfl rfl ?_
  refine tr_iload 9 hX dX9_slips_160 rfl ?_
  refine tr_if_eq 191 hX dX9_slips_162 (by decide) (fun c6 => ?_) (fun c6 => ?_)
  · exact tr_sub [1, 2, 0, 4, 5] rfl (t_X9_slips_191 hX hS s24 x1 v1 x4 x5 x3 hs24)
  · refine tr_aload_n 1 hX dX9_slips_165 rfl rfl ?_
    refine tr_aload_n 1 hX dX9_slips_166 rfl rfl ?_
    refine tr_getF hX dX9_slips_167 sh_161 (by decide) rfl inlX9 (by decide) rfl (hS.g (Nat.le_of_ble_eq_true rfl)) cr_161_7 k_6_17 mq_161 ?_
    refine tr_bipush 8 hX dX9_slips_170 (by decide) ?_
    refine tr_iload 6 hX dX9_slips_172 rfl ?_
    refine tr_imul hX dX9_slips_174 ?_
    refine tr_iload 7 hX dX9_slips_175 rfl ?_
    refine tr_iadd hX dX9_slips_177 ?_
    refine tr_iald hX dX9_slips_178 sh_168 (hS.e (Nat.le_of_ble_eq_true rfl)) (fun hb3 v2 => ?_)
    refine tr_iload 8 hX dX9_slips_179 rfl ?_
    refine tr_callV0I (st := [.int x3]) 2 hX hS dX9_slips_181 (ok_X9_isListed v2 x8) sh_161 (by decide) rfl (Nat.le_of_ble_eq_true rfl) k_32_1 k_32_2 k_32_3 k_1_5 k_32_4 hy_X9_isListed rfl rfl (Nat.le_of_ble_eq_true rfl) rfl (fun v4 => ?_)
    refine tr_if_eq 191 hX dX9_slips_184 (by decide) (fun c5 => ?_) (fun c5 => ?_)
    · exact tr_sub [1, 2, 0, 4, 5] rfl (t_X9_slips_191 hX hS s24 x1 v1 x4 x5 x3 hs24)
    · refine tr_iconst 1 hX dX9_slips_187 (by decide) ?_
      refine tr_goto 192 hX dX9_slips_188 (by decide) ?_
      exact tr_sub [1, 2, 0, 4, 5] rfl (t_X9_slips_192 hX hS s24 x1 v1 x4 x5 1 x3 hs24)
def f_X9_slips_156 (s24 : Int32 → Int32 → Int32 → Int32 → M Int32) (x1 : Int32) (x3 : Int32) (x4 : Int32) (x5 : Int32) (x6 : Int32) (x7 : Int32) (x8 : Int32) (x9 : Int32) (p0 : Int32) : M Int32 :=
  f_X9_slips_157 s24 x1 x3 x4 x5 x6 x7 x8 x9 0 p0
set_option maxRecDepth 10000 in
set_option maxHeartbeats 4000000 in
theorem t_X9_slips_156 {X : Cx} (hX : Good X RX9 cX9_slips ((some .int))) (hS : Sta X 6 139 10) (s24 : Int32 → Int32 → Int32 → Int32 → M Int32) (x1 : Int32) (x3 : Int32) (x4 : Int32) (x5 : Int32) (x6 : Int32) (x7 : Int32) (x8 : Int32) (x9 : Int32) (p0 : Int32) (hs24 : ∀ x2 : Int32, ∀ x3 : Int32, ∀ x4 : Int32, ∀ x5 : Int32, Tr X eI 0 0 24 [(0, .ref (cxAd X 161)), (1, .int x1), (2, .int x2), (3, .int x3), (4, .int x4), (5, .int x5)] [] (s24 x2 x3 x4 x5)) : Tr X eI 0 0 156 [(0, .ref (cxAd X 161)), (1, .int x1), (3, .int x3), (4, .int x4), (5, .int x5), (6, .int x6), (7, .int x7), (8, .int x8), (9, .int x9)] [.int p0] (f_X9_slips_156 s24 x1 x3 x4 x5 x6 x7 x8 x9 p0) := by
  unfold f_X9_slips_156
  refine tr_iconst 0 hX dX9_slips_156 (by decide) ?_
  exact tr_sub [0, 1, 2, 3, 4, 5, 6, 7, 8] rfl (t_X9_slips_157 hX hS s24 x1 x3 x4 x5 x6 x7 x8 x9 0 p0 hs24)
def f_X9_slips_120 (s24 : Int32 → Int32 → Int32 → Int32 → M Int32) (x1 : Int32) (x2 : Int32) (x3 : Int32) (x5 : Int32) (x6 : Int32) (x7 : Int32) (x8 : Int32) (x9 : Int32) (p0 : Int32) (p1 : Int32) : M Int32 :=
  nm ((p1 + p0)) (fun v1 => aI 186 20 x5 (fun v2 => bnd (f_X9_has v2 0) (fun v4 => if v4 = 0 then (aI 186 20 x5 (fun v5 => bnd (f_X9_has v5 1) (fun v7 => if v7 = 0 then (f_X9_slips_156 s24 x1 x3 v1 x5 x6 x7 x8 x9 x2) else (f_X9_slips_157 s24 x1 x3 v1 x5 x6 x7 x8 x9 1 x2)))) else (f_X9_slips_156 s24 x1 x3 v1 x5 x6 x7 x8 x9 x2))))
set_option maxRecDepth 10000 in
set_option maxHeartbeats 4000000 in
theorem t_X9_slips_120 {X : Cx} (hX : Good X RX9 cX9_slips ((some .int))) (hS : Sta X 6 139 10) (s24 : Int32 → Int32 → Int32 → Int32 → M Int32) (x1 : Int32) (x2 : Int32) (x3 : Int32) (x5 : Int32) (x6 : Int32) (x7 : Int32) (x8 : Int32) (x9 : Int32) (p0 : Int32) (p1 : Int32) (hs24 : ∀ x2 : Int32, ∀ x3 : Int32, ∀ x4 : Int32, ∀ x5 : Int32, Tr X eI 0 0 24 [(0, .ref (cxAd X 161)), (1, .int x1), (2, .int x2), (3, .int x3), (4, .int x4), (5, .int x5)] [] (s24 x2 x3 x4 x5)) : Tr X eI 0 0 120 [(0, .ref (cxAd X 161)), (1, .int x1), (2, .int x2), (3, .int x3), (5, .int x5), (6, .int x6), (7, .int x7), (8, .int x8), (9, .int x9)] [.int p0, .int p1] (f_X9_slips_120 s24 x1 x2 x3 x5 x6 x7 x8 x9 p0 p1) := by
  unfold f_X9_slips_120
  refine tr_iadd hX dX9_slips_120 ?_
  refine tr_nm (fun v1 ev1 => ?_)
  refine tr_istore hX dX9_slips_121 (hS.n (by decide)) rfl ?_
  refine tr_iload_n 3 hX dX9_slips_123 rfl rfl ?_
  refine tr_aload_n 1 hX dX9_slips_124 rfl rfl ?_
  refine tr_getF hX dX9_slips_125 sh_161 (by decide) rfl inlX9 (by decide) rfl (hS.g (Nat.le_of_ble_eq_true rfl)) cr_161_31 k_7_11 mq_161 ?_
  refine tr_iload 5 hX dX9_slips_128 rfl ?_
  refine tr_iald hX dX9_slips_130 sh_186 (hS.e (Nat.le_of_ble_eq_true rfl)) (fun hb3 v2 => ?_)
  refine tr_iconst 0 hX dX9_slips_131 (by decide) ?_
  refine tr_callS0I (st := [.int x2]) 2 hX hS dX9_slips_132 (ok_X9_has v2 0) k_16_16 k_16_17 k_1_5 k_16_18 hy_X9_has.2 rfl rfl (Nat.le_of_ble_eq_true rfl) rfl (fun v4 => ?_)
  refine tr_if_ne 156 hX dX9_slips_135 (by decide) (fun c9 => ?_) (fun c9 => ?_)
  · refine tr_aload_n 1 hX dX9_slips_138 rfl rfl ?_
    refine tr_getF hX dX9_slips_139 sh_161 (by decide) rfl inlX9 (by decide) rfl (hS.g (Nat.le_of_ble_eq_true rfl)) cr_161_31 k_7_11 mq_161 ?_
    refine tr_iload 5 hX dX9_slips_142 rfl ?_
    refine tr_iald hX dX9_slips_144 sh_186 (hS.e (Nat.le_of_ble_eq_true rfl)) (fun hb6 v5 => ?_)
    refine tr_iconst 1 hX dX9_slips_145 (by decide) ?_
    refine tr_callS0I (st := [.int x2]) 2 hX hS dX9_slips_146 (ok_X9_has v5 1) k_16_16 k_16_17 k_1_5 k_16_18 hy_X9_has.2 rfl rfl (Nat.le_of_ble_eq_true rfl) rfl (fun v7 => ?_)
    refine tr_if_eq 156 hX dX9_slips_149 (by decide) (fun c8 => ?_) (fun c8 => ?_)
    · exact tr_sub [1, 2, 4, 0, 5, 6, 7, 8, 9] rfl (t_X9_slips_156 hX hS s24 x1 x3 v1 x5 x6 x7 x8 x9 x2 hs24)
    · refine tr_iconst 1 hX dX9_slips_152 (by decide) ?_
      refine tr_goto 157 hX dX9_slips_153 (by decide) ?_
      exact tr_sub [1, 2, 4, 0, 5, 6, 7, 8, 9] rfl (t_X9_slips_157 hX hS s24 x1 x3 v1 x5 x6 x7 x8 x9 1 x2 hs24)
  · exact tr_sub [1, 2, 4, 0, 5, 6, 7, 8, 9] rfl (t_X9_slips_156 hX hS s24 x1 x3 v1 x5 x6 x7 x8 x9 x2 hs24)
def f_X9_slips_107 (s24 : Int32 → Int32 → Int32 → Int32 → M Int32) (x1 : Int32) (x2 : Int32) (x3 : Int32) (x4 : Int32) (x5 : Int32) (x6 : Int32) (x7 : Int32) (x8 : Int32) (x9 : Int32) (p0 : Int32) (p1 : Int32) : M Int32 :=
  sI 186 20 p1 p0 (if x9 = 0 then (f_X9_slips_120 s24 x1 x2 x3 x5 x6 x7 x8 x9 0 x4) else (f_X9_slips_120 s24 x1 x2 x3 x5 x6 x7 x8 x9 1 x4))
set_option maxRecDepth 10000 in
set_option maxHeartbeats 4000000 in
theorem t_X9_slips_107 {X : Cx} (hX : Good X RX9 cX9_slips ((some .int))) (hS : Sta X 6 139 10) (s24 : Int32 → Int32 → Int32 → Int32 → M Int32) (x1 : Int32) (x2 : Int32) (x3 : Int32) (x4 : Int32) (x5 : Int32) (x6 : Int32) (x7 : Int32) (x8 : Int32) (x9 : Int32) (p0 : Int32) (p1 : Int32) (hs24 : ∀ x2 : Int32, ∀ x3 : Int32, ∀ x4 : Int32, ∀ x5 : Int32, Tr X eI 0 0 24 [(0, .ref (cxAd X 161)), (1, .int x1), (2, .int x2), (3, .int x3), (4, .int x4), (5, .int x5)] [] (s24 x2 x3 x4 x5)) : Tr X eI 0 0 107 [(0, .ref (cxAd X 161)), (1, .int x1), (2, .int x2), (3, .int x3), (4, .int x4), (5, .int x5), (6, .int x6), (7, .int x7), (8, .int x8), (9, .int x9)] [.int p0, .int p1, .ref (cxAd X 186)] (f_X9_slips_107 s24 x1 x2 x3 x4 x5 x6 x7 x8 x9 p0 p1) := by
  unfold f_X9_slips_107
  refine tr_iast hX dX9_slips_107 sh_186 (hS.e (Nat.le_of_ble_eq_true rfl)) (fun _ => ?_)
  refine tr_iload 4 hX dX9_slips_108 rfl ?_
  refine tr_iload 9 hX dX9_slips_110 rfl ?_
  refine tr_if_eq 119 hX dX9_slips_112 (by decide) (fun c1 => ?_) (fun c1 => ?_)
  · refine tr_iconst 0 hX dX9_slips_119 (by decide) ?_
    exact tr_sub [0, 1, 2, 3, 5, 6, 7, 8, 9] rfl (t_X9_slips_120 hX hS s24 x1 x2 x3 x5 x6 x7 x8 x9 0 x4 hs24)
  · refine tr_iconst 1 hX dX9_slips_115 (by decide) ?_
    refine tr_goto 120 hX dX9_slips_116 (by decide) ?_
    exact tr_sub [0, 1, 2, 3, 5, 6, 7, 8, 9] rfl (t_X9_slips_120 hX hS s24 x1 x2 x3 x5 x6 x7 x8 x9 1 x4 hs24)
def f_X9_slips_24 (x1 : Int32) (s24 : Int32 → Int32 → Int32 → Int32 → M Int32) (x2 : Int32) (x3 : Int32) (x4 : Int32) (x5 : Int32) : M Int32 :=
  rI 161 13 (fun v1 => if v1 ≤ x5 then (if x1 = 0 then (f_X9_slips_231 x2) else (if x1 = 1 then (bnd f_X9_fewestWays (fun v2 => f_X9_slips_231 v2)) else (if x1 = 2 then (f_X9_slips_231 x3) else (f_X9_slips_231 x4)))) else (aI 173 60 (3 * x5) (fun v6 => aI 173 60 ((3 * x5) + 1) (fun v8 => aI 173 60 ((3 * x5) + 2) (fun v10 => bnd (f_X9_isSlip v6 v8 v10) (fun v12 => if v12 = 0 then (f_X9_slips_107 s24 x1 x2 x3 x4 x5 v6 v8 v10 v12 0 x5) else (bnd (f_X9_showsBy v6 v8 v10) (fun v13 => f_X9_slips_107 s24 x1 x2 x3 x4 x5 v6 v8 v10 v12 v13 x5))))))))
set_option maxRecDepth 10000 in
set_option maxHeartbeats 4000000 in
theorem t_X9_slips_24 {X : Cx} (hX : Good X RX9 cX9_slips ((some .int))) (hS : Sta X 6 139 10) (x1 : Int32) : ∀ s24 : Int32 → Int32 → Int32 → Int32 → M Int32, (∀ x2 : Int32, ∀ x3 : Int32, ∀ x4 : Int32, ∀ x5 : Int32, Tr X eI 0 0 24 [(0, .ref (cxAd X 161)), (1, .int x1), (2, .int x2), (3, .int x3), (4, .int x4), (5, .int x5)] [] (s24 x2 x3 x4 x5)) → ∀ x2 : Int32, ∀ x3 : Int32, ∀ x4 : Int32, ∀ x5 : Int32, Tr X eI 0 0 24 [(0, .ref (cxAd X 161)), (1, .int x1), (2, .int x2), (3, .int x3), (4, .int x4), (5, .int x5)] [] (f_X9_slips_24 x1 s24 x2 x3 x4 x5) := by
  intro s24 hs24 x2 x3 x4 x5
  unfold f_X9_slips_24
  refine tr_iload 5 hX dX9_slips_24 rfl ?_
  refine tr_aload_n 0 hX dX9_slips_26 rfl rfl ?_
  refine tr_getI hX dX9_slips_27 sh_161 (by decide) rfl inlX9 (by decide) rfl (hS.e (Nat.le_of_ble_eq_true rfl)) k_12_12 (fun v1 => ?_)
  refine tr_ic_ge 200 hX dX9_slips_30 (by decide) (fun c15 => ?_) (fun c15 => ?_)
  · refine tr_iload_n 1 hX dX9_slips_200 rfl rfl ?_
    refine tr_if_ne 208 hX dX9_slips_201 (by decide) (fun c5 => ?_) (fun c5 => ?_)
    · refine tr_iload_n 2 hX dX9_slips_204 rfl rfl ?_
      refine tr_goto 231 hX dX9_slips_205 (by decide) ?_
      exact tr_sub [] rfl (t_X9_slips_231 hX hS x2)
    · refine tr_iload_n 1 hX dX9_slips_208 rfl rfl ?_
      refine tr_iconst 1 hX dX9_slips_209 (by decide) ?_
      refine tr_ic_ne 220 hX dX9_slips_210 (by decide) (fun c4 => ?_) (fun c4 => ?_)
      · refine tr_aload_n 0 hX dX9_slips_213 rfl rfl ?_
        refine tr_callV0I (st := []) 0 hX hS dX9_slips_214 (ok_X9_fewestWays) sh_161 (by decide) rfl (Nat.le_of_ble_eq_true rfl) k_32_5 k_32_6 k_32_7 k_1_5 k_32_8 hy_X9_fewestWays rfl rfl (Nat.le_of_ble_eq_true rfl) rfl (fun v2 => ?_)
        refine tr_goto 231 hX dX9_slips_217 (by decide) ?_
        exact tr_sub [] rfl (t_X9_slips_231 hX hS v2)
      · refine tr_iload_n 1 hX dX9_slips_220 rfl rfl ?_
        refine tr_iconst 2 hX dX9_slips_221 (by decide) ?_
        refine tr_ic_ne 229 hX dX9_slips_222 (by decide) (fun c3 => ?_) (fun c3 => ?_)
        · refine tr_iload_n 3 hX dX9_slips_225 rfl rfl ?_
          refine tr_goto 231 hX dX9_slips_226 (by decide) ?_
          exact tr_sub [] rfl (t_X9_slips_231 hX hS x3)
        · refine tr_iload 4 hX dX9_slips_229 rfl ?_
          exact tr_sub [] rfl (t_X9_slips_231 hX hS x4)
  · refine tr_aload_n 0 hX dX9_slips_33 rfl rfl ?_
    refine tr_getF hX dX9_slips_34 sh_161 (by decide) rfl inlX9 (by decide) rfl (hS.g (Nat.le_of_ble_eq_true rfl)) cr_161_14 k_6_22 mq_161 ?_
    refine tr_iconst 3 hX dX9_slips_37 (by decide) ?_
    refine tr_iload 5 hX dX9_slips_38 rfl ?_
    refine tr_imul hX dX9_slips_40 ?_
    refine tr_iald hX dX9_slips_41 sh_173 (hS.e (Nat.le_of_ble_eq_true rfl)) (fun hb7 v6 => ?_)
    refine tr_istore hX dX9_slips_42 (hS.n (by decide)) rfl ?_
    refine tr_aload_n 1 hX dX9_slips_44 rfl rfl ?_
    refine tr_getF hX dX9_slips_45 sh_161 (by decide) rfl inlX9 (by decide) rfl (hS.g (Nat.le_of_ble_eq_true rfl)) cr_161_14 k_6_22 mq_161 ?_
    refine tr_iconst 3 hX dX9_slips_48 (by decide) ?_
    refine tr_iload 6 hX dX9_slips_49 rfl ?_
    refine tr_imul hX dX9_slips_51 ?_
    refine tr_iconst 1 hX dX9_slips_52 (by decide) ?_
    refine tr_iadd hX dX9_slips_53 ?_
    refine tr_iald hX dX9_slips_54 sh_173 (hS.e (Nat.le_of_ble_eq_true rfl)) (fun hb9 v8 => ?_)
    refine tr_istore hX dX9_slips_55 (hS.n (by decide)) rfl ?_
    refine tr_aload_n 2 hX dX9_slips_57 rfl rfl ?_
    refine tr_getF hX dX9_slips_58 sh_161 (by decide) rfl inlX9 (by decide) rfl (hS.g (Nat.le_of_ble_eq_true rfl)) cr_161_14 k_6_22 mq_161 ?_
    refine tr_iconst 3 hX dX9_slips_61 (by decide) ?_
    refine tr_iload 7 hX dX9_slips_62 rfl ?_
    refine tr_imul hX dX9_slips_64 ?_
    refine tr_iconst 2 hX dX9_slips_65 (by decide) ?_
    refine tr_iadd hX dX9_slips_66 ?_
    refine tr_iald hX dX9_slips_67 sh_173 (hS.e (Nat.le_of_ble_eq_true rfl)) (fun hb11 v10 => ?_)
    refine tr_istore hX dX9_slips_68 (hS.n (by decide)) rfl ?_
    refine tr_aload_n 3 hX dX9_slips_70 rfl rfl ?_
    refine tr_iload 2 hX dX9_slips_71 rfl ?_
    refine tr_iload 1 hX dX9_slips_73 rfl ?_
    refine tr_iload 0 hX dX9_slips_75 rfl ?_
    refine tr_callV0I (st := []) 3 hX hS dX9_slips_77 (ok_X9_isSlip v6 v8 v10) sh_161 (by decide) rfl (Nat.le_of_ble_eq_true rfl) k_28_16 k_28_17 k_28_18 k_1_5 k_28_19 hy_X9_isSlip rfl rfl (Nat.le_of_ble_eq_true rfl) rfl (fun v12 => ?_)
    refine tr_istore hX dX9_slips_80 (hS.n (by decide)) rfl ?_
    refine tr_aload_n 4 hX dX9_slips_82 rfl rfl ?_
    refine tr_getF hX dX9_slips_83 sh_161 (by decide) rfl inlX9 (by decide) rfl (hS.g (Nat.le_of_ble_eq_true rfl)) cr_161_31 k_7_11 mq_161 ?_
    refine tr_iload 9 hX dX9_slips_86 rfl ?_
    refine tr_iload 0 hX dX9_slips_88 rfl ?_
    refine tr_if_eq 106 hX dX9_slips_90 (by decide) (fun c14 => ?_) (fun c14 => ?_)
    · refine tr_iconst 0 hX dX9_slips_106 (by decide) ?_
      exact tr_sub [4, 5, 6, 7, 8, 9, 3, 2, 1, 0] rfl (t_X9_slips_107 hX hS s24 x1 x2 x3 x4 x5 v6 v8 v10 v12 0 x5 hs24)
    · refine tr_aload_n 4 hX dX9_slips_93 rfl rfl ?_
      refine tr_iload 3 hX dX9_slips_94 rfl ?_
      refine tr_iload 2 hX dX9_slips_96 rfl ?_
      refine tr_iload 1 hX dX9_slips_98 rfl ?_
      refine tr_callV0I (st := [.int x5, .ref (cxAd X 186)]) 3 hX hS dX9_slips_100 (ok_X9_showsBy v6 v8 v10) sh_161 (by decide) rfl (Nat.le_of_ble_eq_true rfl) k_28_20 k_28_21 k_28_22 k_1_5 k_28_23 hy_X9_showsBy rfl rfl (Nat.le_of_ble_eq_true rfl) rfl (fun v13 => ?_)
      refine tr_goto 107 hX dX9_slips_103 (by decide) ?_
      exact tr_sub [4, 5, 6, 7, 8, 9, 3, 2, 1, 0] rfl (t_X9_slips_107 hX hS s24 x1 x2 x3 x4 x5 v6 v8 v10 v12 v13 x5 hs24)
def f_X9_slips (x1 : Int32) : M Int32 :=
  bnd (f_X9_in x1.toInt64 0 3) (fun v1 => if v1 = 0 then (rt (-1)) else (fix4 FU (f_X9_slips_24 x1) 0 0 0 0))
set_option maxRecDepth 10000 in
set_option maxHeartbeats 4000000 in
theorem t_X9_slips_0 {X : Cx} (hX : Good X RX9 cX9_slips ((some .int))) (hS : Sta X 6 139 10) (x1 : Int32) : Tr X eI 0 0 0 [(0, .ref (cxAd X 161)), (1, .int x1)] [] (f_X9_slips x1) := by
  unfold f_X9_slips
  refine tr_iload_n 1 hX dX9_slips_0 rfl rfl ?_
  refine tr_i2l hX dX9_slips_1 ?_
  refine tr_lconst 0 hX dX9_slips_2 (by decide) ?_
  refine tr_ldc2 hX dX9_slips_3 k_32_0 ?_
  refine tr_callS0I (st := []) 3 hX hS dX9_slips_6 (ok_X9_in x1.toInt64 0 3) k_8_8 k_8_9 k_1_5 k_8_10 hy_X9_in.2 rfl rfl (Nat.le_of_ble_eq_true rfl) rfl (fun v1 => ?_)
  refine tr_if_ne 14 hX dX9_slips_9 (by decide) (fun c2 => ?_) (fun c2 => ?_)
  · refine tr_iconst (-1) hX dX9_slips_12 (by decide) ?_
    exact tr_iret0 hX hS dX9_slips_13
  · refine tr_iconst 0 hX dX9_slips_14 (by decide) ?_
    refine tr_istore_n hX dX9_slips_15 rfl (hS.n (by decide)) rfl ?_
    refine tr_iconst 0 hX dX9_slips_16 (by decide) ?_
    refine tr_istore_n hX dX9_slips_17 rfl (hS.n (by decide)) rfl ?_
    refine tr_iconst 0 hX dX9_slips_18 (by decide) ?_
    refine tr_istore hX dX9_slips_19 (hS.n (by decide)) rfl ?_
    refine tr_iconst 0 hX dX9_slips_21 (by decide) ?_
    refine tr_istore hX dX9_slips_22 (hS.n (by decide)) rfl ?_
    exact tr_sub [4, 5, 3, 2, 1, 0] rfl (tr_fix4 (lvf := fun x2 x3 x4 x5 => [(0, .ref (cxAd X 161)), (1, .int x1), (2, .int x2), (3, .int x3), (4, .int x4), (5, .int x5)]) (t_X9_slips_24 hX hS x1) FU 0 0 0 0)
theorem ok_X9_slips {l : Launch} {E : Ev} (x1 : Int32)  : Ok l E Gall yX9_slips cX9_slips 10 ((some .int)) (rmz 6 139) eI [.ref (E.2.1 161), .int x1] (f_X9_slips x1) := by
  refine ok_of0 (by decide) (Nat.le_of_ble_eq_true rfl) (fun X hX hV hS => ?_)
  subst hV
  exact t_X9_slips_0 hX hS x1
