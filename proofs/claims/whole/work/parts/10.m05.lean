def f_X9_noItems_35 (x1 : Int32) (s35 : Int32 → M Unit) (x2 : Int32) : M Unit :=
  if 5 ≤ x2 then (rt ()) else (sI 166 10 ((5 * x1) + x2) 1 (s35 (x2 + 1)))
set_option maxRecDepth 10000 in
set_option maxHeartbeats 4000000 in
theorem t_X9_noItems_35 {X : Cx} (hX : Good X RX9 cX9_noItems (none)) (hS : Sta X 0 0 3) (x1 : Int32) : ∀ s35 : Int32 → M Unit, (∀ x2 : Int32, Tr X eU 0 0 35 [(0, .ref (cxAd X 161)), (1, .int x1), (2, .int x2)] [] (s35 x2)) → ∀ x2 : Int32, Tr X eU 0 0 35 [(0, .ref (cxAd X 161)), (1, .int x1), (2, .int x2)] [] (f_X9_noItems_35 x1 s35 x2) := by
  intro s35 hs35 x2
  unfold f_X9_noItems_35
  refine tr_iload_n 2 hX dX9_noItems_35 rfl rfl ?_
  refine tr_iconst 5 hX dX9_noItems_36 (by decide) ?_
  refine tr_ic_ge 57 hX dX9_noItems_37 (by decide) (fun c1 => ?_) (fun c1 => ?_)
  · exact tr_vret0 hX hS dX9_noItems_57
  · refine tr_aload_n 0 hX dX9_noItems_40 rfl rfl ?_
    refine tr_getF hX dX9_noItems_41 sh_161 (by decide) rfl inlX9 (by decide) rfl (hS.g (Nat.le_of_ble_eq_true rfl)) cr_161_5 k_6_15 mq_161 ?_
    refine tr_iconst 5 hX dX9_noItems_44 (by decide) ?_
    refine tr_iload_n 1 hX dX9_noItems_45 rfl rfl ?_
    refine tr_imul hX dX9_noItems_46 ?_
    refine tr_iload_n 2 hX dX9_noItems_47 rfl rfl ?_
    refine tr_iadd hX dX9_noItems_48 ?_
    refine tr_iconst 1 hX dX9_noItems_49 (by decide) ?_
    refine tr_iast hX dX9_noItems_50 sh_166 (hS.e (Nat.le_of_ble_eq_true rfl)) (fun _ => ?_)
    refine tr_iinc (x2 + 1) 2 hX dX9_noItems_51 rfl (congrArg (fun z => x2 + z) (by decide)) (hS.n (by decide)) rfl ?_
    refine tr_goto 35 hX dX9_noItems_54 (by decide) ?_
    exact tr_sub [1, 2, 0] rfl (hs35 (x2 + 1))
def f_X9_noItems_9 (x1 : Int32) (s9 : Int32 → M Unit) (x2 : Int32) : M Unit :=
  if 64 ≤ x2 then (fix1 FU (f_X9_noItems_35 x1) 0) else (sI 165 128 ((64 * x1) + x2) x2 (s9 (x2 + 1)))
set_option maxRecDepth 10000 in
set_option maxHeartbeats 4000000 in
theorem t_X9_noItems_9 {X : Cx} (hX : Good X RX9 cX9_noItems (none)) (hS : Sta X 0 0 3) (x1 : Int32) : ∀ s9 : Int32 → M Unit, (∀ x2 : Int32, Tr X eU 0 0 9 [(0, .ref (cxAd X 161)), (1, .int x1), (2, .int x2)] [] (s9 x2)) → ∀ x2 : Int32, Tr X eU 0 0 9 [(0, .ref (cxAd X 161)), (1, .int x1), (2, .int x2)] [] (f_X9_noItems_9 x1 s9 x2) := by
  intro s9 hs9 x2
  unfold f_X9_noItems_9
  refine tr_iload_n 2 hX dX9_noItems_9 rfl rfl ?_
  refine tr_bipush 64 hX dX9_noItems_10 (by decide) ?_
  refine tr_ic_ge 33 hX dX9_noItems_12 (by decide) (fun c1 => ?_) (fun c1 => ?_)
  · refine tr_iconst 0 hX dX9_noItems_33 (by decide) ?_
    refine tr_istore_n hX dX9_noItems_34 rfl (hS.n (by decide)) rfl ?_
    exact tr_sub [1, 2, 0] rfl (tr_fix1 (lvf := fun x2 => [(0, .ref (cxAd X 161)), (1, .int x1), (2, .int x2)]) (t_X9_noItems_35 hX hS x1) FU 0)
  · refine tr_aload_n 0 hX dX9_noItems_15 rfl rfl ?_
    refine tr_getF hX dX9_noItems_16 sh_161 (by decide) rfl inlX9 (by decide) rfl (hS.g (Nat.le_of_ble_eq_true rfl)) cr_161_4 k_6_14 mq_161 ?_
    refine tr_bipush 64 hX dX9_noItems_19 (by decide) ?_
    refine tr_iload_n 1 hX dX9_noItems_21 rfl rfl ?_
    refine tr_imul hX dX9_noItems_22 ?_
    refine tr_iload_n 2 hX dX9_noItems_23 rfl rfl ?_
    refine tr_iadd hX dX9_noItems_24 ?_
    refine tr_iload_n 2 hX dX9_noItems_25 rfl rfl ?_
    refine tr_iast hX dX9_noItems_26 sh_165 (hS.e (Nat.le_of_ble_eq_true rfl)) (fun _ => ?_)
    refine tr_iinc (x2 + 1) 2 hX dX9_noItems_27 rfl (congrArg (fun z => x2 + z) (by decide)) (hS.n (by decide)) rfl ?_
    refine tr_goto 9 hX dX9_noItems_30 (by decide) ?_
    exact tr_sub [1, 2, 0] rfl (hs9 (x2 + 1))
def f_X9_noItems (x1 : Int32) : M Unit :=
  sI 163 2 x1 0 (fix1 FU (f_X9_noItems_9 x1) 0)
set_option maxRecDepth 10000 in
set_option maxHeartbeats 4000000 in
theorem t_X9_noItems_0 {X : Cx} (hX : Good X RX9 cX9_noItems (none)) (hS : Sta X 0 0 3) (x1 : Int32) : Tr X eU 0 0 0 [(0, .ref (cxAd X 161)), (1, .int x1)] [] (f_X9_noItems x1) := by
  unfold f_X9_noItems
  refine tr_aload_n 0 hX dX9_noItems_0 rfl rfl ?_
  refine tr_getF hX dX9_noItems_1 sh_161 (by decide) rfl inlX9 (by decide) rfl (hS.g (Nat.le_of_ble_eq_true rfl)) cr_161_2 k_6_12 mq_161 ?_
  refine tr_iload_n 1 hX dX9_noItems_4 rfl rfl ?_
  refine tr_iconst 0 hX dX9_noItems_5 (by decide) ?_
  refine tr_iast hX dX9_noItems_6 sh_163 (hS.e (Nat.le_of_ble_eq_true rfl)) (fun _ => ?_)
  refine tr_iconst 0 hX dX9_noItems_7 (by decide) ?_
  refine tr_istore_n hX dX9_noItems_8 rfl (hS.n (by decide)) rfl ?_
  exact tr_sub [1, 2, 0] rfl (tr_fix1 (lvf := fun x2 => [(0, .ref (cxAd X 161)), (1, .int x1), (2, .int x2)]) (t_X9_noItems_9 hX hS x1) FU 0)
theorem ok_X9_noItems {l : Launch} {E : Ev} (x1 : Int32)  : Ok l E Gall yX9_noItems cX9_noItems 3 (none) (rmz 0 0) eU [.ref (E.2.1 161), .int x1] (f_X9_noItems x1) := by
  refine ok_of0 (by decide) (Nat.le_of_ble_eq_true rfl) (fun X hX hV hS => ?_)
  subst hV
  exact t_X9_noItems_0 hX hS x1
def f_X9_write_34 (x2 : Int64) (s34 : Int32 → M Int32) (x4 : Int32) : M Int32 :=
  if x4 < 0 then (rI 161 0 (fun v1 => rt v1)) else (rI 161 0 (fun v2 => sI 162 300 v2 ((((x2 >>> (((8 * x4) : Int32).toInt64 &&& 63)) &&& 255) : Int64).toInt32) (rI 161 0 (fun v3 => wI 161 0 (v3 + 1) (s34 (x4 + (-1)))))))
set_option maxRecDepth 10000 in
set_option maxHeartbeats 4000000 in
theorem t_X9_write_34 {X : Cx} (hX : Good X RX9 cX9_write ((some .int))) (hS : Sta X 1 25 5) (x2 : Int64) : ∀ s34 : Int32 → M Int32, (∀ x4 : Int32, Tr X eI 0 0 34 [(0, .ref (cxAd X 161)), (2, .long x2), (4, .int x4)] [] (s34 x4)) → ∀ x4 : Int32, Tr X eI 0 0 34 [(0, .ref (cxAd X 161)), (2, .long x2), (4, .int x4)] [] (f_X9_write_34 x2 s34 x4) := by
  intro s34 hs34 x4
  unfold f_X9_write_34
  refine tr_iload 2 hX dX9_write_34 rfl ?_
  refine tr_if_lt 76 hX dX9_write_36 (by decide) (fun c4 => ?_) (fun c4 => ?_)
  · refine tr_aload_n 0 hX dX9_write_76 rfl rfl ?_
    refine tr_getI hX dX9_write_77 sh_161 (by decide) rfl inlX9 (by decide) rfl (hS.e (Nat.le_of_ble_eq_true rfl)) k_8_6 (fun v1 => ?_)
    exact tr_iret0 hX hS dX9_write_80
  · refine tr_aload_n 0 hX dX9_write_39 rfl rfl ?_
    refine tr_getF hX dX9_write_40 sh_161 (by decide) rfl inlX9 (by decide) rfl (hS.g (Nat.le_of_ble_eq_true rfl)) cr_161_1 k_6_11 mq_161 ?_
    refine tr_aload_n 0 hX dX9_write_43 rfl rfl ?_
    refine tr_getI hX dX9_write_44 sh_161 (by decide) rfl inlX9 (by decide) rfl (hS.e (Nat.le_of_ble_eq_true rfl)) k_8_6 (fun v2 => ?_)
    refine tr_lload_n 1 hX dX9_write_47 rfl rfl ?_
    refine tr_bipush 8 hX dX9_write_48 (by decide) ?_
    refine tr_iload 2 hX dX9_write_50 rfl ?_
    refine tr_imul hX dX9_write_52 ?_
    refine tr_lshr hX dX9_write_53 ?_
    refine tr_ldc2 hX dX9_write_54 k_8_7 ?_
    refine tr_land hX dX9_write_57 ?_
    refine tr_l2i hX dX9_write_58 ?_
    refine tr_iast hX dX9_write_59 sh_162 (hS.e (Nat.le_of_ble_eq_true rfl)) (fun _ => ?_)
    refine tr_aload_n 0 hX dX9_write_60 rfl rfl ?_
    refine tr_dup hX dX9_write_61 rfl ?_
    refine tr_getI hX dX9_write_62 sh_161 (by decide) rfl inlX9 (by decide) rfl (hS.e (Nat.le_of_ble_eq_true rfl)) k_8_6 (fun v3 => ?_)
    refine tr_iconst 1 hX dX9_write_65 (by decide) ?_
    refine tr_iadd hX dX9_write_66 ?_
    refine tr_putI hX dX9_write_67 sh_161 (by decide) rfl inlX9 tyX9 tyX9_ok nmX9 (by decide) rfl (hS.e (Nat.le_of_ble_eq_true rfl)) k_8_6 rfl rfl rfl rfl ?_
    refine tr_iinc (x4 + (-1)) 2 hX dX9_write_70 rfl (congrArg (fun z => x4 + z) (by decide)) (hS.n (by decide)) rfl ?_
    refine tr_goto 34 hX dX9_write_73 (by decide) ?_
    exact tr_sub [1, 2, 0] rfl (hs34 (x4 + (-1)))
def f_X9_write (x1 : Int32) (x2 : Int64) : M Int32 :=
  bnd (f_X9_in x1.toInt64 1 8) (fun v1 => if v1 = 0 then (rt (-1)) else (rI 161 0 (fun v2 => if (v2 + x1) ≤ 300 then (nm ((x1 - 1)) (fun v3 => fix1 FU (f_X9_write_34 x2) v3)) else (rt (-3)))))
set_option maxRecDepth 10000 in
set_option maxHeartbeats 4000000 in
theorem t_X9_write_0 {X : Cx} (hX : Good X RX9 cX9_write ((some .int))) (hS : Sta X 1 25 5) (x1 : Int32) (x2 : Int64) : Tr X eI 0 0 0 [(0, .ref (cxAd X 161)), (1, .int x1), (2, .long x2)] [] (f_X9_write x1 x2) := by
  unfold f_X9_write
  refine tr_iload_n 1 hX dX9_write_0 rfl rfl ?_
  refine tr_i2l hX dX9_write_1 ?_
  refine tr_lconst 1 hX dX9_write_2 (by decide) ?_
  refine tr_ldc2 hX dX9_write_3 k_8_5 ?_
  refine tr_callS0I (st := []) 3 hX hS dX9_write_6 (ok_X9_in x1.toInt64 1 8) k_8_8 k_8_9 k_1_5 k_8_10 hy_X9_in.2 rfl rfl (Nat.le_of_ble_eq_true rfl) rfl (fun v1 => ?_)
  refine tr_if_ne 14 hX dX9_write_9 (by decide) (fun c5 => ?_) (fun c5 => ?_)
  · refine tr_iconst (-1) hX dX9_write_12 (by decide) ?_
    exact tr_iret0 hX hS dX9_write_13
  · refine tr_aload_n 0 hX dX9_write_14 rfl rfl ?_
    refine tr_getI hX dX9_write_15 sh_161 (by decide) rfl inlX9 (by decide) rfl (hS.e (Nat.le_of_ble_eq_true rfl)) k_8_6 (fun v2 => ?_)
    refine tr_iload_n 1 hX dX9_write_18 rfl rfl ?_
    refine tr_iadd hX dX9_write_19 ?_
    refine tr_sipush 300 hX dX9_write_20 (by decide) ?_
    refine tr_ic_le 29 hX dX9_write_23 (by decide) (fun c4 => ?_) (fun c4 => ?_)
    · refine tr_iload_n 1 hX dX9_write_29 rfl rfl ?_
      refine tr_iconst 1 hX dX9_write_30 (by decide) ?_
      refine tr_isub hX dX9_write_31 ?_
      refine tr_nm (fun v3 ev3 => ?_)
      refine tr_istore hX dX9_write_32 (hS.n (by decide)) rfl ?_
      exact tr_sub [1, 3, 0] rfl (tr_fix1 (lvf := fun x4 => [(0, .ref (cxAd X 161)), (2, .long x2), (4, .int x4)]) (t_X9_write_34 hX hS x2) FU v3)
    · refine tr_bipush (-3) hX dX9_write_26 (by decide) ?_
      exact tr_iret0 hX hS dX9_write_28
theorem ok_X9_write {l : Launch} {E : Ev} (x1 : Int32) (x2 : Int64)  : Ok l E Gall yX9_write cX9_write 5 ((some .int)) (rmz 1 25) eI [.ref (E.2.1 161), .int x1, .long x2] (f_X9_write x1 x2) := by
  refine ok_of0 (by decide) (Nat.le_of_ble_eq_true rfl) (fun X hX hV hS => ?_)
  subst hV
  exact t_X9_write_0 hX hS x1 x2
def f_X9_wipe  : M Int32 :=
  rI 161 0 (fun v1 => wI 161 0 0 (rt v1))
set_option maxRecDepth 10000 in
set_option maxHeartbeats 4000000 in
theorem t_X9_wipe_0 {X : Cx} (hX : Good X RX9 cX9_wipe ((some .int))) (hS : Sta X 0 0 2) : Tr X eI 0 0 0 [(0, .ref (cxAd X 161))] [] (f_X9_wipe) := by
  unfold f_X9_wipe
  refine tr_aload_n 0 hX dX9_wipe_0 rfl rfl ?_
  refine tr_getI hX dX9_wipe_1 sh_161 (by decide) rfl inlX9 (by decide) rfl (hS.e (Nat.le_of_ble_eq_true rfl)) k_8_6 (fun v1 => ?_)
  refine tr_istore_n hX dX9_wipe_4 rfl (hS.n (by decide)) rfl ?_
  refine tr_aload_n 1 hX dX9_wipe_5 rfl rfl ?_
  refine tr_iconst 0 hX dX9_wipe_6 (by decide) ?_
  refine tr_putI hX dX9_wipe_7 sh_161 (by decide) rfl inlX9 tyX9 tyX9_ok nmX9 (by decide) rfl (hS.e (Nat.le_of_ble_eq_true rfl)) k_8_6 rfl rfl rfl rfl ?_
  refine tr_iload_n 0 hX dX9_wipe_10 rfl rfl ?_
  exact tr_iret0 hX hS dX9_wipe_11
theorem ok_X9_wipe {l : Launch} {E : Ev}   : Ok l E Gall yX9_wipe cX9_wipe 2 ((some .int)) (rmz 0 0) eI [.ref (E.2.1 161)] (f_X9_wipe) := by
  refine ok_of0 (by decide) (Nat.le_of_ble_eq_true rfl) (fun X hX hV hS => ?_)
  subst hV
  exact t_X9_wipe_0 hX hS 
def f_X9_byteAt_18 (p0 : Int32) : M Int32 :=
  rt p0
set_option maxRecDepth 10000 in
set_option maxHeartbeats 4000000 in
theorem t_X9_byteAt_18 {X : Cx} (hX : Good X RX9 cX9_byteAt ((some .int))) (hS : Sta X 0 0 2) (p0 : Int32) : Tr X eI 0 0 18 [] [.int p0] (f_X9_byteAt_18 p0) := by
  unfold f_X9_byteAt_18
  exact tr_iret0 hX hS dX9_byteAt_18
def f_X9_byteAt (x1 : Int32) : M Int32 :=
  rI 161 0 (fun v1 => if v1 ≤ x1 then (f_X9_byteAt_18 0) else (aI 162 300 x1 (fun v2 => f_X9_byteAt_18 v2)))
set_option maxRecDepth 10000 in
set_option maxHeartbeats 4000000 in
theorem t_X9_byteAt_0 {X : Cx} (hX : Good X RX9 cX9_byteAt ((some .int))) (hS : Sta X 0 0 2) (x1 : Int32) : Tr X eI 0 0 0 [(0, .ref (cxAd X 161)), (1, .int x1)] [] (f_X9_byteAt x1) := by
  unfold f_X9_byteAt
  refine tr_iload_n 1 hX dX9_byteAt_0 rfl rfl ?_
  refine tr_aload_n 0 hX dX9_byteAt_1 rfl rfl ?_
  refine tr_getI hX dX9_byteAt_2 sh_161 (by decide) rfl inlX9 (by decide) rfl (hS.e (Nat.le_of_ble_eq_true rfl)) k_8_6 (fun v1 => ?_)
  refine tr_ic_ge 17 hX dX9_byteAt_5 (by decide) (fun c4 => ?_) (fun c4 => ?_)
  · refine tr_iconst 0 hX dX9_byteAt_17 (by decide) ?_
    exact tr_sub [] rfl (t_X9_byteAt_18 hX hS 0)
  · refine tr_aload_n 0 hX dX9_byteAt_8 rfl rfl ?_
    refine tr_getF hX dX9_byteAt_9 sh_161 (by decide) rfl inlX9 (by decide) rfl (hS.g (Nat.le_of_ble_eq_true rfl)) cr_161_1 k_6_11 mq_161 ?_
    refine tr_iload_n 1 hX dX9_byteAt_12 rfl rfl ?_
    refine tr_iald hX dX9_byteAt_13 sh_162 (hS.e (Nat.le_of_ble_eq_true rfl)) (fun hb3 v2 => ?_)
    refine tr_goto 18 hX dX9_byteAt_14 (by decide) ?_
    exact tr_sub [] rfl (t_X9_byteAt_18 hX hS v2)
theorem ok_X9_byteAt {l : Launch} {E : Ev} (x1 : Int32)  : Ok l E Gall yX9_byteAt cX9_byteAt 2 ((some .int)) (rmz 0 0) eI [.ref (E.2.1 161), .int x1] (f_X9_byteAt x1) := by
  refine ok_of0 (by decide) (Nat.le_of_ble_eq_true rfl) (fun X hX hV hS => ?_)
  subst hV
  exact t_X9_byteAt_0 hX hS x1
def f_X9_figures_110  : M Int32 :=
  gd ((0 : Int32) = 0 ∨ (0 : Int32) = 1) (rt 0)
set_option maxRecDepth 10000 in
set_option maxHeartbeats 4000000 in
theorem t_X9_figures_110 {X : Cx} (hX : Good X RX9 cX9_figures ((some .boolean))) (hS : Sta X 1 25 5) : Tr X eI 0 0 110 [] [] (f_X9_figures_110) := by
  unfold f_X9_figures_110
  refine tr_iconst 0 hX dX9_figures_110 (by decide) ?_
  exact tr_zret0 hX hS dX9_figures_111
def f_X9_figures_107 (s2 : Int32 → M Int32) (x1 : Int32) (x2 : Int32) (x4 : Int32) (p0 : Int32) (p1 : Int32) : M Int32 :=
  if p1 = p0 then (sI 175 4 x2 x4 (rI 161 17 (fun v1 => wI 161 17 (v1 + 1) (s2 (x2 + 1))))) else (f_X9_figures_110)
set_option maxRecDepth 10000 in
set_option maxHeartbeats 4000000 in
theorem t_X9_figures_107 {X : Cx} (hX : Good X RX9 cX9_figures ((some .boolean))) (hS : Sta X 1 25 5) (s2 : Int32 → M Int32) (x1 : Int32) (x2 : Int32) (x4 : Int32) (p0 : Int32) (p1 : Int32) (hs2 : ∀ x2 : Int32, Tr X eI 0 0 2 [(0, .ref (cxAd X 161)), (1, .int x1), (2, .int x2)] [] (s2 x2)) : Tr X eI 0 0 107 [(0, .ref (cxAd X 161)), (1, .int x1), (2, .int x2), (4, .int x4)] [.int p0, .int p1] (f_X9_figures_107 s2 x1 x2 x4 p0 p1) := by
  unfold f_X9_figures_107
  refine tr_ic_eq 112 hX dX9_figures_107 (by decide) (fun c2 => ?_) (fun c2 => ?_)
  · refine tr_aload_n 0 hX dX9_figures_112 rfl rfl ?_
    refine tr_getF hX dX9_figures_113 sh_161 (by decide) rfl inlX9 (by decide) rfl (hS.g (Nat.le_of_ble_eq_true rfl)) cr_161_18 k_7_0 mq_161 ?_
    refine tr_iload_n 2 hX dX9_figures_116 rfl rfl ?_
    refine tr_iload 3 hX dX9_figures_117 rfl ?_
    refine tr_iast hX dX9_figures_119 sh_175 (hS.e (Nat.le_of_ble_eq_true rfl)) (fun _ => ?_)
    refine tr_aload_n 0 hX dX9_figures_120 rfl rfl ?_
    refine tr_dup hX dX9_figures_121 rfl ?_
    refine tr_getI hX dX9_figures_122 sh_161 (by decide) rfl inlX9 (by decide) rfl (hS.e (Nat.le_of_ble_eq_true rfl)) k_10_13 (fun v1 => ?_)
    refine tr_iconst 1 hX dX9_figures_125 (by decide) ?_
    refine tr_iadd hX dX9_figures_126 ?_
    refine tr_putI hX dX9_figures_127 sh_161 (by decide) rfl inlX9 tyX9 tyX9_ok nmX9 (by decide) rfl (hS.e (Nat.le_of_ble_eq_true rfl)) k_10_13 rfl rfl rfl rfl ?_
    refine tr_iinc (x2 + 1) 2 hX dX9_figures_130 rfl (congrArg (fun z => x2 + z) (by decide)) (hS.n (by decide)) rfl ?_
    refine tr_goto 2 hX dX9_figures_133 (by decide) ?_
    exact tr_sub [1, 2, 0] rfl (hs2 (x2 + 1))
  · exact tr_sub [] rfl (t_X9_figures_110 hX hS)
def f_X9_figures_73 (s2 : Int32 → M Int32) (x1 : Int32) (x2 : Int32) (x3 : Int32) (x4 : Int32) : M Int32 :=
  bnd (f_X9_in x3.toInt64 1 2) (fun v1 => if v1 = 0 then (f_X9_figures_110) else (rI 161 17 (fun v2 => bnd (f_X9_byteAt v2) (fun v3 => if (x1 - 1) ≤ x2 then (f_X9_figures_107 s2 x1 x2 x4 59 v3) else (f_X9_figures_107 s2 x1 x2 x4 44 v3)))))
set_option maxRecDepth 10000 in
set_option maxHeartbeats 4000000 in
theorem t_X9_figures_73 {X : Cx} (hX : Good X RX9 cX9_figures ((some .boolean))) (hS : Sta X 1 25 5) (s2 : Int32 → M Int32) (x1 : Int32) (x2 : Int32) (x3 : Int32) (x4 : Int32) (hs2 : ∀ x2 : Int32, Tr X eI 0 0 2 [(0, .ref (cxAd X 161)), (1, .int x1), (2, .int x2)] [] (s2 x2)) : Tr X eI 0 0 73 [(0, .ref (cxAd X 161)), (1, .int x1), (2, .int x2), (3, .int x3), (4, .int x4)] [] (f_X9_figures_73 s2 x1 x2 x3 x4) := by
  unfold f_X9_figures_73
  refine tr_iload_n 3 hX dX9_figures_73 rfl rfl ?_
  refine tr_i2l hX dX9_figures_74 ?_
  refine tr_lconst 1 hX dX9_figures_75 (by decide) ?_
  refine tr_ldc2 hX dX9_figures_76 k_11_9 ?_
  refine tr_callS0I (st := []) 3 hX hS dX9_figures_79 (ok_X9_in x3.toInt64 1 2) k_8_8 k_8_9 k_1_5 k_8_10 hy_X9_in.2 rfl rfl (Nat.le_of_ble_eq_true rfl) rfl (fun v1 => ?_)
  refine tr_if_eq 110 hX dX9_figures_82 (by decide) (fun c5 => ?_) (fun c5 => ?_)
  · exact tr_sub [] rfl (t_X9_figures_110 hX hS)
  · refine tr_aload_n 0 hX dX9_figures_85 rfl rfl ?_
    refine tr_aload_n 0 hX dX9_figures_86 rfl rfl ?_
    refine tr_getI hX dX9_figures_87 sh_161 (by decide) rfl inlX9 (by decide) rfl (hS.e (Nat.le_of_ble_eq_true rfl)) k_10_13 (fun v2 => ?_)
    refine tr_callV0I (st := []) 1 hX hS dX9_figures_90 (ok_X9_byteAt v2) sh_161 (by decide) rfl (Nat.le_of_ble_eq_true rfl) k_10_19 k_10_20 k_10_21 k_1_5 k_10_22 hy_X9_byteAt rfl rfl (Nat.le_of_ble_eq_true rfl) rfl (fun v3 => ?_)
    refine tr_iload_n 2 hX dX9_figures_93 rfl rfl ?_
    refine tr_iload_n 1 hX dX9_figures_94 rfl rfl ?_
    refine tr_iconst 1 hX dX9_figures_95 (by decide) ?_
    refine tr_isub hX dX9_figures_96 ?_
    refine tr_ic_ge 105 hX dX9_figures_97 (by decide) (fun c4 => ?_) (fun c4 => ?_)
    · refine tr_bipush 59 hX dX9_figures_105 (by decide) ?_
      exact tr_sub [0, 1, 2, 4] rfl (t_X9_figures_107 hX hS s2 x1 x2 x4 59 v3 hs2)
    · refine tr_bipush 44 hX dX9_figures_100 (by decide) ?_
      refine tr_goto 107 hX dX9_figures_102 (by decide) ?_
      exact tr_sub [0, 1, 2, 4] rfl (t_X9_figures_107 hX hS s2 x1 x2 x4 44 v3 hs2)
def f_X9_figures_12 (s2 : Int32 → M Int32) (x1 : Int32) (x2 : Int32) (s12 : Int32 → Int32 → M Int32) (x3 : Int32) (x4 : Int32) : M Int32 :=
  rI 161 17 (fun v1 => bnd (f_X9_byteAt v1) (fun v2 => bnd (f_X9_in v2.toInt64 48 57) (fun v3 => if v3 = 0 then (f_X9_figures_73 s2 x1 x2 x3 x4) else (if 3 ≤ x3 then (f_X9_figures_73 s2 x1 x2 x3 x4) else (rI 161 17 (fun v4 => bnd (f_X9_byteAt v4) (fun v5 => nm ((((10 * x4) + v5) - 48)) (fun v6 => rI 161 17 (fun v7 => wI 161 17 (v7 + 1) (s12 (x3 + 1) v6))))))))))
set_option maxRecDepth 10000 in
set_option maxHeartbeats 4000000 in
theorem t_X9_figures_12 {X : Cx} (hX : Good X RX9 cX9_figures ((some .boolean))) (hS : Sta X 1 25 5) (s2 : Int32 → M Int32) (x1 : Int32) (x2 : Int32) (hs2 : ∀ x2 : Int32, Tr X eI 0 0 2 [(0, .ref (cxAd X 161)), (1, .int x1), (2, .int x2)] [] (s2 x2)) : ∀ s12 : Int32 → Int32 → M Int32, (∀ x3 : Int32, ∀ x4 : Int32, Tr X eI 0 0 12 [(0, .ref (cxAd X 161)), (1, .int x1), (2, .int x2), (3, .int x3), (4, .int x4)] [] (s12 x3 x4)) → ∀ x3 : Int32, ∀ x4 : Int32, Tr X eI 0 0 12 [(0, .ref (cxAd X 161)), (1, .int x1), (2, .int x2), (3, .int x3), (4, .int x4)] [] (f_X9_figures_12 s2 x1 x2 s12 x3 x4) := by
  intro s12 hs12 x3 x4
  unfold f_X9_figures_12
  refine tr_aload_n 0 hX dX9_figures_12 rfl rfl ?_
  refine tr_aload_n 0 hX dX9_figures_13 rfl rfl ?_
  refine tr_getI hX dX9_figures_14 sh_161 (by decide) rfl inlX9 (by decide) rfl (hS.e (Nat.le_of_ble_eq_true rfl)) k_10_13 (fun v1 => ?_)
  refine tr_callV0I (st := []) 1 hX hS dX9_figures_17 (ok_X9_byteAt v1) sh_161 (by decide) rfl (Nat.le_of_ble_eq_true rfl) k_10_19 k_10_20 k_10_21 k_1_5 k_10_22 hy_X9_byteAt rfl rfl (Nat.le_of_ble_eq_true rfl) rfl (fun v2 => ?_)
  refine tr_i2l hX dX9_figures_20 ?_
  refine tr_ldc2 hX dX9_figures_21 k_11_7 ?_
  refine tr_ldc2 hX dX9_figures_24 k_11_8 ?_
  refine tr_callS0I (st := []) 3 hX hS dX9_figures_27 (ok_X9_in v2.toInt64 48 57) k_8_8 k_8_9 k_1_5 k_8_10 hy_X9_in.2 rfl rfl (Nat.le_of_ble_eq_true rfl) rfl (fun v3 => ?_)
  refine tr_if_eq 73 hX dX9_figures_30 (by decide) (fun c9 => ?_) (fun c9 => ?_)
  · exact tr_sub [0, 1, 2, 3, 4] rfl (t_X9_figures_73 hX hS s2 x1 x2 x3 x4 hs2)
  · refine tr_iload_n 3 hX dX9_figures_33 rfl rfl ?_
    refine tr_iconst 3 hX dX9_figures_34 (by decide) ?_
    refine tr_ic_ge 73 hX dX9_figures_35 (by decide) (fun c8 => ?_) (fun c8 => ?_)
    · exact tr_sub [0, 1, 2, 3, 4] rfl (t_X9_figures_73 hX hS s2 x1 x2 x3 x4 hs2)
    · refine tr_bipush 10 hX dX9_figures_38 (by decide) ?_
      refine tr_iload 4 hX dX9_figures_40 rfl ?_
      refine tr_imul hX dX9_figures_42 ?_
      refine tr_aload_n 0 hX dX9_figures_43 rfl rfl ?_
      refine tr_aload_n 0 hX dX9_figures_44 rfl rfl ?_
      refine tr_getI hX dX9_figures_45 sh_161 (by decide) rfl inlX9 (by decide) rfl (hS.e (Nat.le_of_ble_eq_true rfl)) k_10_13 (fun v4 => ?_)
      refine tr_callV0I (st := [.int (10 * x4)]) 1 hX hS dX9_figures_48 (ok_X9_byteAt v4) sh_161 (by decide) rfl (Nat.le_of_ble_eq_true rfl) k_10_19 k_10_20 k_10_21 k_1_5 k_10_22 hy_X9_byteAt rfl rfl (Nat.le_of_ble_eq_true rfl) rfl (fun v5 => ?_)
      refine tr_iadd hX dX9_figures_51 ?_
      refine tr_bipush 48 hX dX9_figures_52 (by decide) ?_
      refine tr_isub hX dX9_figures_54 ?_
      refine tr_nm (fun v6 ev6 => ?_)
      refine tr_istore hX dX9_figures_55 (hS.n (by decide)) rfl ?_
      refine tr_iinc (x3 + 1) 4 hX dX9_figures_57 rfl (congrArg (fun z => x3 + z) (by decide)) (hS.n (by decide)) rfl ?_
      refine tr_aload_n 2 hX dX9_figures_60 rfl rfl ?_
      refine tr_dup hX dX9_figures_61 rfl ?_
      refine tr_getI hX dX9_figures_62 sh_161 (by decide) rfl inlX9 (by decide) rfl (hS.e (Nat.le_of_ble_eq_true rfl)) k_10_13 (fun v7 => ?_)
      refine tr_iconst 1 hX dX9_figures_65 (by decide) ?_
      refine tr_iadd hX dX9_figures_66 ?_
      refine tr_putI hX dX9_figures_67 sh_161 (by decide) rfl inlX9 tyX9 tyX9_ok nmX9 (by decide) rfl (hS.e (Nat.le_of_ble_eq_true rfl)) k_10_13 rfl rfl rfl rfl ?_
      refine tr_goto 12 hX dX9_figures_70 (by decide) ?_
      exact tr_sub [2, 3, 4, 0, 1] rfl (hs12 (x3 + 1) v6)
def f_X9_figures_2 (x1 : Int32) (s2 : Int32 → M Int32) (x2 : Int32) : M Int32 :=
  if x1 ≤ x2 then (gd ((1 : Int32) = 0 ∨ (1 : Int32) = 1) (rt 1)) else (fix2 FU (f_X9_figures_12 s2 x1 x2) 0 0)
set_option maxRecDepth 10000 in
set_option maxHeartbeats 4000000 in
theorem t_X9_figures_2 {X : Cx} (hX : Good X RX9 cX9_figures ((some .boolean))) (hS : Sta X 1 25 5) (x1 : Int32) : ∀ s2 : Int32 → M Int32, (∀ x2 : Int32, Tr X eI 0 0 2 [(0, .ref (cxAd X 161)), (1, .int x1), (2, .int x2)] [] (s2 x2)) → ∀ x2 : Int32, Tr X eI 0 0 2 [(0, .ref (cxAd X 161)), (1, .int x1), (2, .int x2)] [] (f_X9_figures_2 x1 s2 x2) := by
  intro s2 hs2 x2
  unfold f_X9_figures_2
  refine tr_iload_n 2 hX dX9_figures_2 rfl rfl ?_
  refine tr_iload_n 1 hX dX9_figures_3 rfl rfl ?_
  refine tr_ic_ge 136 hX dX9_figures_4 (by decide) (fun c1 => ?_) (fun c1 => ?_)
  · refine tr_iconst 1 hX dX9_figures_136 (by decide) ?_
    exact tr_zret0 hX hS dX9_figures_137
  · refine tr_iconst 0 hX dX9_figures_7 (by decide) ?_
    refine tr_istore_n hX dX9_figures_8 rfl (hS.n (by decide)) rfl ?_
    refine tr_iconst 0 hX dX9_figures_9 (by decide) ?_
    refine tr_istore hX dX9_figures_10 (hS.n (by decide)) rfl ?_
    exact tr_sub [2, 3, 4, 1, 0] rfl (tr_fix2 (lvf := fun x3 x4 => [(0, .ref (cxAd X 161)), (1, .int x1), (2, .int x2), (3, .int x3), (4, .int x4)]) (t_X9_figures_12 hX hS s2 x1 x2 hs2) FU 0 0)
def f_X9_figures (x1 : Int32) : M Int32 :=
  fix1 FU (f_X9_figures_2 x1) 0
set_option maxRecDepth 10000 in
set_option maxHeartbeats 4000000 in
theorem t_X9_figures_0 {X : Cx} (hX : Good X RX9 cX9_figures ((some .boolean))) (hS : Sta X 1 25 5) (x1 : Int32) : Tr X eI 0 0 0 [(0, .ref (cxAd X 161)), (1, .int x1)] [] (f_X9_figures x1) := by
  unfold f_X9_figures
  refine tr_iconst 0 hX dX9_figures_0 (by decide) ?_
  refine tr_istore_n hX dX9_figures_1 rfl (hS.n (by decide)) rfl ?_
  exact tr_sub [1, 2, 0] rfl (tr_fix1 (lvf := fun x2 => [(0, .ref (cxAd X 161)), (1, .int x1), (2, .int x2)]) (t_X9_figures_2 hX hS x1) FU 0)
theorem ok_X9_figures {l : Launch} {E : Ev} (x1 : Int32)  : Ok l E Gall yX9_figures cX9_figures 5 ((some .boolean)) (rmz 1 25) eI [.ref (E.2.1 161), .int x1] (f_X9_figures x1) := by
  refine ok_of0 (by decide) (Nat.le_of_ble_eq_true rfl) (fun X hX hV hS => ?_)
  subst hV
  exact t_X9_figures_0 hX hS x1
def f_X9_isEdge (x0 : Int32) : M Int32 :=
  bnd (f_X9_in x0.toInt64 0 7) (fun v1 => gd (v1 = 0 ∨ v1 = 1) (rt v1))
set_option maxRecDepth 10000 in
set_option maxHeartbeats 4000000 in
theorem t_X9_isEdge_0 {X : Cx} (hX : Good X RX9 cX9_isEdge ((some .boolean))) (hS : Sta X 1 25 1) (x0 : Int32) : Tr X eI 0 0 0 [(0, .int x0)] [] (f_X9_isEdge x0) := by
  unfold f_X9_isEdge
  refine tr_iload_n 0 hX dX9_isEdge_0 rfl rfl ?_
  refine tr_i2l hX dX9_isEdge_1 ?_
  refine tr_lconst 0 hX dX9_isEdge_2 (by decide) ?_
  refine tr_ldc2 hX dX9_isEdge_3 k_11_13 ?_
  refine tr_callS0I (st := []) 3 hX hS dX9_isEdge_6 (ok_X9_in x0.toInt64 0 7) k_8_8 k_8_9 k_1_5 k_8_10 hy_X9_in.2 rfl rfl (Nat.le_of_ble_eq_true rfl) rfl (fun v1 => ?_)
  exact tr_zret0 hX hS dX9_isEdge_9
theorem ok_X9_isEdge {l : Launch} {E : Ev} (x0 : Int32)  : Ok l E Gall yX9_isEdge cX9_isEdge 1 ((some .boolean)) (rmz 1 25) eI [.int x0] (f_X9_isEdge x0) := by
  refine ok_of0 (by decide) (Nat.le_of_ble_eq_true rfl) (fun X hX hV hS => ?_)
  subst hV
  exact t_X9_isEdge_0 hX hS x0
def f_X9_wordItem_54  : M Int32 :=
  gd ((0 : Int32) = 0 ∨ (0 : Int32) = 1) (rt 0)
set_option maxRecDepth 10000 in
set_option maxHeartbeats 4000000 in
theorem t_X9_wordItem_54 {X : Cx} (hX : Good X RX9 cX9_wordItem ((some .boolean))) (hS : Sta X 2 49 3) : Tr X eI 0 0 54 [] [] (f_X9_wordItem_54) := by
  unfold f_X9_wordItem_54
  refine tr_iconst 0 hX dX9_wordItem_54 (by decide) ?_
  exact tr_zret0 hX hS dX9_wordItem_55
def f_X9_wordItem_134 (s134 : Int32 → M Int32) (x1 : Int32) : M Int32 :=
  if 3 ≤ x1 then (aI 163 2 1 (fun v1 => sI 163 2 1 (v1 + 1) (gd ((1 : Int32) = 0 ∨ (1 : Int32) = 1) (rt 1)))) else (aI 163 2 1 (fun v3 => aI 175 4 x1 (fun v5 => sI 164 96 ((48 + (3 * v3)) + x1) v5 (s134 (x1 + 1)))))
set_option maxRecDepth 10000 in
set_option maxHeartbeats 4000000 in
theorem t_X9_wordItem_134 {X : Cx} (hX : Good X RX9 cX9_wordItem ((some .boolean))) (hS : Sta X 2 49 3) : ∀ s134 : Int32 → M Int32, (∀ x1 : Int32, Tr X eI 0 0 134 [(0, .ref (cxAd X 161)), (1, .int x1)] [] (s134 x1)) → ∀ x1 : Int32, Tr X eI 0 0 134 [(0, .ref (cxAd X 161)), (1, .int x1)] [] (f_X9_wordItem_134 s134 x1) := by
  intro s134 hs134 x1
  unfold f_X9_wordItem_134
  refine tr_iload_n 1 hX dX9_wordItem_134 rfl rfl ?_
  refine tr_iconst 3 hX dX9_wordItem_135 (by decide) ?_
  refine tr_ic_ge 169 hX dX9_wordItem_136 (by decide) (fun c7 => ?_) (fun c7 => ?_)
  · refine tr_aload_n 0 hX dX9_wordItem_169 rfl rfl ?_
    refine tr_getF hX dX9_wordItem_170 sh_161 (by decide) rfl inlX9 (by decide) rfl (hS.g (Nat.le_of_ble_eq_true rfl)) cr_161_2 k_6_12 mq_161 ?_
    refine tr_iconst 1 hX dX9_wordItem_173 (by decide) ?_
    refine tr_dup2 hX dX9_wordItem_174 rfl rfl ?_
    refine tr_iald hX dX9_wordItem_175 sh_163 (hS.e (Nat.le_of_ble_eq_true rfl)) (fun hb2 v1 => ?_)
    refine tr_iconst 1 hX dX9_wordItem_176 (by decide) ?_
    refine tr_iadd hX dX9_wordItem_177 ?_
    refine tr_iast hX dX9_wordItem_178 sh_163 (hS.e (Nat.le_of_ble_eq_true rfl)) (fun _ => ?_)
    refine tr_iconst 1 hX dX9_wordItem_179 (by decide) ?_
    exact tr_zret0 hX hS dX9_wordItem_180
  · refine tr_aload_n 0 hX dX9_wordItem_139 rfl rfl ?_
    refine tr_getF hX dX9_wordItem_140 sh_161 (by decide) rfl inlX9 (by decide) rfl (hS.g (Nat.le_of_ble_eq_true rfl)) cr_161_3 k_6_13 mq_161 ?_
    refine tr_bipush 48 hX dX9_wordItem_143 (by decide) ?_
    refine tr_iconst 3 hX dX9_wordItem_145 (by decide) ?_
    refine tr_aload_n 0 hX dX9_wordItem_146 rfl rfl ?_
    refine tr_getF hX dX9_wordItem_147 sh_161 (by decide) rfl inlX9 (by decide) rfl (hS.g (Nat.le_of_ble_eq_true rfl)) cr_161_2 k_6_12 mq_161 ?_
    refine tr_iconst 1 hX dX9_wordItem_150 (by decide) ?_
    refine tr_iald hX dX9_wordItem_151 sh_163 (hS.e (Nat.le_of_ble_eq_true rfl)) (fun hb4 v3 => ?_)
    refine tr_imul hX dX9_wordItem_152 ?_
    refine tr_iadd hX dX9_wordItem_153 ?_
    refine tr_iload_n 1 hX dX9_wordItem_154 rfl rfl ?_
    refine tr_iadd hX dX9_wordItem_155 ?_
    refine tr_aload_n 0 hX dX9_wordItem_156 rfl rfl ?_
    refine tr_getF hX dX9_wordItem_157 sh_161 (by decide) rfl inlX9 (by decide) rfl (hS.g (Nat.le_of_ble_eq_true rfl)) cr_161_18 k_7_0 mq_161 ?_
    refine tr_iload_n 1 hX dX9_wordItem_160 rfl rfl ?_
    refine tr_iald hX dX9_wordItem_161 sh_175 (hS.e (Nat.le_of_ble_eq_true rfl)) (fun hb6 v5 => ?_)
    refine tr_iast hX dX9_wordItem_162 sh_164 (hS.e (Nat.le_of_ble_eq_true rfl)) (fun _ => ?_)
    refine tr_iinc (x1 + 1) 1 hX dX9_wordItem_163 rfl (congrArg (fun z => x1 + z) (by decide)) (hS.n (by decide)) rfl ?_
    refine tr_goto 134 hX dX9_wordItem_166 (by decide) ?_
    exact tr_sub [1, 0] rfl (hs134 (x1 + 1))
def f_X9_wordItem_126 (s58 : Int32 → M Int32) (x1 : Int32) : M Int32 :=
  s58 (x1 + 1)
set_option maxRecDepth 10000 in
set_option maxHeartbeats 4000000 in
theorem t_X9_wordItem_126 {X : Cx} (hX : Good X RX9 cX9_wordItem ((some .boolean))) (hS : Sta X 2 49 3) (s58 : Int32 → M Int32) (x1 : Int32) (hs58 : ∀ x1 : Int32, Tr X eI 0 0 58 [(0, .ref (cxAd X 161)), (1, .int x1)] [] (s58 x1)) : Tr X eI 0 0 126 [(0, .ref (cxAd X 161)), (1, .int x1)] [] (f_X9_wordItem_126 s58 x1) := by
  unfold f_X9_wordItem_126
  refine tr_iinc (x1 + 1) 1 hX dX9_wordItem_126 rfl (congrArg (fun z => x1 + z) (by decide)) (hS.n (by decide)) rfl ?_
  refine tr_goto 58 hX dX9_wordItem_129 (by decide) ?_
  exact tr_sub [1, 0] rfl (hs58 (x1 + 1))
def f_X9_wordItem_58 (s58 : Int32 → M Int32) (x1 : Int32) : M Int32 :=
  aI 163 2 1 (fun v1 => if v1 ≤ x1 then (fix1 FU (f_X9_wordItem_134) 0) else (nm ((48 + (3 * x1))) (fun v3 => aI 164 96 v3 (fun v4 => aI 175 4 0 (fun v6 => if v4 = v6 then (aI 164 96 (v3 + 1) (fun v8 => aI 175 4 1 (fun v10 => if v8 = v10 then (aI 164 96 (v3 + 2) (fun v12 => aI 175 4 2 (fun v14 => if v12 = v14 then (gd ((0 : Int32) = 0 ∨ (0 : Int32) = 1) (rt 0)) else (f_X9_wordItem_126 s58 x1)))) else (f_X9_wordItem_126 s58 x1)))) else (f_X9_wordItem_126 s58 x1))))))
set_option maxRecDepth 10000 in
set_option maxHeartbeats 4000000 in
theorem t_X9_wordItem_58 {X : Cx} (hX : Good X RX9 cX9_wordItem ((some .boolean))) (hS : Sta X 2 49 3) : ∀ s58 : Int32 → M Int32, (∀ x1 : Int32, Tr X eI 0 0 58 [(0, .ref (cxAd X 161)), (1, .int x1)] [] (s58 x1)) → ∀ x1 : Int32, Tr X eI 0 0 58 [(0, .ref (cxAd X 161)), (1, .int x1)] [] (f_X9_wordItem_58 s58 x1) := by
  intro s58 hs58 x1
  unfold f_X9_wordItem_58
  refine tr_iload_n 1 hX dX9_wordItem_58 rfl rfl ?_
  refine tr_aload_n 0 hX dX9_wordItem_59 rfl rfl ?_
  refine tr_getF hX dX9_wordItem_60 sh_161 (by decide) rfl inlX9 (by decide) rfl (hS.g (Nat.le_of_ble_eq_true rfl)) cr_161_2 k_6_12 mq_161 ?_
  refine tr_iconst 1 hX dX9_wordItem_63 (by decide) ?_
  refine tr_iald hX dX9_wordItem_64 sh_163 (hS.e (Nat.le_of_ble_eq_true rfl)) (fun hb2 v1 => ?_)
  refine tr_ic_ge 132 hX dX9_wordItem_65 (by decide) (fun c19 => ?_) (fun c19 => ?_)
  · refine tr_iconst 0 hX dX9_wordItem_132 (by decide) ?_
    refine tr_istore_n hX dX9_wordItem_133 rfl (hS.n (by decide)) rfl ?_
    exact tr_sub [1, 0] rfl (tr_fix1 (lvf := fun x1 => [(0, .ref (cxAd X 161)), (1, .int x1)]) (t_X9_wordItem_134 hX hS) FU 0)
  · refine tr_bipush 48 hX dX9_wordItem_68 (by decide) ?_
    refine tr_iconst 3 hX dX9_wordItem_70 (by decide) ?_
    refine tr_iload_n 1 hX dX9_wordItem_71 rfl rfl ?_
    refine tr_imul hX dX9_wordItem_72 ?_
    refine tr_iadd hX dX9_wordItem_73 ?_
    refine tr_nm (fun v3 ev3 => ?_)
    refine tr_istore_n hX dX9_wordItem_74 rfl (hS.n (by decide)) rfl ?_
    refine tr_aload_n 1 hX dX9_wordItem_75 rfl rfl ?_
    refine tr_getF hX dX9_wordItem_76 sh_161 (by decide) rfl inlX9 (by decide) rfl (hS.g (Nat.le_of_ble_eq_true rfl)) cr_161_3 k_6_13 mq_161 ?_
    refine tr_iload_n 0 hX dX9_wordItem_79 rfl rfl ?_
    refine tr_iald hX dX9_wordItem_80 sh_164 (hS.e (Nat.le_of_ble_eq_true rfl)) (fun hb5 v4 => ?_)
    refine tr_aload_n 1 hX dX9_wordItem_81 rfl rfl ?_
    refine tr_getF hX dX9_wordItem_82 sh_161 (by decide) rfl inlX9 (by decide) rfl (hS.g (Nat.le_of_ble_eq_true rfl)) cr_161_18 k_7_0 mq_161 ?_
    refine tr_iconst 0 hX dX9_wordItem_85 (by decide) ?_
    refine tr_iald hX dX9_wordItem_86 sh_175 (hS.e (Nat.le_of_ble_eq_true rfl)) (fun hb7 v6 => ?_)
    refine tr_ic_ne 126 hX dX9_wordItem_87 (by decide) (fun c18 => ?_) (fun c18 => ?_)
    · refine tr_aload_n 1 hX dX9_wordItem_90 rfl rfl ?_
      refine tr_getF hX dX9_wordItem_91 sh_161 (by decide) rfl inlX9 (by decide) rfl (hS.g (Nat.le_of_ble_eq_true rfl)) cr_161_3 k_6_13 mq_161 ?_
      refine tr_iload_n 0 hX dX9_wordItem_94 rfl rfl ?_
      refine tr_iconst 1 hX dX9_wordItem_95 (by decide) ?_
      refine tr_iadd hX dX9_wordItem_96 ?_
      refine tr_iald hX dX9_wordItem_97 sh_164 (hS.e (Nat.le_of_ble_eq_true rfl)) (fun hb9 v8 => ?_)
      refine tr_aload_n 1 hX dX9_wordItem_98 rfl rfl ?_
      refine tr_getF hX dX9_wordItem_99 sh_161 (by decide) rfl inlX9 (by decide) rfl (hS.g (Nat.le_of_ble_eq_true rfl)) cr_161_18 k_7_0 mq_161 ?_
      refine tr_iconst 1 hX dX9_wordItem_102 (by decide) ?_
      refine tr_iald hX dX9_wordItem_103 sh_175 (hS.e (Nat.le_of_ble_eq_true rfl)) (fun hb11 v10 => ?_)
      refine tr_ic_ne 126 hX dX9_wordItem_104 (by decide) (fun c17 => ?_) (fun c17 => ?_)
      · refine tr_aload_n 1 hX dX9_wordItem_107 rfl rfl ?_
        refine tr_getF hX dX9_wordItem_108 sh_161 (by decide) rfl inlX9 (by decide) rfl (hS.g (Nat.le_of_ble_eq_true rfl)) cr_161_3 k_6_13 mq_161 ?_
        refine tr_iload_n 0 hX dX9_wordItem_111 rfl rfl ?_
        refine tr_iconst 2 hX dX9_wordItem_112 (by decide) ?_
        refine tr_iadd hX dX9_wordItem_113 ?_
        refine tr_iald hX dX9_wordItem_114 sh_164 (hS.e (Nat.le_of_ble_eq_true rfl)) (fun hb13 v12 => ?_)
        refine tr_aload_n 1 hX dX9_wordItem_115 rfl rfl ?_
        refine tr_getF hX dX9_wordItem_116 sh_161 (by decide) rfl inlX9 (by decide) rfl (hS.g (Nat.le_of_ble_eq_true rfl)) cr_161_18 k_7_0 mq_161 ?_
        refine tr_iconst 2 hX dX9_wordItem_119 (by decide) ?_
        refine tr_iald hX dX9_wordItem_120 sh_175 (hS.e (Nat.le_of_ble_eq_true rfl)) (fun hb15 v14 => ?_)
        refine tr_ic_ne 126 hX dX9_wordItem_121 (by decide) (fun c16 => ?_) (fun c16 => ?_)
        · refine tr_iconst 0 hX dX9_wordItem_124 (by decide) ?_
          exact tr_zret0 hX hS dX9_wordItem_125
        · exact tr_sub [1, 2] rfl (t_X9_wordItem_126 hX hS s58 x1 hs58)
      · exact tr_sub [1, 2] rfl (t_X9_wordItem_126 hX hS s58 x1 hs58)
    · exact tr_sub [1, 2] rfl (t_X9_wordItem_126 hX hS s58 x1 hs58)
def f_X9_wordItem  : M Int32 :=
  bnd (f_X9_figures 3) (fun v1 => if v1 = 0 then (f_X9_wordItem_54) else (aI 175 4 0 (fun v2 => bnd (f_X9_isEdge v2) (fun v4 => if v4 = 0 then (f_X9_wordItem_54) else (aI 175 4 1 (fun v5 => if 15 < v5 then (f_X9_wordItem_54) else (aI 175 4 2 (fun v7 => bnd (f_X9_isEdge v7) (fun v9 => if v9 = 0 then (f_X9_wordItem_54) else (aI 163 2 1 (fun v10 => if v10 = 16 then (f_X9_wordItem_54) else (fix1 FU (f_X9_wordItem_58) 0))))))))))))
set_option maxRecDepth 10000 in
set_option maxHeartbeats 4000000 in
theorem t_X9_wordItem_0 {X : Cx} (hX : Good X RX9 cX9_wordItem ((some .boolean))) (hS : Sta X 2 49 3) : Tr X eI 0 0 0 [(0, .ref (cxAd X 161))] [] (f_X9_wordItem) := by
  unfold f_X9_wordItem
  refine tr_aload_n 0 hX dX9_wordItem_0 rfl rfl ?_
  refine tr_iconst 3 hX dX9_wordItem_1 (by decide) ?_
  refine tr_callV0I (st := []) 1 hX hS dX9_wordItem_2 (ok_X9_figures 3) sh_161 (by decide) rfl (Nat.le_of_ble_eq_true rfl) k_11_3 k_11_4 k_11_5 k_1_5 k_11_6 hy_X9_figures rfl rfl (Nat.le_of_ble_eq_true rfl) rfl (fun v1 => ?_)
  refine tr_if_eq 54 hX dX9_wordItem_5 (by decide) (fun c16 => ?_) (fun c16 => ?_)
  · exact tr_sub [] rfl (t_X9_wordItem_54 hX hS)
  · refine tr_aload_n 0 hX dX9_wordItem_8 rfl rfl ?_
    refine tr_getF hX dX9_wordItem_9 sh_161 (by decide) rfl inlX9 (by decide) rfl (hS.g (Nat.le_of_ble_eq_true rfl)) cr_161_18 k_7_0 mq_161 ?_
    refine tr_iconst 0 hX dX9_wordItem_12 (by decide) ?_
    refine tr_iald hX dX9_wordItem_13 sh_175 (hS.e (Nat.le_of_ble_eq_true rfl)) (fun hb3 v2 => ?_)
    refine tr_callS0I (st := []) 1 hX hS dX9_wordItem_14 (ok_X9_isEdge v2) k_11_10 k_11_11 k_1_5 k_11_12 hy_X9_isEdge.2 rfl rfl (Nat.le_of_ble_eq_true rfl) rfl (fun v4 => ?_)
    refine tr_if_eq 54 hX dX9_wordItem_17 (by decide) (fun c15 => ?_) (fun c15 => ?_)
    · exact tr_sub [] rfl (t_X9_wordItem_54 hX hS)
    · refine tr_aload_n 0 hX dX9_wordItem_20 rfl rfl ?_
      refine tr_getF hX dX9_wordItem_21 sh_161 (by decide) rfl inlX9 (by decide) rfl (hS.g (Nat.le_of_ble_eq_true rfl)) cr_161_18 k_7_0 mq_161 ?_
      refine tr_iconst 1 hX dX9_wordItem_24 (by decide) ?_
      refine tr_iald hX dX9_wordItem_25 sh_175 (hS.e (Nat.le_of_ble_eq_true rfl)) (fun hb6 v5 => ?_)
      refine tr_bipush 15 hX dX9_wordItem_26 (by decide) ?_
      refine tr_ic_gt 54 hX dX9_wordItem_28 (by decide) (fun c14 => ?_) (fun c14 => ?_)
      · exact tr_sub [] rfl (t_X9_wordItem_54 hX hS)
      · refine tr_aload_n 0 hX dX9_wordItem_31 rfl rfl ?_
        refine tr_getF hX dX9_wordItem_32 sh_161 (by decide) rfl inlX9 (by decide) rfl (hS.g (Nat.le_of_ble_eq_true rfl)) cr_161_18 k_7_0 mq_161 ?_
        refine tr_iconst 2 hX dX9_wordItem_35 (by decide) ?_
        refine tr_iald hX dX9_wordItem_36 sh_175 (hS.e (Nat.le_of_ble_eq_true rfl)) (fun hb8 v7 => ?_)
        refine tr_callS0I (st := []) 1 hX hS dX9_wordItem_37 (ok_X9_isEdge v7) k_11_10 k_11_11 k_1_5 k_11_12 hy_X9_isEdge.2 rfl rfl (Nat.le_of_ble_eq_true rfl) rfl (fun v9 => ?_)
        refine tr_if_eq 54 hX dX9_wordItem_40 (by decide) (fun c13 => ?_) (fun c13 => ?_)
        · exact tr_sub [] rfl (t_X9_wordItem_54 hX hS)
        · refine tr_aload_n 0 hX dX9_wordItem_43 rfl rfl ?_
          refine tr_getF hX dX9_wordItem_44 sh_161 (by decide) rfl inlX9 (by decide) rfl (hS.g (Nat.le_of_ble_eq_true rfl)) cr_161_2 k_6_12 mq_161 ?_
          refine tr_iconst 1 hX dX9_wordItem_47 (by decide) ?_
          refine tr_iald hX dX9_wordItem_48 sh_163 (hS.e (Nat.le_of_ble_eq_true rfl)) (fun hb11 v10 => ?_)
          refine tr_bipush 16 hX dX9_wordItem_49 (by decide) ?_
          refine tr_ic_ne 56 hX dX9_wordItem_51 (by decide) (fun c12 => ?_) (fun c12 => ?_)
          · exact tr_sub [] rfl (t_X9_wordItem_54 hX hS)
          · refine tr_iconst 0 hX dX9_wordItem_56 (by decide) ?_
            refine tr_istore_n hX dX9_wordItem_57 rfl (hS.n (by decide)) rfl ?_
            exact tr_sub [1, 0] rfl (tr_fix1 (lvf := fun x1 => [(0, .ref (cxAd X 161)), (1, .int x1)]) (t_X9_wordItem_58 hX hS) FU 0)
theorem ok_X9_wordItem {l : Launch} {E : Ev}   : Ok l E Gall yX9_wordItem cX9_wordItem 3 ((some .boolean)) (rmz 2 49) eI [.ref (E.2.1 161)] (f_X9_wordItem) := by
  refine ok_of0 (by decide) (Nat.le_of_ble_eq_true rfl) (fun X hX hV hS => ?_)
  subst hV
  exact t_X9_wordItem_0 hX hS 
def f_X9_item_186  : M Int32 :=
  gd ((0 : Int32) = 0 ∨ (0 : Int32) = 1) (rt 0)
set_option maxRecDepth 10000 in
set_option maxHeartbeats 4000000 in
theorem t_X9_item_186 {X : Cx} (hX : Good X RX9 cX9_item ((some .boolean))) (hS : Sta X 3 71 2) : Tr X eI 0 0 186 [] [] (f_X9_item_186) := by
  unfold f_X9_item_186
  refine tr_iconst 0 hX dX9_item_186 (by decide) ?_
  exact tr_zret0 hX hS dX9_item_187
def f_X9_item_117  : M Int32 :=
  gd ((0 : Int32) = 0 ∨ (0 : Int32) = 1) (rt 0)
set_option maxRecDepth 10000 in
set_option maxHeartbeats 4000000 in
theorem t_X9_item_117 {X : Cx} (hX : Good X RX9 cX9_item ((some .boolean))) (hS : Sta X 3 71 2) : Tr X eI 0 0 117 [] [] (f_X9_item_117) := by
  unfold f_X9_item_117
  refine tr_iconst 0 hX dX9_item_117 (by decide) ?_
  exact tr_zret0 hX hS dX9_item_118
def f_X9_item  : M Int32 :=
  rI 161 17 (fun v1 => bnd (f_X9_byteAt v1) (fun v2 => rI 161 17 (fun v3 => wI 161 17 (v3 + 1) (if v2 = 104 then (bnd (f_X9_figures 2) (fun v4 => if v4 = 0 then (f_X9_item_186) else (aI 175 4 0 (fun v5 => bnd (f_X9_in v5.toInt64 0 4) (fun v7 => if v7 = 0 then (f_X9_item_186) else (aI 175 4 0 (fun v8 => aI 175 4 1 (fun v10 => sI 166 10 (5 + v8) v10 (gd ((1 : Int32) = 0 ∨ (1 : Int32) = 1) (rt 1)))))))))) else (if v2 = 106 then (bnd (f_X9_figures 4) (fun v15 => if v15 = 0 then (f_X9_item_117) else (aI 175 4 0 (fun v16 => bnd (f_X9_isEdge v16) (fun v18 => if v18 = 0 then (f_X9_item_117) else (aI 175 4 1 (fun v19 => bnd (f_X9_isEdge v19) (fun v21 => if v21 = 0 then (f_X9_item_117) else (aI 175 4 2 (fun v22 => bnd (f_X9_isEdge v22) (fun v24 => if v24 = 0 then (f_X9_item_117) else (aI 175 4 3 (fun v25 => bnd (f_X9_isEdge v25) (fun v27 => if v27 = 0 then (f_X9_item_117) else (aI 175 4 0 (fun v28 => aI 175 4 1 (fun v30 => aI 175 4 2 (fun v32 => aI 175 4 3 (fun v34 => sI 165 128 ((64 + (8 * v28)) + v30) ((8 * v32) + v34) (gd ((1 : Int32) = 0 ∨ (1 : Int32) = 1) (rt 1))))))))))))))))))))) else (if v2 = 119 then (bnd f_X9_wordItem (fun v42 => gd (v42 = 0 ∨ v42 = 1) (rt v42))) else (gd ((0 : Int32) = 0 ∨ (0 : Int32) = 1) (rt 0))))))))
set_option maxRecDepth 10000 in
set_option maxHeartbeats 4000000 in
theorem t_X9_item_0 {X : Cx} (hX : Good X RX9 cX9_item ((some .boolean))) (hS : Sta X 3 71 2) : Tr X eI 0 0 0 [(0, .ref (cxAd X 161))] [] (f_X9_item) := by
  unfold f_X9_item
  refine tr_aload_n 0 hX dX9_item_0 rfl rfl ?_
  refine tr_aload_n 0 hX dX9_item_1 rfl rfl ?_
  refine tr_getI hX dX9_item_2 sh_161 (by decide) rfl inlX9 (by decide) rfl (hS.e (Nat.le_of_ble_eq_true rfl)) k_10_13 (fun v1 => ?_)
  refine tr_callV0I (st := []) 1 hX hS dX9_item_5 (ok_X9_byteAt v1) sh_161 (by decide) rfl (Nat.le_of_ble_eq_true rfl) k_10_19 k_10_20 k_10_21 k_1_5 k_10_22 hy_X9_byteAt rfl rfl (Nat.le_of_ble_eq_true rfl) rfl (fun v2 => ?_)
  refine tr_istore_n hX dX9_item_8 rfl (hS.n (by decide)) rfl ?_
  refine tr_aload_n 1 hX dX9_item_9 rfl rfl ?_
  refine tr_dup hX dX9_item_10 rfl ?_
  refine tr_getI hX dX9_item_11 sh_161 (by decide) rfl inlX9 (by decide) rfl (hS.e (Nat.le_of_ble_eq_true rfl)) k_10_13 (fun v3 => ?_)
  refine tr_iconst 1 hX dX9_item_14 (by decide) ?_
  refine tr_iadd hX dX9_item_15 ?_
  refine tr_putI hX dX9_item_16 sh_161 (by decide) rfl inlX9 tyX9 tyX9_ok nmX9 (by decide) rfl (hS.e (Nat.le_of_ble_eq_true rfl)) k_10_13 rfl rfl rfl rfl ?_
  refine tr_iload_n 0 hX dX9_item_19 rfl rfl ?_
  refine tr_case 104 (fun c14 => ?_) (fun c14 => ?_)
  · refine tr_look (off := 141) 161 hX dX9_item_20 (by decide) (by rw [c14]; decide) (by decide) ?_
    refine tr_aload_n 1 hX dX9_item_161 rfl rfl ?_
    refine tr_iconst 2 hX dX9_item_162 (by decide) ?_
    refine tr_callV0I (st := []) 1 hX hS dX9_item_163 (ok_X9_figures 2) sh_161 (by decide) rfl (Nat.le_of_ble_eq_true rfl) k_11_3 k_11_4 k_11_5 k_1_5 k_11_6 hy_X9_figures rfl rfl (Nat.le_of_ble_eq_true rfl) rfl (fun v4 => ?_)
    refine tr_if_eq 186 hX dX9_item_166 (by decide) (fun c13 => ?_) (fun c13 => ?_)
    · exact tr_sub [] rfl (t_X9_item_186 hX hS)
    · refine tr_aload_n 1 hX dX9_item_169 rfl rfl ?_
      refine tr_getF hX dX9_item_170 sh_161 (by decide) rfl inlX9 (by decide) rfl (hS.g (Nat.le_of_ble_eq_true rfl)) cr_161_18 k_7_0 mq_161 ?_
      refine tr_iconst 0 hX dX9_item_173 (by decide) ?_
      refine tr_iald hX dX9_item_174 sh_175 (hS.e (Nat.le_of_ble_eq_true rfl)) (fun hb6 v5 => ?_)
      refine tr_i2l hX dX9_item_175 ?_
      refine tr_lconst 0 hX dX9_item_176 (by decide) ?_
      refine tr_ldc2 hX dX9_item_177 k_10_18 ?_
      refine tr_callS0I (st := []) 3 hX hS dX9_item_180 (ok_X9_in v5.toInt64 0 4) k_8_8 k_8_9 k_1_5 k_8_10 hy_X9_in.2 rfl rfl (Nat.le_of_ble_eq_true rfl) rfl (fun v7 => ?_)
      refine tr_if_ne 188 hX dX9_item_183 (by decide) (fun c12 => ?_) (fun c12 => ?_)
      · exact tr_sub [] rfl (t_X9_item_186 hX hS)
      · refine tr_aload_n 1 hX dX9_item_188 rfl rfl ?_
        refine tr_getF hX dX9_item_189 sh_161 (by decide) rfl inlX9 (by decide) rfl (hS.g (Nat.le_of_ble_eq_true rfl)) cr_161_5 k_6_15 mq_161 ?_
        refine tr_iconst 5 hX dX9_item_192 (by decide) ?_
        refine tr_aload_n 1 hX dX9_item_193 rfl rfl ?_
        refine tr_getF hX dX9_item_194 sh_161 (by decide) rfl inlX9 (by decide) rfl (hS.g (Nat.le_of_ble_eq_true rfl)) cr_161_18 k_7_0 mq_161 ?_
        refine tr_iconst 0 hX dX9_item_197 (by decide) ?_
        refine tr_iald hX dX9_item_198 sh_175 (hS.e (Nat.le_of_ble_eq_true rfl)) (fun hb9 v8 => ?_)
        refine tr_iadd hX dX9_item_199 ?_
        refine tr_aload_n 1 hX dX9_item_200 rfl rfl ?_
        refine tr_getF hX dX9_item_201 sh_161 (by decide) rfl inlX9 (by decide) rfl (hS.g (Nat.le_of_ble_eq_true rfl)) cr_161_18 k_7_0 mq_161 ?_
        refine tr_iconst 1 hX dX9_item_204 (by decide) ?_
        refine tr_iald hX dX9_item_205 sh_175 (hS.e (Nat.le_of_ble_eq_true rfl)) (fun hb11 v10 => ?_)
        refine tr_iast hX dX9_item_206 sh_166 (hS.e (Nat.le_of_ble_eq_true rfl)) (fun _ => ?_)
        refine tr_iconst 1 hX dX9_item_207 (by decide) ?_
        exact tr_zret0 hX hS dX9_item_208
  refine tr_case 106 (fun c41 => ?_) (fun c41 => ?_)
  · refine tr_look (off := 41) 61 hX dX9_item_20 (by decide) (by rw [c41]; decide) (by decide) ?_
    refine tr_aload_n 1 hX dX9_item_61 rfl rfl ?_
    refine tr_iconst 4 hX dX9_item_62 (by decide) ?_
    refine tr_callV0I (st := []) 1 hX hS dX9_item_63 (ok_X9_figures 4) sh_161 (by decide) rfl (Nat.le_of_ble_eq_true rfl) k_11_3 k_11_4 k_11_5 k_1_5 k_11_6 hy_X9_figures rfl rfl (Nat.le_of_ble_eq_true rfl) rfl (fun v15 => ?_)
    refine tr_if_eq 117 hX dX9_item_66 (by decide) (fun c40 => ?_) (fun c40 => ?_)
    · exact tr_sub [] rfl (t_X9_item_117 hX hS)
    · refine tr_aload_n 1 hX dX9_item_69 rfl rfl ?_
      refine tr_getF hX dX9_item_70 sh_161 (by decide) rfl inlX9 (by decide) rfl (hS.g (Nat.le_of_ble_eq_true rfl)) cr_161_18 k_7_0 mq_161 ?_
      refine tr_iconst 0 hX dX9_item_73 (by decide) ?_
      refine tr_iald hX dX9_item_74 sh_175 (hS.e (Nat.le_of_ble_eq_true rfl)) (fun hb17 v16 => ?_)
      refine tr_callS0I (st := []) 1 hX hS dX9_item_75 (ok_X9_isEdge v16) k_11_10 k_11_11 k_1_5 k_11_12 hy_X9_isEdge.2 rfl rfl (Nat.le_of_ble_eq_true rfl) rfl (fun v18 => ?_)
      refine tr_if_eq 117 hX dX9_item_78 (by decide) (fun c39 => ?_) (fun c39 => ?_)
      · exact tr_sub [] rfl (t_X9_item_117 hX hS)
      · refine tr_aload_n 1 hX dX9_item_81 rfl rfl ?_
        refine tr_getF hX dX9_item_82 sh_161 (by decide) rfl inlX9 (by decide) rfl (hS.g (Nat.le_of_ble_eq_true rfl)) cr_161_18 k_7_0 mq_161 ?_
        refine tr_iconst 1 hX dX9_item_85 (by decide) ?_
        refine tr_iald hX dX9_item_86 sh_175 (hS.e (Nat.le_of_ble_eq_true rfl)) (fun hb20 v19 => ?_)
        refine tr_callS0I (st := []) 1 hX hS dX9_item_87 (ok_X9_isEdge v19) k_11_10 k_11_11 k_1_5 k_11_12 hy_X9_isEdge.2 rfl rfl (Nat.le_of_ble_eq_true rfl) rfl (fun v21 => ?_)
        refine tr_if_eq 117 hX dX9_item_90 (by decide) (fun c38 => ?_) (fun c38 => ?_)
        · exact tr_sub [] rfl (t_X9_item_117 hX hS)
        · refine tr_aload_n 1 hX dX9_item_93 rfl rfl ?_
          refine tr_getF hX dX9_item_94 sh_161 (by decide) rfl inlX9 (by decide) rfl (hS.g (Nat.le_of_ble_eq_true rfl)) cr_161_18 k_7_0 mq_161 ?_
          refine tr_iconst 2 hX dX9_item_97 (by decide) ?_
          refine tr_iald hX dX9_item_98 sh_175 (hS.e (Nat.le_of_ble_eq_true rfl)) (fun hb23 v22 => ?_)
          refine tr_callS0I (st := []) 1 hX hS dX9_item_99 (ok_X9_isEdge v22) k_11_10 k_11_11 k_1_5 k_11_12 hy_X9_isEdge.2 rfl rfl (Nat.le_of_ble_eq_true rfl) rfl (fun v24 => ?_)
          refine tr_if_eq 117 hX dX9_item_102 (by decide) (fun c37 => ?_) (fun c37 => ?_)
          · exact tr_sub [] rfl (t_X9_item_117 hX hS)
          · refine tr_aload_n 1 hX dX9_item_105 rfl rfl ?_
            refine tr_getF hX dX9_item_106 sh_161 (by decide) rfl inlX9 (by decide) rfl (hS.g (Nat.le_of_ble_eq_true rfl)) cr_161_18 k_7_0 mq_161 ?_
            refine tr_iconst 3 hX dX9_item_109 (by decide) ?_
            refine tr_iald hX dX9_item_110 sh_175 (hS.e (Nat.le_of_ble_eq_true rfl)) (fun hb26 v25 => ?_)
            refine tr_callS0I (st := []) 1 hX hS dX9_item_111 (ok_X9_isEdge v25) k_11_10 k_11_11 k_1_5 k_11_12 hy_X9_isEdge.2 rfl rfl (Nat.le_of_ble_eq_true rfl) rfl (fun v27 => ?_)
            refine tr_if_ne 119 hX dX9_item_114 (by decide) (fun c36 => ?_) (fun c36 => ?_)
            · exact tr_sub [] rfl (t_X9_item_117 hX hS)
            · refine tr_aload_n 1 hX dX9_item_119 rfl rfl ?_
              refine tr_getF hX dX9_item_120 sh_161 (by decide) rfl inlX9 (by decide) rfl (hS.g (Nat.le_of_ble_eq_true rfl)) cr_161_4 k_6_14 mq_161 ?_
              refine tr_bipush 64 hX dX9_item_123 (by decide) ?_
              refine tr_bipush 8 hX dX9_item_125 (by decide) ?_
              refine tr_aload_n 1 hX dX9_item_127 rfl rfl ?_
              refine tr_getF hX dX9_item_128 sh_161 (by decide) rfl inlX9 (by decide) rfl (hS.g (Nat.le_of_ble_eq_true rfl)) cr_161_18 k_7_0 mq_161 ?_
              refine tr_iconst 0 hX dX9_item_131 (by decide) ?_
              refine tr_iald hX dX9_item_132 sh_175 (hS.e (Nat.le_of_ble_eq_true rfl)) (fun hb29 v28 => ?_)
              refine tr_imul hX dX9_item_133 ?_
              refine tr_iadd hX dX9_item_134 ?_
              refine tr_aload_n 1 hX dX9_item_135 rfl rfl ?_
              refine tr_getF hX dX9_item_136 sh_161 (by decide) rfl inlX9 (by decide) rfl (hS.g (Nat.le_of_ble_eq_true rfl)) cr_161_18 k_7_0 mq_161 ?_
              refine tr_iconst 1 hX dX9_item_139 (by decide) ?_
              refine tr_iald hX dX9_item_140 sh_175 (hS.e (Nat.le_of_ble_eq_true rfl)) (fun hb31 v30 => ?_)
              refine tr_iadd hX dX9_item_141 ?_
              refine tr_bipush 8 hX dX9_item_142 (by decide) ?_
              refine tr_aload_n 1 hX dX9_item_144 rfl rfl ?_
              refine tr_getF hX dX9_item_145 sh_161 (by decide) rfl inlX9 (by decide) rfl (hS.g (Nat.le_of_ble_eq_true rfl)) cr_161_18 k_7_0 mq_161 ?_
              refine tr_iconst 2 hX dX9_item_148 (by decide) ?_
              refine tr_iald hX dX9_item_149 sh_175 (hS.e (Nat.le_of_ble_eq_true rfl)) (fun hb33 v32 => ?_)
              refine tr_imul hX dX9_item_150 ?_
              refine tr_aload_n 1 hX dX9_item_151 rfl rfl ?_
              refine tr_getF hX dX9_item_152 sh_161 (by decide) rfl inlX9 (by decide) rfl (hS.g (Nat.le_of_ble_eq_true rfl)) cr_161_18 k_7_0 mq_161 ?_
              refine tr_iconst 3 hX dX9_item_155 (by decide) ?_
              refine tr_iald hX dX9_item_156 sh_175 (hS.e (Nat.le_of_ble_eq_true rfl)) (fun hb35 v34 => ?_)
              refine tr_iadd hX dX9_item_157 ?_
              refine tr_iast hX dX9_item_158 sh_165 (hS.e (Nat.le_of_ble_eq_true rfl)) (fun _ => ?_)
              refine tr_iconst 1 hX dX9_item_159 (by decide) ?_
              exact tr_zret0 hX hS dX9_item_160
  refine tr_case 119 (fun c43 => ?_) (fun c43 => ?_)
  · refine tr_look (off := 36) 56 hX dX9_item_20 (by decide) (by rw [c43]; decide) (by decide) ?_
    refine tr_aload_n 1 hX dX9_item_56 rfl rfl ?_
    refine tr_callV0I (st := []) 0 hX hS dX9_item_57 (ok_X9_wordItem) sh_161 (by decide) rfl (Nat.le_of_ble_eq_true rfl) k_10_23 k_11_0 k_11_1 k_1_5 k_11_2 hy_X9_wordItem rfl rfl (Nat.le_of_ble_eq_true rfl) rfl (fun v42 => ?_)
    exact tr_zret0 hX hS dX9_item_60
  refine tr_look (off := 189) 209 hX dX9_item_20 (by decide) (by show Op.lookupswitch.offset [(104, 141), (106, 41), (119, 36)] 189 _ = _; rw [lv_osw c14 (by decide), lv_osw c41 (by decide), lv_osw c43 (by decide)]; rfl) (by decide) ?_
  refine tr_iconst 0 hX dX9_item_209 (by decide) ?_
  exact tr_zret0 hX hS dX9_item_210
theorem ok_X9_item {l : Launch} {E : Ev}   : Ok l E Gall yX9_item cX9_item 2 ((some .boolean)) (rmz 3 71) eI [.ref (E.2.1 161)] (f_X9_item) := by
  refine ok_of0 (by decide) (Nat.le_of_ble_eq_true rfl) (fun X hX hV hS => ?_)
  subst hV
  exact t_X9_item_0 hX hS 
def f_X9_readAll_10 (s10 : M Int32) : M Int32 :=
  rI 161 17 (fun v1 => rI 161 0 (fun v2 => if v2 ≤ v1 then (rt (-4)) else (rI 161 17 (fun v3 => bnd f_X9_item (fun v4 => if v4 = 0 then (rt v3) else (s10))))))
set_option maxRecDepth 10000 in
set_option maxHeartbeats 4000000 in
theorem t_X9_readAll_10 {X : Cx} (hX : Good X RX9 cX9_readAll ((some .int))) (hS : Sta X 4 92 2) : ∀ s10 : M Int32, (Tr X eI 0 0 10 [(0, .ref (cxAd X 161))] [] (s10)) → Tr X eI 0 0 10 [(0, .ref (cxAd X 161))] [] (f_X9_readAll_10 s10) := by
  intro s10 hs10
  unfold f_X9_readAll_10
  refine tr_aload_n 0 hX dX9_readAll_10 rfl rfl ?_
  refine tr_getI hX dX9_readAll_11 sh_161 (by decide) rfl inlX9 (by decide) rfl (hS.e (Nat.le_of_ble_eq_true rfl)) k_10_13 (fun v1 => ?_)
  refine tr_aload_n 0 hX dX9_readAll_14 rfl rfl ?_
  refine tr_getI hX dX9_readAll_15 sh_161 (by decide) rfl inlX9 (by decide) rfl (hS.e (Nat.le_of_ble_eq_true rfl)) k_8_6 (fun v2 => ?_)
  refine tr_ic_ge 38 hX dX9_readAll_18 (by decide) (fun c6 => ?_) (fun c6 => ?_)
  · refine tr_bipush (-4) hX dX9_readAll_38 (by decide) ?_
    exact tr_iret0 hX hS dX9_readAll_40
  · refine tr_aload_n 0 hX dX9_readAll_21 rfl rfl ?_
    refine tr_getI hX dX9_readAll_22 sh_161 (by decide) rfl inlX9 (by decide) rfl (hS.e (Nat.le_of_ble_eq_true rfl)) k_10_13 (fun v3 => ?_)
    refine tr_istore_n hX dX9_readAll_25 rfl (hS.n (by decide)) rfl ?_
    refine tr_aload_n 1 hX dX9_readAll_26 rfl rfl ?_
    refine tr_callV0I (st := []) 0 hX hS dX9_readAll_27 (ok_X9_item) sh_161 (by decide) rfl (Nat.le_of_ble_eq_true rfl) k_10_14 k_10_15 k_10_16 k_1_5 k_10_17 hy_X9_item rfl rfl (Nat.le_of_ble_eq_true rfl) rfl (fun v4 => ?_)
    refine tr_if_ne 35 hX dX9_readAll_30 (by decide) (fun c5 => ?_) (fun c5 => ?_)
    · refine tr_iload_n 0 hX dX9_readAll_33 rfl rfl ?_
      exact tr_iret0 hX hS dX9_readAll_34
    · refine tr_goto 10 hX dX9_readAll_35 (by decide) ?_
      exact tr_sub [1] rfl (hs10)
def f_X9_readAll  : M Int32 :=
  bnd (f_X9_noItems 1) (fun _ => wI 161 17 0 (fix0 FU (f_X9_readAll_10)))
set_option maxRecDepth 10000 in
set_option maxHeartbeats 4000000 in
theorem t_X9_readAll_0 {X : Cx} (hX : Good X RX9 cX9_readAll ((some .int))) (hS : Sta X 4 92 2) : Tr X eI 0 0 0 [(0, .ref (cxAd X 161))] [] (f_X9_readAll) := by
  unfold f_X9_readAll
  refine tr_aload_n 0 hX dX9_readAll_0 rfl rfl ?_
  refine tr_iconst 1 hX dX9_readAll_1 (by decide) ?_
  refine tr_callV0U (st := []) 1 hX hS dX9_readAll_2 (ok_X9_noItems 1) sh_161 (by decide) rfl (Nat.le_of_ble_eq_true rfl) k_7_12 k_7_13 k_7_14 k_1_5 k_7_15 hy_X9_noItems rfl rfl (Nat.le_of_ble_eq_true rfl) rfl (fun _ => ?_)
  refine tr_aload_n 0 hX dX9_readAll_5 rfl rfl ?_
  refine tr_iconst 0 hX dX9_readAll_6 (by decide) ?_
  refine tr_putI hX dX9_readAll_7 sh_161 (by decide) rfl inlX9 tyX9 tyX9_ok nmX9 (by decide) rfl (hS.e (Nat.le_of_ble_eq_true rfl)) k_10_13 rfl rfl rfl rfl ?_
  exact tr_sub [0] rfl (tr_fix0 (t_X9_readAll_10 hX hS) FU)
theorem ok_X9_readAll {l : Launch} {E : Ev}   : Ok l E Gall yX9_readAll cX9_readAll 2 ((some .int)) (rmz 4 92) eI [.ref (E.2.1 161)] (f_X9_readAll) := by
  refine ok_of0 (by decide) (Nat.le_of_ble_eq_true rfl) (fun X hX hV hS => ?_)
  subst hV
  exact t_X9_readAll_0 hX hS 
def f_X9_fault  : M Int32 :=
  bnd f_X9_readAll (fun v1 => rt v1)
set_option maxRecDepth 10000 in
set_option maxHeartbeats 4000000 in
theorem t_X9_fault_0 {X : Cx} (hX : Good X RX9 cX9_fault ((some .int))) (hS : Sta X 5 113 1) : Tr X eI 0 0 0 [(0, .ref (cxAd X 161))] [] (f_X9_fault) := by
  unfold f_X9_fault
  refine tr_aload_n 0 hX dX9_fault_0 rfl rfl ?_
  refine tr_callV0I (st := []) 0 hX hS dX9_fault_1 (ok_X9_readAll) sh_161 (by decide) rfl (Nat.le_of_ble_eq_true rfl) k_10_9 k_10_10 k_10_11 k_1_5 k_10_12 hy_X9_readAll rfl rfl (Nat.le_of_ble_eq_true rfl) rfl (fun v1 => ?_)
  exact tr_iret0 hX hS dX9_fault_4
theorem ok_X9_fault {l : Launch} {E : Ev}   : Ok l E Gall yX9_fault cX9_fault 1 ((some .int)) (rmz 5 113) eI [.ref (E.2.1 161)] (f_X9_fault) := by
  refine ok_of0 (by decide) (Nat.le_of_ble_eq_true rfl) (fun X hX hV hS => ?_)
  subst hV
  exact t_X9_fault_0 hX hS 
def f_X9_lay_111 (s111 : Int32 → M Int32) (x1 : Int32) : M Int32 :=
  if 6 ≤ x1 then (sI 169 3 0 0 (wI 161 12 0 (wI 161 13 0 (wI 161 15 0 (aI 163 2 0 (fun v1 => rt v1)))))) else (sI 167 18 x1 0 (s111 (x1 + 1)))
set_option maxRecDepth 10000 in
set_option maxHeartbeats 4000000 in
theorem t_X9_lay_111 {X : Cx} (hX : Good X RX9 cX9_lay ((some .int))) (hS : Sta X 5 113 2) : ∀ s111 : Int32 → M Int32, (∀ x1 : Int32, Tr X eI 0 0 111 [(0, .ref (cxAd X 161)), (1, .int x1)] [] (s111 x1)) → ∀ x1 : Int32, Tr X eI 0 0 111 [(0, .ref (cxAd X 161)), (1, .int x1)] [] (f_X9_lay_111 s111 x1) := by
  intro s111 hs111 x1
  unfold f_X9_lay_111
  refine tr_iload_n 1 hX dX9_lay_111 rfl rfl ?_
  refine tr_bipush 6 hX dX9_lay_112 (by decide) ?_
  refine tr_ic_ge 130 hX dX9_lay_114 (by decide) (fun c3 => ?_) (fun c3 => ?_)
  · refine tr_aload_n 0 hX dX9_lay_130 rfl rfl ?_
    refine tr_getF hX dX9_lay_131 sh_161 (by decide) rfl inlX9 (by decide) rfl (hS.g (Nat.le_of_ble_eq_true rfl)) cr_161_8 k_6_18 mq_161 ?_
    refine tr_iconst 0 hX dX9_lay_134 (by decide) ?_
    refine tr_iconst 0 hX dX9_lay_135 (by decide) ?_
    refine tr_iast hX dX9_lay_136 sh_169 (hS.e (Nat.le_of_ble_eq_true rfl)) (fun _ => ?_)
    refine tr_aload_n 0 hX dX9_lay_137 rfl rfl ?_
    refine tr_iconst 0 hX dX9_lay_138 (by decide) ?_
    refine tr_putI hX dX9_lay_139 sh_161 (by decide) rfl inlX9 tyX9 tyX9_ok nmX9 (by decide) rfl (hS.e (Nat.le_of_ble_eq_true rfl)) k_12_11 rfl rfl rfl rfl ?_
    refine tr_aload_n 0 hX dX9_lay_142 rfl rfl ?_
    refine tr_iconst 0 hX dX9_lay_143 (by decide) ?_
    refine tr_putI hX dX9_lay_144 sh_161 (by decide) rfl inlX9 tyX9 tyX9_ok nmX9 (by decide) rfl (hS.e (Nat.le_of_ble_eq_true rfl)) k_12_12 rfl rfl rfl rfl ?_
    refine tr_aload_n 0 hX dX9_lay_147 rfl rfl ?_
    refine tr_iconst 0 hX dX9_lay_148 (by decide) ?_
    refine tr_putI hX dX9_lay_149 sh_161 (by decide) rfl inlX9 tyX9 tyX9_ok nmX9 (by decide) rfl (hS.e (Nat.le_of_ble_eq_true rfl)) k_12_13 rfl rfl rfl rfl ?_
    refine tr_aload_n 0 hX dX9_lay_152 rfl rfl ?_
    refine tr_getF hX dX9_lay_153 sh_161 (by decide) rfl inlX9 (by decide) rfl (hS.g (Nat.le_of_ble_eq_true rfl)) cr_161_2 k_6_12 mq_161 ?_
    refine tr_iconst 0 hX dX9_lay_156 (by decide) ?_
    refine tr_iald hX dX9_lay_157 sh_163 (hS.e (Nat.le_of_ble_eq_true rfl)) (fun hb2 v1 => ?_)
    exact tr_iret0 hX hS dX9_lay_158
  · refine tr_aload_n 0 hX dX9_lay_117 rfl rfl ?_
    refine tr_getF hX dX9_lay_118 sh_161 (by decide) rfl inlX9 (by decide) rfl (hS.g (Nat.le_of_ble_eq_true rfl)) cr_161_6 k_6_16 mq_161 ?_
    refine tr_iload_n 1 hX dX9_lay_121 rfl rfl ?_
    refine tr_iconst 0 hX dX9_lay_122 (by decide) ?_
    refine tr_iast hX dX9_lay_123 sh_167 (hS.e (Nat.le_of_ble_eq_true rfl)) (fun _ => ?_)
    refine tr_iinc (x1 + 1) 1 hX dX9_lay_124 rfl (congrArg (fun z => x1 + z) (by decide)) (hS.n (by decide)) rfl ?_
    refine tr_goto 111 hX dX9_lay_127 (by decide) ?_
    exact tr_sub [1, 0] rfl (hs111 (x1 + 1))
def f_X9_lay_84 (s84 : Int32 → M Int32) (x1 : Int32) : M Int32 :=
  if 5 ≤ x1 then (fix1 FU (f_X9_lay_111) 0) else (aI 166 10 (5 + x1) (fun v1 => sI 166 10 x1 v1 (s84 (x1 + 1))))
set_option maxRecDepth 10000 in
set_option maxHeartbeats 4000000 in
theorem t_X9_lay_84 {X : Cx} (hX : Good X RX9 cX9_lay ((some .int))) (hS : Sta X 5 113 2) : ∀ s84 : Int32 → M Int32, (∀ x1 : Int32, Tr X eI 0 0 84 [(0, .ref (cxAd X 161)), (1, .int x1)] [] (s84 x1)) → ∀ x1 : Int32, Tr X eI 0 0 84 [(0, .ref (cxAd X 161)), (1, .int x1)] [] (f_X9_lay_84 s84 x1) := by
  intro s84 hs84 x1
  unfold f_X9_lay_84
  refine tr_iload_n 1 hX dX9_lay_84 rfl rfl ?_
  refine tr_iconst 5 hX dX9_lay_85 (by decide) ?_
  refine tr_ic_ge 109 hX dX9_lay_86 (by decide) (fun c3 => ?_) (fun c3 => ?_)
  · refine tr_iconst 0 hX dX9_lay_109 (by decide) ?_
    refine tr_istore_n hX dX9_lay_110 rfl (hS.n (by decide)) rfl ?_
    exact tr_sub [1, 0] rfl (tr_fix1 (lvf := fun x1 => [(0, .ref (cxAd X 161)), (1, .int x1)]) (t_X9_lay_111 hX hS) FU 0)
  · refine tr_aload_n 0 hX dX9_lay_89 rfl rfl ?_
    refine tr_getF hX dX9_lay_90 sh_161 (by decide) rfl inlX9 (by decide) rfl (hS.g (Nat.le_of_ble_eq_true rfl)) cr_161_5 k_6_15 mq_161 ?_
    refine tr_iload_n 1 hX dX9_lay_93 rfl rfl ?_
    refine tr_aload_n 0 hX dX9_lay_94 rfl rfl ?_
    refine tr_getF hX dX9_lay_95 sh_161 (by decide) rfl inlX9 (by decide) rfl (hS.g (Nat.le_of_ble_eq_true rfl)) cr_161_5 k_6_15 mq_161 ?_
    refine tr_iconst 5 hX dX9_lay_98 (by decide) ?_
    refine tr_iload_n 1 hX dX9_lay_99 rfl rfl ?_
    refine tr_iadd hX dX9_lay_100 ?_
    refine tr_iald hX dX9_lay_101 sh_166 (hS.e (Nat.le_of_ble_eq_true rfl)) (fun hb2 v1 => ?_)
    refine tr_iast hX dX9_lay_102 sh_166 (hS.e (Nat.le_of_ble_eq_true rfl)) (fun _ => ?_)
    refine tr_iinc (x1 + 1) 1 hX dX9_lay_103 rfl (congrArg (fun z => x1 + z) (by decide)) (hS.n (by decide)) rfl ?_
    refine tr_goto 84 hX dX9_lay_106 (by decide) ?_
    exact tr_sub [1, 0] rfl (hs84 (x1 + 1))
def f_X9_lay_55 (s55 : Int32 → M Int32) (x1 : Int32) : M Int32 :=
  if 64 ≤ x1 then (fix1 FU (f_X9_lay_84) 0) else (aI 165 128 (64 + x1) (fun v1 => sI 165 128 x1 v1 (s55 (x1 + 1))))
set_option maxRecDepth 10000 in
set_option maxHeartbeats 4000000 in
theorem t_X9_lay_55 {X : Cx} (hX : Good X RX9 cX9_lay ((some .int))) (hS : Sta X 5 113 2) : ∀ s55 : Int32 → M Int32, (∀ x1 : Int32, Tr X eI 0 0 55 [(0, .ref (cxAd X 161)), (1, .int x1)] [] (s55 x1)) → ∀ x1 : Int32, Tr X eI 0 0 55 [(0, .ref (cxAd X 161)), (1, .int x1)] [] (f_X9_lay_55 s55 x1) := by
  intro s55 hs55 x1
  unfold f_X9_lay_55
  refine tr_iload_n 1 hX dX9_lay_55 rfl rfl ?_
  refine tr_bipush 64 hX dX9_lay_56 (by decide) ?_
  refine tr_ic_ge 82 hX dX9_lay_58 (by decide) (fun c3 => ?_) (fun c3 => ?_)
  · refine tr_iconst 0 hX dX9_lay_82 (by decide) ?_
    refine tr_istore_n hX dX9_lay_83 rfl (hS.n (by decide)) rfl ?_
    exact tr_sub [1, 0] rfl (tr_fix1 (lvf := fun x1 => [(0, .ref (cxAd X 161)), (1, .int x1)]) (t_X9_lay_84 hX hS) FU 0)
  · refine tr_aload_n 0 hX dX9_lay_61 rfl rfl ?_
    refine tr_getF hX dX9_lay_62 sh_161 (by decide) rfl inlX9 (by decide) rfl (hS.g (Nat.le_of_ble_eq_true rfl)) cr_161_4 k_6_14 mq_161 ?_
    refine tr_iload_n 1 hX dX9_lay_65 rfl rfl ?_
    refine tr_aload_n 0 hX dX9_lay_66 rfl rfl ?_
    refine tr_getF hX dX9_lay_67 sh_161 (by decide) rfl inlX9 (by decide) rfl (hS.g (Nat.le_of_ble_eq_true rfl)) cr_161_4 k_6_14 mq_161 ?_
    refine tr_bipush 64 hX dX9_lay_70 (by decide) ?_
    refine tr_iload_n 1 hX dX9_lay_72 rfl rfl ?_
    refine tr_iadd hX dX9_lay_73 ?_
    refine tr_iald hX dX9_lay_74 sh_165 (hS.e (Nat.le_of_ble_eq_true rfl)) (fun hb2 v1 => ?_)
    refine tr_iast hX dX9_lay_75 sh_165 (hS.e (Nat.le_of_ble_eq_true rfl)) (fun _ => ?_)
    refine tr_iinc (x1 + 1) 1 hX dX9_lay_76 rfl (congrArg (fun z => x1 + z) (by decide)) (hS.n (by decide)) rfl ?_
    refine tr_goto 55 hX dX9_lay_79 (by decide) ?_
    exact tr_sub [1, 0] rfl (hs55 (x1 + 1))
def f_X9_lay_26 (s26 : Int32 → M Int32) (x1 : Int32) : M Int32 :=
  if 48 ≤ x1 then (fix1 FU (f_X9_lay_55) 0) else (aI 164 96 (48 + x1) (fun v1 => sI 164 96 x1 v1 (s26 (x1 + 1))))
set_option maxRecDepth 10000 in
set_option maxHeartbeats 4000000 in
theorem t_X9_lay_26 {X : Cx} (hX : Good X RX9 cX9_lay ((some .int))) (hS : Sta X 5 113 2) : ∀ s26 : Int32 → M Int32, (∀ x1 : Int32, Tr X eI 0 0 26 [(0, .ref (cxAd X 161)), (1, .int x1)] [] (s26 x1)) → ∀ x1 : Int32, Tr X eI 0 0 26 [(0, .ref (cxAd X 161)), (1, .int x1)] [] (f_X9_lay_26 s26 x1) := by
  intro s26 hs26 x1
  unfold f_X9_lay_26
  refine tr_iload_n 1 hX dX9_lay_26 rfl rfl ?_
  refine tr_bipush 48 hX dX9_lay_27 (by decide) ?_
  refine tr_ic_ge 53 hX dX9_lay_29 (by decide) (fun c3 => ?_) (fun c3 => ?_)
  · refine tr_iconst 0 hX dX9_lay_53 (by decide) ?_
    refine tr_istore_n hX dX9_lay_54 rfl (hS.n (by decide)) rfl ?_
    exact tr_sub [1, 0] rfl (tr_fix1 (lvf := fun x1 => [(0, .ref (cxAd X 161)), (1, .int x1)]) (t_X9_lay_55 hX hS) FU 0)
  · refine tr_aload_n 0 hX dX9_lay_32 rfl rfl ?_
    refine tr_getF hX dX9_lay_33 sh_161 (by decide) rfl inlX9 (by decide) rfl (hS.g (Nat.le_of_ble_eq_true rfl)) cr_161_3 k_6_13 mq_161 ?_
    refine tr_iload_n 1 hX dX9_lay_36 rfl rfl ?_
    refine tr_aload_n 0 hX dX9_lay_37 rfl rfl ?_
    refine tr_getF hX dX9_lay_38 sh_161 (by decide) rfl inlX9 (by decide) rfl (hS.g (Nat.le_of_ble_eq_true rfl)) cr_161_3 k_6_13 mq_161 ?_
    refine tr_bipush 48 hX dX9_lay_41 (by decide) ?_
    refine tr_iload_n 1 hX dX9_lay_43 rfl rfl ?_
    refine tr_iadd hX dX9_lay_44 ?_
    refine tr_iald hX dX9_lay_45 sh_164 (hS.e (Nat.le_of_ble_eq_true rfl)) (fun hb2 v1 => ?_)
    refine tr_iast hX dX9_lay_46 sh_164 (hS.e (Nat.le_of_ble_eq_true rfl)) (fun _ => ?_)
    refine tr_iinc (x1 + 1) 1 hX dX9_lay_47 rfl (congrArg (fun z => x1 + z) (by decide)) (hS.n (by decide)) rfl ?_
    refine tr_goto 26 hX dX9_lay_50 (by decide) ?_
    exact tr_sub [1, 0] rfl (hs26 (x1 + 1))
def f_X9_lay  : M Int32 :=
  bnd f_X9_readAll (fun v1 => if v1 = (-4) then (aI 163 2 1 (fun v2 => sI 163 2 0 v2 (fix1 FU (f_X9_lay_26) 0))) else (rt (-2)))
set_option maxRecDepth 10000 in
set_option maxHeartbeats 4000000 in
theorem t_X9_lay_0 {X : Cx} (hX : Good X RX9 cX9_lay ((some .int))) (hS : Sta X 5 113 2) : Tr X eI 0 0 0 [(0, .ref (cxAd X 161))] [] (f_X9_lay) := by
  unfold f_X9_lay
  refine tr_aload_n 0 hX dX9_lay_0 rfl rfl ?_
  refine tr_callV0I (st := []) 0 hX hS dX9_lay_1 (ok_X9_readAll) sh_161 (by decide) rfl (Nat.le_of_ble_eq_true rfl) k_10_9 k_10_10 k_10_11 k_1_5 k_10_12 hy_X9_readAll rfl rfl (Nat.le_of_ble_eq_true rfl) rfl (fun v1 => ?_)
  refine tr_bipush (-4) hX dX9_lay_4 (by decide) ?_
  refine tr_ic_eq 12 hX dX9_lay_6 (by decide) (fun c4 => ?_) (fun c4 => ?_)
  · refine tr_aload_n 0 hX dX9_lay_12 rfl rfl ?_
    refine tr_getF hX dX9_lay_13 sh_161 (by decide) rfl inlX9 (by decide) rfl (hS.g (Nat.le_of_ble_eq_true rfl)) cr_161_2 k_6_12 mq_161 ?_
    refine tr_iconst 0 hX dX9_lay_16 (by decide) ?_
    refine tr_aload_n 0 hX dX9_lay_17 rfl rfl ?_
    refine tr_getF hX dX9_lay_18 sh_161 (by decide) rfl inlX9 (by decide) rfl (hS.g (Nat.le_of_ble_eq_true rfl)) cr_161_2 k_6_12 mq_161 ?_
    refine tr_iconst 1 hX dX9_lay_21 (by decide) ?_
    refine tr_iald hX dX9_lay_22 sh_163 (hS.e (Nat.le_of_ble_eq_true rfl)) (fun hb3 v2 => ?_)
    refine tr_iast hX dX9_lay_23 sh_163 (hS.e (Nat.le_of_ble_eq_true rfl)) (fun _ => ?_)
    refine tr_iconst 0 hX dX9_lay_24 (by decide) ?_
    refine tr_istore_n hX dX9_lay_25 rfl (hS.n (by decide)) rfl ?_
    exact tr_sub [1, 0] rfl (tr_fix1 (lvf := fun x1 => [(0, .ref (cxAd X 161)), (1, .int x1)]) (t_X9_lay_26 hX hS) FU 0)
  · refine tr_bipush (-2) hX dX9_lay_9 (by decide) ?_
    exact tr_iret0 hX hS dX9_lay_11
theorem ok_X9_lay {l : Launch} {E : Ev}   : Ok l E Gall yX9_lay cX9_lay 2 ((some .int)) (rmz 5 113) eI [.ref (E.2.1 161)] (f_X9_lay) := by
  refine ok_of0 (by decide) (Nat.le_of_ble_eq_true rfl) (fun X hX hV hS => ?_)
  subst hV
  exact t_X9_lay_0 hX hS 
def f_X9_joined_29 (p0 : Int32) : M Int32 :=
  rt p0
set_option maxRecDepth 10000 in
set_option maxHeartbeats 4000000 in
theorem t_X9_joined_29 {X : Cx} (hX : Good X RX9 cX9_joined ((some .int))) (hS : Sta X 2 45 3) (p0 : Int32) : Tr X eI 0 0 29 [] [.int p0] (f_X9_joined_29 p0) := by
  unfold f_X9_joined_29
  exact tr_iret0 hX hS dX9_joined_29
def f_X9_joined_28  : M Int32 :=
  f_X9_joined_29 (-1)
set_option maxRecDepth 10000 in
set_option maxHeartbeats 4000000 in
theorem t_X9_joined_28 {X : Cx} (hX : Good X RX9 cX9_joined ((some .int))) (hS : Sta X 2 45 3) : Tr X eI 0 0 28 [] [] (f_X9_joined_28) := by
  unfold f_X9_joined_28
  refine tr_iconst (-1) hX dX9_joined_28 (by decide) ?_
  exact tr_sub [] rfl (t_X9_joined_29 hX hS (-1))
def f_X9_joined (x1 : Int32) (x2 : Int32) : M Int32 :=
  bnd (f_X9_isEdge x1) (fun v1 => if v1 = 0 then (f_X9_joined_28) else (bnd (f_X9_isEdge x2) (fun v2 => if v2 = 0 then (f_X9_joined_28) else (aI 165 128 ((8 * x1) + x2) (fun v3 => f_X9_joined_29 v3)))))
set_option maxRecDepth 10000 in
set_option maxHeartbeats 4000000 in
theorem t_X9_joined_0 {X : Cx} (hX : Good X RX9 cX9_joined ((some .int))) (hS : Sta X 2 45 3) (x1 : Int32) (x2 : Int32) : Tr X eI 0 0 0 [(0, .ref (cxAd X 161)), (1, .int x1), (2, .int x2)] [] (f_X9_joined x1 x2) := by
  unfold f_X9_joined
  refine tr_iload_n 1 hX dX9_joined_0 rfl rfl ?_
  refine tr_callS0I (st := []) 1 hX hS dX9_joined_1 (ok_X9_isEdge x1) k_11_10 k_11_11 k_1_5 k_11_12 hy_X9_isEdge.2 rfl rfl (Nat.le_of_ble_eq_true rfl) rfl (fun v1 => ?_)
  refine tr_if_eq 28 hX dX9_joined_4 (by decide) (fun c6 => ?_) (fun c6 => ?_)
  · exact tr_sub [] rfl (t_X9_joined_28 hX hS)
  · refine tr_iload_n 2 hX dX9_joined_7 rfl rfl ?_
    refine tr_callS0I (st := []) 1 hX hS dX9_joined_8 (ok_X9_isEdge x2) k_11_10 k_11_11 k_1_5 k_11_12 hy_X9_isEdge.2 rfl rfl (Nat.le_of_ble_eq_true rfl) rfl (fun v2 => ?_)
    refine tr_if_eq 28 hX dX9_joined_11 (by decide) (fun c5 => ?_) (fun c5 => ?_)
    · exact tr_sub [] rfl (t_X9_joined_28 hX hS)
    · refine tr_aload_n 0 hX dX9_joined_14 rfl rfl ?_
      refine tr_getF hX dX9_joined_15 sh_161 (by decide) rfl inlX9 (by decide) rfl (hS.g (Nat.le_of_ble_eq_true rfl)) cr_161_4 k_6_14 mq_161 ?_
      refine tr_bipush 8 hX dX9_joined_18 (by decide) ?_
      refine tr_iload_n 1 hX dX9_joined_20 rfl rfl ?_
      refine tr_imul hX dX9_joined_21 ?_
      refine tr_iload_n 2 hX dX9_joined_22 rfl rfl ?_
      refine tr_iadd hX dX9_joined_23 ?_
      refine tr_iald hX dX9_joined_24 sh_165 (hS.e (Nat.le_of_ble_eq_true rfl)) (fun hb4 v3 => ?_)
      refine tr_goto 29 hX dX9_joined_25 (by decide) ?_
      exact tr_sub [] rfl (t_X9_joined_29 hX hS v3)
theorem ok_X9_joined {l : Launch} {E : Ev} (x1 : Int32) (x2 : Int32)  : Ok l E Gall yX9_joined cX9_joined 3 ((some .int)) (rmz 2 45) eI [.ref (E.2.1 161), .int x1, .int x2] (f_X9_joined x1 x2) := by
  refine ok_of0 (by decide) (Nat.le_of_ble_eq_true rfl) (fun X hX hV hS => ?_)
  subst hV
  exact t_X9_joined_0 hX hS x1 x2
def f_X9_isVerse (x0 : Int32) : M Int32 :=
  bnd (f_X9_in x0.toInt64 0 5) (fun v1 => gd (v1 = 0 ∨ v1 = 1) (rt v1))
set_option maxRecDepth 10000 in
set_option maxHeartbeats 4000000 in
theorem t_X9_isVerse_0 {X : Cx} (hX : Good X RX9 cX9_isVerse ((some .boolean))) (hS : Sta X 1 25 1) (x0 : Int32) : Tr X eI 0 0 0 [(0, .int x0)] [] (f_X9_isVerse x0) := by
  unfold f_X9_isVerse
  refine tr_iload_n 0 hX dX9_isVerse_0 rfl rfl ?_
  refine tr_i2l hX dX9_isVerse_1 ?_
  refine tr_lconst 0 hX dX9_isVerse_2 (by decide) ?_
  refine tr_ldc2 hX dX9_isVerse_3 k_13_15 ?_
  refine tr_callS0I (st := []) 3 hX hS dX9_isVerse_6 (ok_X9_in x0.toInt64 0 5) k_8_8 k_8_9 k_1_5 k_8_10 hy_X9_in.2 rfl rfl (Nat.le_of_ble_eq_true rfl) rfl (fun v1 => ?_)
  exact tr_zret0 hX hS dX9_isVerse_9
theorem ok_X9_isVerse {l : Launch} {E : Ev} (x0 : Int32)  : Ok l E Gall yX9_isVerse cX9_isVerse 1 ((some .boolean)) (rmz 1 25) eI [.int x0] (f_X9_isVerse x0) := by
  refine ok_of0 (by decide) (Nat.le_of_ble_eq_true rfl) (fun X hX hV hS => ?_)
  subst hV
  exact t_X9_isVerse_0 hX hS x0
def f_X9_isWord (x1 : Int32) : M Int32 :=
  aI 163 2 0 (fun v1 => bnd (f_X9_in x1.toInt64 0 (((v1 - 1) : Int32).toInt64)) (fun v3 => gd (v3 = 0 ∨ v3 = 1) (rt v3)))
set_option maxRecDepth 10000 in
set_option maxHeartbeats 4000000 in
theorem t_X9_isWord_0 {X : Cx} (hX : Good X RX9 cX9_isWord ((some .boolean))) (hS : Sta X 1 25 2) (x1 : Int32) : Tr X eI 0 0 0 [(0, .ref (cxAd X 161)), (1, .int x1)] [] (f_X9_isWord x1) := by
  unfold f_X9_isWord
  refine tr_iload_n 1 hX dX9_isWord_0 rfl rfl ?_
  refine tr_i2l hX dX9_isWord_1 ?_
  refine tr_lconst 0 hX dX9_isWord_2 (by decide) ?_
  refine tr_aload_n 0 hX dX9_isWord_3 rfl rfl ?_
  refine tr_getF hX dX9_isWord_4 sh_161 (by decide) rfl inlX9 (by decide) rfl (hS.g (Nat.le_of_ble_eq_true rfl)) cr_161_2 k_6_12 mq_161 ?_
  refine tr_iconst 0 hX dX9_isWord_7 (by decide) ?_
  refine tr_iald hX dX9_isWord_8 sh_163 (hS.e (Nat.le_of_ble_eq_true rfl)) (fun hb2 v1 => ?_)
  refine tr_iconst 1 hX dX9_isWord_9 (by decide) ?_
  refine tr_isub hX dX9_isWord_10 ?_
  refine tr_i2l hX dX9_isWord_11 ?_
  refine tr_callS0I (st := []) 3 hX hS dX9_isWord_12 (ok_X9_in x1.toInt64 0 (((v1 - 1) : Int32).toInt64)) k_8_8 k_8_9 k_1_5 k_8_10 hy_X9_in.2 rfl rfl (Nat.le_of_ble_eq_true rfl) rfl (fun v3 => ?_)
  exact tr_zret0 hX hS dX9_isWord_15
theorem ok_X9_isWord {l : Launch} {E : Ev} (x1 : Int32)  : Ok l E Gall yX9_isWord cX9_isWord 2 ((some .boolean)) (rmz 1 25) eI [.ref (E.2.1 161), .int x1] (f_X9_isWord x1) := by
  refine ok_of0 (by decide) (Nat.le_of_ble_eq_true rfl) (fun X hX hV hS => ?_)
  subst hV
  exact t_X9_isWord_0 hX hS x1
def f_X9_isWay (x0 : Int32) : M Int32 :=
  bnd (f_X9_in x0.toInt64 0 4) (fun v1 => gd (v1 = 0 ∨ v1 = 1) (rt v1))
set_option maxRecDepth 10000 in
set_option maxHeartbeats 4000000 in
theorem t_X9_isWay_0 {X : Cx} (hX : Good X RX9 cX9_isWay ((some .boolean))) (hS : Sta X 1 25 1) (x0 : Int32) : Tr X eI 0 0 0 [(0, .int x0)] [] (f_X9_isWay x0) := by
  unfold f_X9_isWay
  refine tr_iload_n 0 hX dX9_isWay_0 rfl rfl ?_
  refine tr_i2l hX dX9_isWay_1 ?_
  refine tr_lconst 0 hX dX9_isWay_2 (by decide) ?_
  refine tr_ldc2 hX dX9_isWay_3 k_10_18 ?_
  refine tr_callS0I (st := []) 3 hX hS dX9_isWay_6 (ok_X9_in x0.toInt64 0 4) k_8_8 k_8_9 k_1_5 k_8_10 hy_X9_in.2 rfl rfl (Nat.le_of_ble_eq_true rfl) rfl (fun v1 => ?_)
  exact tr_zret0 hX hS dX9_isWay_9
theorem ok_X9_isWay {l : Launch} {E : Ev} (x0 : Int32)  : Ok l E Gall yX9_isWay cX9_isWay 1 ((some .boolean)) (rmz 1 25) eI [.int x0] (f_X9_isWay x0) := by
  refine ok_of0 (by decide) (Nat.le_of_ble_eq_true rfl) (fun X hX hV hS => ?_)
  subst hV
  exact t_X9_isWay_0 hX hS x0
def f_X9_isPlace (x0 : Int32) : M Int32 :=
  bnd (f_X9_in x0.toInt64 0 7) (fun v1 => gd (v1 = 0 ∨ v1 = 1) (rt v1))
set_option maxRecDepth 10000 in
set_option maxHeartbeats 4000000 in
theorem t_X9_isPlace_0 {X : Cx} (hX : Good X RX9 cX9_isPlace ((some .boolean))) (hS : Sta X 1 25 1) (x0 : Int32) : Tr X eI 0 0 0 [(0, .int x0)] [] (f_X9_isPlace x0) := by
  unfold f_X9_isPlace
  refine tr_iload_n 0 hX dX9_isPlace_0 rfl rfl ?_
  refine tr_i2l hX dX9_isPlace_1 ?_
  refine tr_lconst 0 hX dX9_isPlace_2 (by decide) ?_
  refine tr_ldc2 hX dX9_isPlace_3 k_11_13 ?_
  refine tr_callS0I (st := []) 3 hX hS dX9_isPlace_6 (ok_X9_in x0.toInt64 0 7) k_8_8 k_8_9 k_1_5 k_8_10 hy_X9_in.2 rfl rfl (Nat.le_of_ble_eq_true rfl) rfl (fun v1 => ?_)
  exact tr_zret0 hX hS dX9_isPlace_9
theorem ok_X9_isPlace {l : Launch} {E : Ev} (x0 : Int32)  : Ok l E Gall yX9_isPlace cX9_isPlace 1 ((some .boolean)) (rmz 1 25) eI [.int x0] (f_X9_isPlace x0) := by
  refine ok_of0 (by decide) (Nat.le_of_ble_eq_true rfl) (fun X hX hV hS => ?_)
  subst hV
  exact t_X9_isPlace_0 hX hS x0
def f_X9_add_15  : M Int32 :=
  rt (-1)
set_option maxRecDepth 10000 in
set_option maxHeartbeats 4000000 in
theorem t_X9_add_15 {X : Cx} (hX : Good X RX9 cX9_add ((some .int))) (hS : Sta X 2 46 3) : Tr X eI 0 0 15 [] [] (f_X9_add_15) := by
  unfold f_X9_add_15
  refine tr_iconst (-1) hX dX9_add_15 (by decide) ?_
  exact tr_iret0 hX hS dX9_add_16
def f_X9_add (x1 : Int32) (x2 : Int32) : M Int32 :=
  bnd (f_X9_isVerse x1) (fun v1 => if v1 = 0 then (f_X9_add_15) else (bnd (f_X9_isWord x2) (fun v2 => if v2 = 0 then (f_X9_add_15) else (aI 167 18 x1 (fun v3 => if v3 = 8 then (rt (-3)) else (aI 167 18 x1 (fun v5 => sI 168 144 ((8 * x1) + v5) x2 (aI 167 18 x1 (fun v7 => sI 167 18 x1 (v7 + 1) (aI 167 18 x1 (fun v9 => rt v9)))))))))))
set_option maxRecDepth 10000 in
set_option maxHeartbeats 4000000 in
theorem t_X9_add_0 {X : Cx} (hX : Good X RX9 cX9_add ((some .int))) (hS : Sta X 2 46 3) (x1 : Int32) (x2 : Int32) : Tr X eI 0 0 0 [(0, .ref (cxAd X 161)), (1, .int x1), (2, .int x2)] [] (f_X9_add x1 x2) := by
  unfold f_X9_add
  refine tr_iload_n 1 hX dX9_add_0 rfl rfl ?_
  refine tr_callS0I (st := []) 1 hX hS dX9_add_1 (ok_X9_isVerse x1) k_13_12 k_13_13 k_1_5 k_13_14 hy_X9_isVerse.2 rfl rfl (Nat.le_of_ble_eq_true rfl) rfl (fun v1 => ?_)
  refine tr_if_eq 15 hX dX9_add_4 (by decide) (fun c13 => ?_) (fun c13 => ?_)
  · exact tr_sub [] rfl (t_X9_add_15 hX hS)
  · refine tr_aload_n 0 hX dX9_add_7 rfl rfl ?_
    refine tr_iload_n 2 hX dX9_add_8 rfl rfl ?_
    refine tr_callV0I (st := []) 1 hX hS dX9_add_9 (ok_X9_isWord x2) sh_161 (by decide) rfl (Nat.le_of_ble_eq_true rfl) k_13_16 k_13_17 k_13_18 k_1_5 k_13_19 hy_X9_isWord rfl rfl (Nat.le_of_ble_eq_true rfl) rfl (fun v2 => ?_)
    refine tr_if_ne 17 hX dX9_add_12 (by decide) (fun c12 => ?_) (fun c12 => ?_)
    · exact tr_sub [] rfl (t_X9_add_15 hX hS)
    · refine tr_aload_n 0 hX dX9_add_17 rfl rfl ?_
      refine tr_getF hX dX9_add_18 sh_161 (by decide) rfl inlX9 (by decide) rfl (hS.g (Nat.le_of_ble_eq_true rfl)) cr_161_6 k_6_16 mq_161 ?_
      refine tr_iload_n 1 hX dX9_add_21 rfl rfl ?_
      refine tr_iald hX dX9_add_22 sh_167 (hS.e (Nat.le_of_ble_eq_true rfl)) (fun hb4 v3 => ?_)
      refine tr_bipush 8 hX dX9_add_23 (by decide) ?_
      refine tr_ic_ne 31 hX dX9_add_25 (by decide) (fun c11 => ?_) (fun c11 => ?_)
      · refine tr_bipush (-3) hX dX9_add_28 (by decide) ?_
        exact tr_iret0 hX hS dX9_add_30
      · refine tr_aload_n 0 hX dX9_add_31 rfl rfl ?_
        refine tr_getF hX dX9_add_32 sh_161 (by decide) rfl inlX9 (by decide) rfl (hS.g (Nat.le_of_ble_eq_true rfl)) cr_161_7 k_6_17 mq_161 ?_
        refine tr_bipush 8 hX dX9_add_35 (by decide) ?_
        refine tr_iload_n 1 hX dX9_add_37 rfl rfl ?_
        refine tr_imul hX dX9_add_38 ?_
        refine tr_aload_n 0 hX dX9_add_39 rfl rfl ?_
        refine tr_getF hX dX9_add_40 sh_161 (by decide) rfl inlX9 (by decide) rfl (hS.g (Nat.le_of_ble_eq_true rfl)) cr_161_6 k_6_16 mq_161 ?_
        refine tr_iload_n 1 hX dX9_add_43 rfl rfl ?_
        refine tr_iald hX dX9_add_44 sh_167 (hS.e (Nat.le_of_ble_eq_true rfl)) (fun hb6 v5 => ?_)
        refine tr_iadd hX dX9_add_45 ?_
        refine tr_iload_n 2 hX dX9_add_46 rfl rfl ?_
        refine tr_iast hX dX9_add_47 sh_168 (hS.e (Nat.le_of_ble_eq_true rfl)) (fun _ => ?_)
        refine tr_aload_n 0 hX dX9_add_48 rfl rfl ?_
        refine tr_getF hX dX9_add_49 sh_161 (by decide) rfl inlX9 (by decide) rfl (hS.g (Nat.le_of_ble_eq_true rfl)) cr_161_6 k_6_16 mq_161 ?_
        refine tr_iload_n 1 hX dX9_add_52 rfl rfl ?_
        refine tr_dup2 hX dX9_add_53 rfl rfl ?_
        refine tr_iald hX dX9_add_54 sh_167 (hS.e (Nat.le_of_ble_eq_true rfl)) (fun hb8 v7 => ?_)
        refine tr_iconst 1 hX dX9_add_55 (by decide) ?_
        refine tr_iadd hX dX9_add_56 ?_
        refine tr_iast hX dX9_add_57 sh_167 (hS.e (Nat.le_of_ble_eq_true rfl)) (fun _ => ?_)
        refine tr_aload_n 0 hX dX9_add_58 rfl rfl ?_
        refine tr_getF hX dX9_add_59 sh_161 (by decide) rfl inlX9 (by decide) rfl (hS.g (Nat.le_of_ble_eq_true rfl)) cr_161_6 k_6_16 mq_161 ?_
        refine tr_iload_n 1 hX dX9_add_62 rfl rfl ?_
        refine tr_iald hX dX9_add_63 sh_167 (hS.e (Nat.le_of_ble_eq_true rfl)) (fun hb10 v9 => ?_)
        exact tr_iret0 hX hS dX9_add_64
theorem ok_X9_add {l : Launch} {E : Ev} (x1 : Int32) (x2 : Int32)  : Ok l E Gall yX9_add cX9_add 3 ((some .int)) (rmz 2 46) eI [.ref (E.2.1 161), .int x1, .int x2] (f_X9_add x1 x2) := by
  refine ok_of0 (by decide) (Nat.le_of_ble_eq_true rfl) (fun X hX hV hS => ?_)
  subst hV
  exact t_X9_add_0 hX hS x1 x2
def f_X9_clear (x1 : Int32) : M Int32 :=
  bnd (f_X9_isVerse x1) (fun v1 => if v1 = 0 then (rt (-1)) else (aI 167 18 x1 (fun v2 => sI 167 18 x1 0 (rt v2))))
set_option maxRecDepth 10000 in
set_option maxHeartbeats 4000000 in
theorem t_X9_clear_0 {X : Cx} (hX : Good X RX9 cX9_clear ((some .int))) (hS : Sta X 2 45 3) (x1 : Int32) : Tr X eI 0 0 0 [(0, .ref (cxAd X 161)), (1, .int x1)] [] (f_X9_clear x1) := by
  unfold f_X9_clear
  refine tr_iload_n 1 hX dX9_clear_0 rfl rfl ?_
  refine tr_callS0I (st := []) 1 hX hS dX9_clear_1 (ok_X9_isVerse x1) k_13_12 k_13_13 k_1_5 k_13_14 hy_X9_isVerse.2 rfl rfl (Nat.le_of_ble_eq_true rfl) rfl (fun v1 => ?_)
  refine tr_if_ne 9 hX dX9_clear_4 (by decide) (fun c4 => ?_) (fun c4 => ?_)
  · refine tr_iconst (-1) hX dX9_clear_7 (by decide) ?_
    exact tr_iret0 hX hS dX9_clear_8
  · refine tr_aload_n 0 hX dX9_clear_9 rfl rfl ?_
    refine tr_getF hX dX9_clear_10 sh_161 (by decide) rfl inlX9 (by decide) rfl (hS.g (Nat.le_of_ble_eq_true rfl)) cr_161_6 k_6_16 mq_161 ?_
    refine tr_iload_n 1 hX dX9_clear_13 rfl rfl ?_
    refine tr_iald hX dX9_clear_14 sh_167 (hS.e (Nat.le_of_ble_eq_true rfl)) (fun hb3 v2 => ?_)
    refine tr_istore_n hX dX9_clear_15 rfl (hS.n (by decide)) rfl ?_
    refine tr_aload_n 1 hX dX9_clear_16 rfl rfl ?_
    refine tr_getF hX dX9_clear_17 sh_161 (by decide) rfl inlX9 (by decide) rfl (hS.g (Nat.le_of_ble_eq_true rfl)) cr_161_6 k_6_16 mq_161 ?_
    refine tr_iload_n 2 hX dX9_clear_20 rfl rfl ?_
    refine tr_iconst 0 hX dX9_clear_21 (by decide) ?_
    refine tr_iast hX dX9_clear_22 sh_167 (hS.e (Nat.le_of_ble_eq_true rfl)) (fun _ => ?_)
    refine tr_iload_n 0 hX dX9_clear_23 rfl rfl ?_
    exact tr_iret0 hX hS dX9_clear_24
theorem ok_X9_clear {l : Launch} {E : Ev} (x1 : Int32)  : Ok l E Gall yX9_clear cX9_clear 3 ((some .int)) (rmz 2 45) eI [.ref (E.2.1 161), .int x1] (f_X9_clear x1) := by
  refine ok_of0 (by decide) (Nat.le_of_ble_eq_true rfl) (fun X hX hV hS => ?_)
  subst hV
  exact t_X9_clear_0 hX hS x1
def f_X9_word_14  : M Int32 :=
  rt (-1)
set_option maxRecDepth 10000 in
set_option maxHeartbeats 4000000 in
theorem t_X9_word_14 {X : Cx} (hX : Good X RX9 cX9_word ((some .int))) (hS : Sta X 2 45 3) : Tr X eI 0 0 14 [] [] (f_X9_word_14) := by
  unfold f_X9_word_14
  refine tr_iconst (-1) hX dX9_word_14 (by decide) ?_
  exact tr_iret0 hX hS dX9_word_15
def f_X9_word_42 (p0 : Int32) : M Int32 :=
  rt p0
set_option maxRecDepth 10000 in
set_option maxHeartbeats 4000000 in
theorem t_X9_word_42 {X : Cx} (hX : Good X RX9 cX9_word ((some .int))) (hS : Sta X 2 45 3) (p0 : Int32) : Tr X eI 0 0 42 [] [.int p0] (f_X9_word_42 p0) := by
  unfold f_X9_word_42
  exact tr_iret0 hX hS dX9_word_42
def f_X9_word (x1 : Int32) (x2 : Int32) : M Int32 :=
  bnd (f_X9_isVerse x1) (fun v1 => if v1 = 0 then (f_X9_word_14) else (bnd (f_X9_isPlace x2) (fun v2 => if v2 = 0 then (f_X9_word_14) else (aI 167 18 x1 (fun v3 => if v3 ≤ x2 then (f_X9_word_42 (-4)) else (aI 168 144 ((8 * x1) + x2) (fun v5 => f_X9_word_42 v5)))))))
set_option maxRecDepth 10000 in
set_option maxHeartbeats 4000000 in
theorem t_X9_word_0 {X : Cx} (hX : Good X RX9 cX9_word ((some .int))) (hS : Sta X 2 45 3) (x1 : Int32) (x2 : Int32) : Tr X eI 0 0 0 [(0, .ref (cxAd X 161)), (1, .int x1), (2, .int x2)] [] (f_X9_word x1 x2) := by
  unfold f_X9_word
  refine tr_iload_n 1 hX dX9_word_0 rfl rfl ?_
  refine tr_callS0I (st := []) 1 hX hS dX9_word_1 (ok_X9_isVerse x1) k_13_12 k_13_13 k_1_5 k_13_14 hy_X9_isVerse.2 rfl rfl (Nat.le_of_ble_eq_true rfl) rfl (fun v1 => ?_)
  refine tr_if_eq 14 hX dX9_word_4 (by decide) (fun c9 => ?_) (fun c9 => ?_)
  · exact tr_sub [] rfl (t_X9_word_14 hX hS)
  · refine tr_iload_n 2 hX dX9_word_7 rfl rfl ?_
    refine tr_callS0I (st := []) 1 hX hS dX9_word_8 (ok_X9_isPlace x2) k_14_12 k_14_13 k_1_5 k_14_14 hy_X9_isPlace.2 rfl rfl (Nat.le_of_ble_eq_true rfl) rfl (fun v2 => ?_)
    refine tr_if_ne 16 hX dX9_word_11 (by decide) (fun c8 => ?_) (fun c8 => ?_)
    · exact tr_sub [] rfl (t_X9_word_14 hX hS)
    · refine tr_iload_n 2 hX dX9_word_16 rfl rfl ?_
      refine tr_aload_n 0 hX dX9_word_17 rfl rfl ?_
      refine tr_getF hX dX9_word_18 sh_161 (by decide) rfl inlX9 (by decide) rfl (hS.g (Nat.le_of_ble_eq_true rfl)) cr_161_6 k_6_16 mq_161 ?_
      refine tr_iload_n 1 hX dX9_word_21 rfl rfl ?_
      refine tr_iald hX dX9_word_22 sh_167 (hS.e (Nat.le_of_ble_eq_true rfl)) (fun hb4 v3 => ?_)
      refine tr_ic_ge 40 hX dX9_word_23 (by decide) (fun c7 => ?_) (fun c7 => ?_)
      · refine tr_bipush (-4) hX dX9_word_40 (by decide) ?_
        exact tr_sub [] rfl (t_X9_word_42 hX hS (-4))
      · refine tr_aload_n 0 hX dX9_word_26 rfl rfl ?_
        refine tr_getF hX dX9_word_27 sh_161 (by decide) rfl inlX9 (by decide) rfl (hS.g (Nat.le_of_ble_eq_true rfl)) cr_161_7 k_6_17 mq_161 ?_
        refine tr_bipush 8 hX dX9_word_30 (by decide) ?_
        refine tr_iload_n 1 hX dX9_word_32 rfl rfl ?_
        refine tr_imul hX dX9_word_33 ?_
        refine tr_iload_n 2 hX dX9_word_34 rfl rfl ?_
        refine tr_iadd hX dX9_word_35 ?_
        refine tr_iald hX dX9_word_36 sh_168 (hS.e (Nat.le_of_ble_eq_true rfl)) (fun hb6 v5 => ?_)
        refine tr_goto 42 hX dX9_word_37 (by decide) ?_
        exact tr_sub [] rfl (t_X9_word_42 hX hS v5)
theorem ok_X9_word {l : Launch} {E : Ev} (x1 : Int32) (x2 : Int32)  : Ok l E Gall yX9_word cX9_word 3 ((some .int)) (rmz 2 45) eI [.ref (E.2.1 161), .int x1, .int x2] (f_X9_word x1 x2) := by
  refine ok_of0 (by decide) (Nat.le_of_ble_eq_true rfl) (fun X hX hV hS => ?_)
  subst hV
  exact t_X9_word_0 hX hS x1 x2
def f_X9_sayPlace_72  : M Unit :=
  wI 161 23 0 (rI 161 19 (fun v1 => wI 161 19 (v1 + 1) (rt ())))
set_option maxRecDepth 10000 in
set_option maxHeartbeats 4000000 in
theorem t_X9_sayPlace_72 {X : Cx} (hX : Good X RX9 cX9_sayPlace (none)) (hS : Sta X 0 0 2) : Tr X eU 0 0 72 [(0, .ref (cxAd X 161))] [] (f_X9_sayPlace_72) := by
  unfold f_X9_sayPlace_72
  refine tr_aload_n 0 hX dX9_sayPlace_72 rfl rfl ?_
  refine tr_iconst 0 hX dX9_sayPlace_73 (by decide) ?_
  refine tr_putI hX dX9_sayPlace_74 sh_161 (by decide) rfl inlX9 tyX9 tyX9_ok nmX9 (by decide) rfl (hS.e (Nat.le_of_ble_eq_true rfl)) k_16_23 rfl rfl rfl rfl ?_
  refine tr_aload_n 0 hX dX9_sayPlace_77 rfl rfl ?_
  refine tr_dup hX dX9_sayPlace_78 rfl ?_
  refine tr_getI hX dX9_sayPlace_79 sh_161 (by decide) rfl inlX9 (by decide) rfl (hS.e (Nat.le_of_ble_eq_true rfl)) k_16_8 (fun v1 => ?_)
  refine tr_iconst 1 hX dX9_sayPlace_82 (by decide) ?_
  refine tr_iadd hX dX9_sayPlace_83 ?_
  refine tr_putI hX dX9_sayPlace_84 sh_161 (by decide) rfl inlX9 tyX9 tyX9_ok nmX9 (by decide) rfl (hS.e (Nat.le_of_ble_eq_true rfl)) k_16_8 rfl rfl rfl rfl ?_
  exact tr_vret0 hX hS dX9_sayPlace_87
def f_X9_sayPlace_31 (x1 : Int32) (p0 : Int32) (p1 : Int32) : M Unit :=
  sI 176 168 p1 p0 (rI 161 19 (fun v1 => sI 177 168 v1 x1 (rI 161 19 (fun v2 => sI 178 168 v2 (-4) (rI 161 23 (fun v3 => if v3 = 0 then (rI 161 19 (fun v4 => sI 178 168 (v4 - 1) x1 (f_X9_sayPlace_72))) else (f_X9_sayPlace_72)))))))
set_option maxRecDepth 10000 in
set_option maxHeartbeats 4000000 in
theorem t_X9_sayPlace_31 {X : Cx} (hX : Good X RX9 cX9_sayPlace (none)) (hS : Sta X 0 0 2) (x1 : Int32) (p0 : Int32) (p1 : Int32) : Tr X eU 0 0 31 [(0, .ref (cxAd X 161)), (1, .int x1)] [.int p0, .int p1, .ref (cxAd X 176)] (f_X9_sayPlace_31 x1 p0 p1) := by
  unfold f_X9_sayPlace_31
  refine tr_iast hX dX9_sayPlace_31 sh_176 (hS.e (Nat.le_of_ble_eq_true rfl)) (fun _ => ?_)
  refine tr_aload_n 0 hX dX9_sayPlace_32 rfl rfl ?_
  refine tr_getF hX dX9_sayPlace_33 sh_161 (by decide) rfl inlX9 (by decide) rfl (hS.g (Nat.le_of_ble_eq_true rfl)) cr_161_21 k_7_2 mq_161 ?_
  refine tr_aload_n 0 hX dX9_sayPlace_36 rfl rfl ?_
  refine tr_getI hX dX9_sayPlace_37 sh_161 (by decide) rfl inlX9 (by decide) rfl (hS.e (Nat.le_of_ble_eq_true rfl)) k_16_8 (fun v1 => ?_)
  refine tr_iload_n 1 hX dX9_sayPlace_40 rfl rfl ?_
  refine tr_iast hX dX9_sayPlace_41 sh_177 (hS.e (Nat.le_of_ble_eq_true rfl)) (fun _ => ?_)
  refine tr_aload_n 0 hX dX9_sayPlace_42 rfl rfl ?_
  refine tr_getF hX dX9_sayPlace_43 sh_161 (by decide) rfl inlX9 (by decide) rfl (hS.g (Nat.le_of_ble_eq_true rfl)) cr_161_22 k_7_3 mq_161 ?_
  refine tr_aload_n 0 hX dX9_sayPlace_46 rfl rfl ?_
  refine tr_getI hX dX9_sayPlace_47 sh_161 (by decide) rfl inlX9 (by decide) rfl (hS.e (Nat.le_of_ble_eq_true rfl)) k_16_8 (fun v2 => ?_)
  refine tr_bipush (-4) hX dX9_sayPlace_50 (by decide) ?_
  refine tr_iast hX dX9_sayPlace_52 sh_178 (hS.e (Nat.le_of_ble_eq_true rfl)) (fun _ => ?_)
  refine tr_aload_n 0 hX dX9_sayPlace_53 rfl rfl ?_
  refine tr_getI hX dX9_sayPlace_54 sh_161 (by decide) rfl inlX9 (by decide) rfl (hS.e (Nat.le_of_ble_eq_true rfl)) k_16_23 (fun v3 => ?_)
  refine tr_if_ne 72 hX dX9_sayPlace_57 (by decide) (fun c5 => ?_) (fun c5 => ?_)
  · refine tr_aload_n 0 hX dX9_sayPlace_60 rfl rfl ?_
    refine tr_getF hX dX9_sayPlace_61 sh_161 (by decide) rfl inlX9 (by decide) rfl (hS.g (Nat.le_of_ble_eq_true rfl)) cr_161_22 k_7_3 mq_161 ?_
    refine tr_aload_n 0 hX dX9_sayPlace_64 rfl rfl ?_
    refine tr_getI hX dX9_sayPlace_65 sh_161 (by decide) rfl inlX9 (by decide) rfl (hS.e (Nat.le_of_ble_eq_true rfl)) k_16_8 (fun v4 => ?_)
    refine tr_iconst 1 hX dX9_sayPlace_68 (by decide) ?_
    refine tr_isub hX dX9_sayPlace_69 ?_
    refine tr_iload_n 1 hX dX9_sayPlace_70 rfl rfl ?_
    refine tr_iast hX dX9_sayPlace_71 sh_178 (hS.e (Nat.le_of_ble_eq_true rfl)) (fun _ => ?_)
    exact tr_sub [0] rfl (t_X9_sayPlace_72 hX hS)
  · exact tr_sub [0] rfl (t_X9_sayPlace_72 hX hS)
def f_X9_sayPlace (x1 : Int32) : M Unit :=
  rI 161 19 (fun v1 => rI 161 23 (fun v2 => if v2 = 0 then (rI 161 19 (fun v3 => aI 177 168 (v3 - 1) (fun v4 => f_X9_sayPlace_31 x1 v4 v1))) else (f_X9_sayPlace_31 x1 (-4) v1)))
set_option maxRecDepth 10000 in
set_option maxHeartbeats 4000000 in
theorem t_X9_sayPlace_0 {X : Cx} (hX : Good X RX9 cX9_sayPlace (none)) (hS : Sta X 0 0 2) (x1 : Int32) : Tr X eU 0 0 0 [(0, .ref (cxAd X 161)), (1, .int x1)] [] (f_X9_sayPlace x1) := by
  unfold f_X9_sayPlace
  refine tr_aload_n 0 hX dX9_sayPlace_0 rfl rfl ?_
  refine tr_getF hX dX9_sayPlace_1 sh_161 (by decide) rfl inlX9 (by decide) rfl (hS.g (Nat.le_of_ble_eq_true rfl)) cr_161_20 k_7_1 mq_161 ?_
  refine tr_aload_n 0 hX dX9_sayPlace_4 rfl rfl ?_
  refine tr_getI hX dX9_sayPlace_5 sh_161 (by decide) rfl inlX9 (by decide) rfl (hS.e (Nat.le_of_ble_eq_true rfl)) k_16_8 (fun v1 => ?_)
  refine tr_aload_n 0 hX dX9_sayPlace_8 rfl rfl ?_
  refine tr_getI hX dX9_sayPlace_9 sh_161 (by decide) rfl inlX9 (by decide) rfl (hS.e (Nat.le_of_ble_eq_true rfl)) k_16_23 (fun v2 => ?_)
  refine tr_if_eq 20 hX dX9_sayPlace_12 (by decide) (fun c6 => ?_) (fun c6 => ?_)
  · refine tr_aload_n 0 hX dX9_sayPlace_20 rfl rfl ?_
    refine tr_getF hX dX9_sayPlace_21 sh_161 (by decide) rfl inlX9 (by decide) rfl (hS.g (Nat.le_of_ble_eq_true rfl)) cr_161_21 k_7_2 mq_161 ?_
    refine tr_aload_n 0 hX dX9_sayPlace_24 rfl rfl ?_
    refine tr_getI hX dX9_sayPlace_25 sh_161 (by decide) rfl inlX9 (by decide) rfl (hS.e (Nat.le_of_ble_eq_true rfl)) k_16_8 (fun v3 => ?_)
    refine tr_iconst 1 hX dX9_sayPlace_28 (by decide) ?_
    refine tr_isub hX dX9_sayPlace_29 ?_
    refine tr_iald hX dX9_sayPlace_30 sh_177 (hS.e (Nat.le_of_ble_eq_true rfl)) (fun hb5 v4 => ?_)
    exact tr_sub [0, 1] rfl (t_X9_sayPlace_31 hX hS x1 v4 v1)
  · refine tr_bipush (-4) hX dX9_sayPlace_15 (by decide) ?_
    refine tr_goto 31 hX dX9_sayPlace_17 (by decide) ?_
    exact tr_sub [0, 1] rfl (t_X9_sayPlace_31 hX hS x1 (-4) v1)
theorem ok_X9_sayPlace {l : Launch} {E : Ev} (x1 : Int32)  : Ok l E Gall yX9_sayPlace cX9_sayPlace 2 (none) (rmz 0 0) eU [.ref (E.2.1 161), .int x1] (f_X9_sayPlace x1) := by
  refine ok_of0 (by decide) (Nat.le_of_ble_eq_true rfl) (fun X hX hV hS => ?_)
  subst hV
  exact t_X9_sayPlace_0 hX hS x1
