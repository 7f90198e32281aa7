def f_X0_empty_2 (x0 : Nat) (s2 : Int32 → M Unit) (x1 : Int32) : M Unit :=
  if 6 ≤ x1 then (wI x0 3 0 (rt ())) else (sI (x0 + 8) 6 x1 0 (s2 (x1 + 1)))
set_option maxRecDepth 10000 in
set_option maxHeartbeats 4000000 in
theorem t_X0_empty_2 {X : Cx} (hX : Good X RX0 cX0_empty (none)) (hS : Sta X 0 0 2) (x0 : Nat) (hx0 : isB x0) : ∀ s2 : Int32 → M Unit, (∀ x1 : Int32, Tr X eU 0 0 2 [(0, .ref (cxAd X x0)), (1, .int x1)] [] (s2 x1)) → ∀ x1 : Int32, Tr X eU 0 0 2 [(0, .ref (cxAd X x0)), (1, .int x1)] [] (f_X0_empty_2 x0 s2 x1) := by
  intro s2 hs2 x1
  unfold f_X0_empty_2
  refine tr_iload_n 1 hX dX0_empty_2 rfl rfl ?_
  refine tr_bipush 6 hX dX0_empty_3 (by decide) ?_
  refine tr_ic_ge 21 hX dX0_empty_5 (by decide) (fun c1 => ?_) (fun c1 => ?_)
  · refine tr_aload_n 0 hX dX0_empty_21 rfl rfl ?_
    refine tr_iconst 0 hX dX0_empty_22 (by decide) ?_
    refine tr_putI hX dX0_empty_23 (shB hx0) (by decide) rfl inlX0 tyX0 tyX0_ok nmX0 (by decide) rfl (hS.e (leB hx0)) k_12_6 rfl rfl rfl rfl ?_
    exact tr_vret0 hX hS dX0_empty_26
  · refine tr_aload_n 0 hX dX0_empty_8 rfl rfl ?_
    refine tr_getF hX dX0_empty_9 (shB hx0) (by decide) rfl inlX0 (by decide) rfl (hS.g (leB hx0)) (crB_1 hx0) k_4_2 (mqB hx0) ?_
    refine tr_iload_n 1 hX dX0_empty_12 rfl rfl ?_
    refine tr_iconst 0 hX dX0_empty_13 (by decide) ?_
    refine tr_iast hX dX0_empty_14 (shB_8 hx0) (hS.e (leB_8 hx0)) (fun _ => ?_)
    refine tr_iinc (x1 + 1) 1 hX dX0_empty_15 rfl (congrArg (fun z => x1 + z) (by decide)) (hS.n (by decide)) rfl ?_
    refine tr_goto 2 hX dX0_empty_18 (by decide) ?_
    exact tr_sub [1, 0] rfl (hs2 (x1 + 1))
def f_X0_empty (x0 : Nat) : M Unit :=
  fix1 FU (f_X0_empty_2 x0) 0
set_option maxRecDepth 10000 in
set_option maxHeartbeats 4000000 in
theorem t_X0_empty_0 {X : Cx} (hX : Good X RX0 cX0_empty (none)) (hS : Sta X 0 0 2) (x0 : Nat) (hx0 : isB x0) : Tr X eU 0 0 0 [(0, .ref (cxAd X x0))] [] (f_X0_empty x0) := by
  unfold f_X0_empty
  refine tr_iconst 0 hX dX0_empty_0 (by decide) ?_
  refine tr_istore_n hX dX0_empty_1 rfl (hS.n (by decide)) rfl ?_
  exact tr_sub [1, 0] rfl (tr_fix1 (lvf := fun x1 => [(0, .ref (cxAd X x0)), (1, .int x1)]) (t_X0_empty_2 hX hS x0 hx0) FU 0)
theorem ok_X0_empty {l : Launch} {E : Ev} (x0 : Nat) (hx0 : isB x0) : Ok l E Gall yX0_empty cX0_empty 2 (none) (rmz 0 0) eU [.ref (E.2.1 x0)] (f_X0_empty x0) := by
  refine ok_of0 (by decide) (Nat.le_of_ble_eq_true rfl) (fun X hX hV hS => ?_)
  subst hV
  exact t_X0_empty_0 hX hS x0 hx0
def f_X0_copy_2 (x0 : Nat) (x1 : Nat) (s2 : Int32 → M Unit) (x2 : Int32) : M Unit :=
  if 6 ≤ x2 then (cp (x1 + 8) ((0 : Int32).toNatClampNeg) (x0 + 8) ((0 : Int32).toNatClampNeg) ((6 : Int32).toNatClampNeg) (cp (x1 + 9) ((0 : Int32).toNatClampNeg) (x0 + 9) ((0 : Int32).toNatClampNeg) ((84 : Int32).toNatClampNeg) (rI x1 3 (fun v1 => wI x0 3 v1 (rI x1 4 (fun v2 => wI x0 4 v2 (rI x1 5 (fun v3 => wI x0 5 v3 (rt ()))))))))) else (gd (inb x2 6) (gd (inb x2 6) (cp (x1 + 1 + 1 + x2.toNatClampNeg) ((0 : Int32).toNatClampNeg) (x0 + 1 + 1 + x2.toNatClampNeg) ((0 : Int32).toNatClampNeg) ((8 : Int32).toNatClampNeg) (s2 (x2 + 1)))))
set_option maxRecDepth 10000 in
set_option maxHeartbeats 4000000 in
theorem t_X0_copy_2 {X : Cx} (hX : Good X RX0 cX0_copy (none)) (hS : Sta X 1 60 3) (x0 : Nat) (x1 : Nat) (hx0 : isB x0) (hx1 : isB x1) : ∀ s2 : Int32 → M Unit, (∀ x2 : Int32, Tr X eU 0 0 2 [(0, .ref (cxAd X x0)), (1, .ref (cxAd X x1)), (2, .int x2)] [] (s2 x2)) → ∀ x2 : Int32, Tr X eU 0 0 2 [(0, .ref (cxAd X x0)), (1, .ref (cxAd X x1)), (2, .int x2)] [] (f_X0_copy_2 x0 x1 s2 x2) := by
  intro s2 hs2 x2
  unfold f_X0_copy_2
  refine tr_iload_n 2 hX dX0_copy_2 rfl rfl ?_
  refine tr_bipush 6 hX dX0_copy_3 (by decide) ?_
  refine tr_ic_ge 33 hX dX0_copy_5 (by decide) (fun c6 => ?_) (fun c6 => ?_)
  · refine tr_aload_n 1 hX dX0_copy_33 rfl rfl ?_
    refine tr_getF hX dX0_copy_34 (shB hx1) (by decide) rfl inlX0 (by decide) rfl (hS.g (leB hx1)) (crB_1 hx1) k_4_2 (mqB hx1) ?_
    refine tr_iconst 0 hX dX0_copy_37 (by decide) ?_
    refine tr_aload_n 0 hX dX0_copy_38 rfl rfl ?_
    refine tr_getF hX dX0_copy_39 (shB hx0) (by decide) rfl inlX0 (by decide) rfl (hS.g (leB hx0)) (crB_1 hx0) k_4_2 (mqB hx0) ?_
    refine tr_iconst 0 hX dX0_copy_42 (by decide) ?_
    refine tr_bipush 6 hX dX0_copy_43 (by decide) ?_
    refine tr_copy hX dX0_copy_45 k_38_15 k_28_4 k_28_5 k_28_6 (shB_8 hx1) (shB_8 hx0) (hS.e (leB_8 hx1)) (hS.e (leB_8 hx0)) (by decide) (by decide) (by decide) (by decide) (by decide) (by rw [hS.2.2.2.2.1]; exact Nat.le_of_ble_eq_true rfl) (by rw [hS.2.2.2.2.1]; exact Nat.le_of_ble_eq_true rfl) ?_
    refine tr_aload_n 1 hX dX0_copy_48 rfl rfl ?_
    refine tr_getF hX dX0_copy_49 (shB hx1) (by decide) rfl inlX0 (by decide) rfl (hS.g (leB hx1)) (crB_2 hx1) k_4_3 (mqB hx1) ?_
    refine tr_iconst 0 hX dX0_copy_52 (by decide) ?_
    refine tr_aload_n 0 hX dX0_copy_53 rfl rfl ?_
    refine tr_getF hX dX0_copy_54 (shB hx0) (by decide) rfl inlX0 (by decide) rfl (hS.g (leB hx0)) (crB_2 hx0) k_4_3 (mqB hx0) ?_
    refine tr_iconst 0 hX dX0_copy_57 (by decide) ?_
    refine tr_bipush 84 hX dX0_copy_58 (by decide) ?_
    refine tr_copy hX dX0_copy_60 k_38_15 k_28_4 k_28_5 k_28_6 (shB_9 hx1) (shB_9 hx0) (hS.e (leB_9 hx1)) (hS.e (leB_9 hx0)) (by decide) (by decide) (by decide) (by decide) (by decide) (by rw [hS.2.2.2.2.1]; exact Nat.le_of_ble_eq_true rfl) (by rw [hS.2.2.2.2.1]; exact Nat.le_of_ble_eq_true rfl) ?_
    refine tr_aload_n 0 hX dX0_copy_63 rfl rfl ?_
    refine tr_aload_n 1 hX dX0_copy_64 rfl rfl ?_
    refine tr_getI hX dX0_copy_65 (shB hx1) (by decide) rfl inlX0 (by decide) rfl (hS.e (leB hx1)) k_12_6 (fun v1 => ?_)
    refine tr_putI hX dX0_copy_68 (shB hx0) (by decide) rfl inlX0 tyX0 tyX0_ok nmX0 (by decide) rfl (hS.e (leB hx0)) k_12_6 rfl rfl rfl rfl ?_
    refine tr_aload_n 0 hX dX0_copy_71 rfl rfl ?_
    refine tr_aload_n 1 hX dX0_copy_72 rfl rfl ?_
    refine tr_getI hX dX0_copy_73 (shB hx1) (by decide) rfl inlX0 (by decide) rfl (hS.e (leB hx1)) k_38_16 (fun v2 => ?_)
    refine tr_putI hX dX0_copy_76 (shB hx0) (by decide) rfl inlX0 tyX0 tyX0_ok nmX0 (by decide) rfl (hS.e (leB hx0)) k_38_16 rfl rfl rfl rfl ?_
    refine tr_aload_n 0 hX dX0_copy_79 rfl rfl ?_
    refine tr_aload_n 1 hX dX0_copy_80 rfl rfl ?_
    refine tr_getI hX dX0_copy_81 (shB hx1) (by decide) rfl inlX0 (by decide) rfl (hS.e (leB hx1)) k_38_17 (fun v3 => ?_)
    refine tr_putI hX dX0_copy_84 (shB hx0) (by decide) rfl inlX0 tyX0 tyX0_ok nmX0 (by decide) rfl (hS.e (leB hx0)) k_38_17 rfl rfl rfl rfl ?_
    exact tr_vret0 hX hS dX0_copy_87
  · refine tr_aload_n 1 hX dX0_copy_8 rfl rfl ?_
    refine tr_getF hX dX0_copy_9 (shB hx1) (by decide) rfl inlX0 (by decide) rfl (hS.g (leB hx1)) (crB_0 hx1) k_4_1 (mqB hx1) ?_
    refine tr_iload_n 2 hX dX0_copy_12 rfl rfl ?_
    refine tr_aald hX dX0_copy_13 (shB_1 hx1) (hS.e (leB_1 hx1)) (fun hb4 => ?_)
    refine tr_iconst 0 hX dX0_copy_14 (by decide) ?_
    refine tr_aload_n 0 hX dX0_copy_15 rfl rfl ?_
    refine tr_getF hX dX0_copy_16 (shB hx0) (by decide) rfl inlX0 (by decide) rfl (hS.g (leB hx0)) (crB_0 hx0) k_4_1 (mqB hx0) ?_
    refine tr_iload_n 2 hX dX0_copy_19 rfl rfl ?_
    refine tr_aald hX dX0_copy_20 (shB_1 hx0) (hS.e (leB_1 hx0)) (fun hb5 => ?_)
    refine tr_iconst 0 hX dX0_copy_21 (by decide) ?_
    refine tr_bipush 8 hX dX0_copy_22 (by decide) ?_
    refine tr_copy hX dX0_copy_24 k_38_15 k_28_4 k_28_5 k_28_6 (rowB hx1 hb4).1 (rowB hx0 hb5).1 (hS.e (rowB hx1 hb4).2) (hS.e (rowB hx0 hb5).2) (by decide) (by decide) (by decide) (by decide) (by decide) (by rw [hS.2.2.2.2.1]; exact Nat.le_of_ble_eq_true rfl) (by rw [hS.2.2.2.2.1]; exact Nat.le_of_ble_eq_true rfl) ?_
    refine tr_iinc (x2 + 1) 2 hX dX0_copy_27 rfl (congrArg (fun z => x2 + z) (by decide)) (hS.n (by decide)) rfl ?_
    refine tr_goto 2 hX dX0_copy_30 (by decide) ?_
    exact tr_sub [1, 2, 0] rfl (hs2 (x2 + 1))
def f_X0_copy (x0 : Nat) (x1 : Nat) : M Unit :=
  fix1 FU (f_X0_copy_2 x0 x1) 0
set_option maxRecDepth 10000 in
set_option maxHeartbeats 4000000 in
theorem t_X0_copy_0 {X : Cx} (hX : Good X RX0 cX0_copy (none)) (hS : Sta X 1 60 3) (x0 : Nat) (x1 : Nat) (hx0 : isB x0) (hx1 : isB x1) : Tr X eU 0 0 0 [(0, .ref (cxAd X x0)), (1, .ref (cxAd X x1))] [] (f_X0_copy x0 x1) := by
  unfold f_X0_copy
  refine tr_iconst 0 hX dX0_copy_0 (by decide) ?_
  refine tr_istore_n hX dX0_copy_1 rfl (hS.n (by decide)) rfl ?_
  exact tr_sub [1, 2, 0] rfl (tr_fix1 (lvf := fun x2 => [(0, .ref (cxAd X x0)), (1, .ref (cxAd X x1)), (2, .int x2)]) (t_X0_copy_2 hX hS x0 x1 hx0 hx1) FU 0)
theorem ok_X0_copy {l : Launch} {E : Ev} (x0 : Nat) (x1 : Nat) (hx0 : isB x0) (hx1 : isB x1) : Ok l E Gall yX0_copy cX0_copy 3 (none) (rmz 1 60) eU [.ref (E.2.1 x0), .ref (E.2.1 x1)] (f_X0_copy x0 x1) := by
  refine ok_of0 (by decide) (Nat.le_of_ble_eq_true rfl) (fun X hX hV hS => ?_)
  subst hV
  exact t_X0_copy_0 hX hS x0 x1 hx0 hx1
def f_X0_wordsInAll_4 (x0 : Nat) (s4 : Int32 → Int32 → M Int32) (x1 : Int32) (x2 : Int32) : M Int32 :=
  if 6 ≤ x2 then (rt x1) else (aI (x0 + 8) 6 x2 (fun v1 => nm ((x1 + v1)) (fun v3 => s4 v3 (x2 + 1))))
set_option maxRecDepth 10000 in
set_option maxHeartbeats 4000000 in
theorem t_X0_wordsInAll_4 {X : Cx} (hX : Good X RX0 cX0_wordsInAll ((some .int))) (hS : Sta X 0 0 3) (x0 : Nat) (hx0 : isB x0) : ∀ s4 : Int32 → Int32 → M Int32, (∀ x1 : Int32, ∀ x2 : Int32, Tr X eI 0 0 4 [(0, .ref (cxAd X x0)), (1, .int x1), (2, .int x2)] [] (s4 x1 x2)) → ∀ x1 : Int32, ∀ x2 : Int32, Tr X eI 0 0 4 [(0, .ref (cxAd X x0)), (1, .int x1), (2, .int x2)] [] (f_X0_wordsInAll_4 x0 s4 x1 x2) := by
  intro s4 hs4 x1 x2
  unfold f_X0_wordsInAll_4
  refine tr_iload_n 2 hX dX0_wordsInAll_4 rfl rfl ?_
  refine tr_bipush 6 hX dX0_wordsInAll_5 (by decide) ?_
  refine tr_ic_ge 25 hX dX0_wordsInAll_7 (by decide) (fun c4 => ?_) (fun c4 => ?_)
  · refine tr_iload_n 1 hX dX0_wordsInAll_25 rfl rfl ?_
    exact tr_iret0 hX hS dX0_wordsInAll_26
  · refine tr_iload_n 1 hX dX0_wordsInAll_10 rfl rfl ?_
    refine tr_aload_n 0 hX dX0_wordsInAll_11 rfl rfl ?_
    refine tr_getF hX dX0_wordsInAll_12 (shB hx0) (by decide) rfl inlX0 (by decide) rfl (hS.g (leB hx0)) (crB_1 hx0) k_4_2 (mqB hx0) ?_
    refine tr_iload_n 2 hX dX0_wordsInAll_15 rfl rfl ?_
    refine tr_iald hX dX0_wordsInAll_16 (shB_8 hx0) (hS.e (leB_8 hx0)) (fun hb2 v1 => ?_)
    refine tr_iadd hX dX0_wordsInAll_17 ?_
    refine tr_nm (fun v3 ev3 => ?_)
    refine tr_istore_n hX dX0_wordsInAll_18 rfl (hS.n (by decide)) rfl ?_
    refine tr_iinc (x2 + 1) 2 hX dX0_wordsInAll_19 rfl (congrArg (fun z => x2 + z) (by decide)) (hS.n (by decide)) rfl ?_
    refine tr_goto 4 hX dX0_wordsInAll_22 (by decide) ?_
    exact tr_sub [2, 1, 0] rfl (hs4 v3 (x2 + 1))
def f_X0_wordsInAll (x0 : Nat) : M Int32 :=
  fix2 FU (f_X0_wordsInAll_4 x0) 0 0
set_option maxRecDepth 10000 in
set_option maxHeartbeats 4000000 in
theorem t_X0_wordsInAll_0 {X : Cx} (hX : Good X RX0 cX0_wordsInAll ((some .int))) (hS : Sta X 0 0 3) (x0 : Nat) (hx0 : isB x0) : Tr X eI 0 0 0 [(0, .ref (cxAd X x0))] [] (f_X0_wordsInAll x0) := by
  unfold f_X0_wordsInAll
  refine tr_iconst 0 hX dX0_wordsInAll_0 (by decide) ?_
  refine tr_istore_n hX dX0_wordsInAll_1 rfl (hS.n (by decide)) rfl ?_
  refine tr_iconst 0 hX dX0_wordsInAll_2 (by decide) ?_
  refine tr_istore_n hX dX0_wordsInAll_3 rfl (hS.n (by decide)) rfl ?_
  exact tr_sub [2, 1, 0] rfl (tr_fix2 (lvf := fun x1 x2 => [(0, .ref (cxAd X x0)), (1, .int x1), (2, .int x2)]) (t_X0_wordsInAll_4 hX hS x0 hx0) FU 0 0)
theorem ok_X0_wordsInAll {l : Launch} {E : Ev} (x0 : Nat) (hx0 : isB x0) : Ok l E Gall yX0_wordsInAll cX0_wordsInAll 3 ((some .int)) (rmz 0 0) eI [.ref (E.2.1 x0)] (f_X0_wordsInAll x0) := by
  refine ok_of0 (by decide) (Nat.le_of_ble_eq_true rfl) (fun X hX hV hS => ?_)
  subst hV
  exact t_X0_wordsInAll_0 hX hS x0 hx0
def f_X0_has_27 (p0 : Int32) : M Int32 :=
  gd (p0 = 0 ∨ p0 = 1) (rt p0)
set_option maxRecDepth 10000 in
set_option maxHeartbeats 4000000 in
theorem t_X0_has_27 {X : Cx} (hX : Good X RX0 cX0_has ((some .boolean))) (hS : Sta X 0 0 4) (p0 : Int32) : Tr X eI 0 0 27 [] [.int p0] (f_X0_has_27 p0) := by
  unfold f_X0_has_27
  exact tr_zret0 hX hS dX0_has_27
def f_X0_has_26  : M Int32 :=
  f_X0_has_27 0
set_option maxRecDepth 10000 in
set_option maxHeartbeats 4000000 in
theorem t_X0_has_26 {X : Cx} (hX : Good X RX0 cX0_has ((some .boolean))) (hS : Sta X 0 0 4) : Tr X eI 0 0 26 [] [] (f_X0_has_26) := by
  unfold f_X0_has_26
  refine tr_iconst 0 hX dX0_has_26 (by decide) ?_
  exact tr_sub [] rfl (t_X0_has_27 hX hS 0)
def f_X0_has (x0 : Nat) (x1 : Int32) (x2 : Int32) (x3 : Int32) : M Int32 :=
  aI (x0 + 8) 6 x1 (fun v1 => if v1 ≤ x2 then (f_X0_has_26) else (gd (inb x1 6) (aI (x0 + 1 + 1 + x1.toNatClampNeg) 8 x2 (fun v4 => if v4 = x3 then (f_X0_has_27 1) else (f_X0_has_26)))))
set_option maxRecDepth 10000 in
set_option maxHeartbeats 4000000 in
theorem t_X0_has_0 {X : Cx} (hX : Good X RX0 cX0_has ((some .boolean))) (hS : Sta X 0 0 4) (x0 : Nat) (x1 : Int32) (x2 : Int32) (x3 : Int32) (hx0 : isB x0) : Tr X eI 0 0 0 [(0, .ref (cxAd X x0)), (1, .int x1), (2, .int x2), (3, .int x3)] [] (f_X0_has x0 x1 x2 x3) := by
  unfold f_X0_has
  refine tr_iload_n 2 hX dX0_has_0 rfl rfl ?_
  refine tr_aload_n 0 hX dX0_has_1 rfl rfl ?_
  refine tr_getF hX dX0_has_2 (shB hx0) (by decide) rfl inlX0 (by decide) rfl (hS.g (leB hx0)) (crB_1 hx0) k_4_2 (mqB hx0) ?_
  refine tr_iload_n 1 hX dX0_has_5 rfl rfl ?_
  refine tr_iald hX dX0_has_6 (shB_8 hx0) (hS.e (leB_8 hx0)) (fun hb2 v1 => ?_)
  refine tr_ic_ge 26 hX dX0_has_7 (by decide) (fun c7 => ?_) (fun c7 => ?_)
  · exact tr_sub [] rfl (t_X0_has_26 hX hS)
  · refine tr_aload_n 0 hX dX0_has_10 rfl rfl ?_
    refine tr_getF hX dX0_has_11 (shB hx0) (by decide) rfl inlX0 (by decide) rfl (hS.g (leB hx0)) (crB_0 hx0) k_4_1 (mqB hx0) ?_
    refine tr_iload_n 1 hX dX0_has_14 rfl rfl ?_
    refine tr_aald hX dX0_has_15 (shB_1 hx0) (hS.e (leB_1 hx0)) (fun hb3 => ?_)
    refine tr_iload_n 2 hX dX0_has_16 rfl rfl ?_
    refine tr_iald hX dX0_has_17 (rowB hx0 hb3).1 (hS.e (rowB hx0 hb3).2) (fun hb5 v4 => ?_)
    refine tr_iload_n 3 hX dX0_has_18 rfl rfl ?_
    refine tr_ic_ne 26 hX dX0_has_19 (by decide) (fun c6 => ?_) (fun c6 => ?_)
    · refine tr_iconst 1 hX dX0_has_22 (by decide) ?_
      refine tr_goto 27 hX dX0_has_23 (by decide) ?_
      exact tr_sub [] rfl (t_X0_has_27 hX hS 1)
    · exact tr_sub [] rfl (t_X0_has_26 hX hS)
theorem ok_X0_has {l : Launch} {E : Ev} (x0 : Nat) (x1 : Int32) (x2 : Int32) (x3 : Int32) (hx0 : isB x0) : Ok l E Gall yX0_has cX0_has 4 ((some .boolean)) (rmz 0 0) eI [.ref (E.2.1 x0), .int x1, .int x2, .int x3] (f_X0_has x0 x1 x2 x3) := by
  refine ok_of0 (by decide) (Nat.le_of_ble_eq_true rfl) (fun X hX hV hS => ?_)
  subst hV
  exact t_X0_has_0 hX hS x0 x1 x2 x3 hx0
def f_X1_group_68  : M Unit :=
  rt ()
set_option maxRecDepth 10000 in
set_option maxHeartbeats 4000000 in
theorem t_X1_group_68 {X : Cx} (hX : Good X RX1 cX1_group (none)) (hS : Sta X 0 0 5) : Tr X eU 0 0 68 [] [] (f_X1_group_68) := by
  unfold f_X1_group_68
  exact tr_vret0 hX hS dX1_group_68
def f_X1_group_51 (s3 : Int32 → M Unit) (x1 : Int32) (x2 : Nat) (x3 : Int32) (x4 : Int32) (p0 : Int32) (p1 : Int32) : M Unit :=
  sI 52 84 p1 (vp_nar .boolean p0) (rI 50 0 (fun v1 => wI 50 0 (v1 + 1) (s3 (x4 + 1))))
set_option maxRecDepth 10000 in
set_option maxHeartbeats 4000000 in
theorem t_X1_group_51 {X : Cx} (hX : Good X RX1 cX1_group (none)) (hS : Sta X 0 0 5) (s3 : Int32 → M Unit) (x1 : Int32) (x2 : Nat) (x3 : Int32) (x4 : Int32) (p0 : Int32) (p1 : Int32) (hx2 : isP x2) (hs3 : ∀ x4 : Int32, Tr X eU 0 0 3 [(0, .ref (cxAd X 50)), (1, .int x1), (2, .ref (cxAd X x2)), (3, .int x3), (4, .int x4)] [] (s3 x4)) : Tr X eU 0 0 51 [(0, .ref (cxAd X 50)), (1, .int x1), (2, .ref (cxAd X x2)), (3, .int x3), (4, .int x4)] [.int p0, .int p1, .ref (cxAd X 52)] (f_X1_group_51 s3 x1 x2 x3 x4 p0 p1) := by
  unfold f_X1_group_51
  refine tr_zast hX dX1_group_51 sh_52 (hS.e (Nat.le_of_ble_eq_true rfl)) (fun _ => ?_)
  refine tr_aload_n 0 hX dX1_group_52 rfl rfl ?_
  refine tr_dup hX dX1_group_53 rfl ?_
  refine tr_getI hX dX1_group_54 sh_50 (by decide) rfl inlX1 (by decide) rfl (hS.e (Nat.le_of_ble_eq_true rfl)) k_15_0 (fun v1 => ?_)
  refine tr_iconst 1 hX dX1_group_57 (by decide) ?_
  refine tr_iadd hX dX1_group_58 ?_
  refine tr_putI hX dX1_group_59 sh_50 (by decide) rfl inlX1 tyX1 tyX1_ok nmX1 (by decide) rfl (hS.e (Nat.le_of_ble_eq_true rfl)) k_15_0 rfl rfl rfl rfl ?_
  refine tr_iinc (x4 + 1) 4 hX dX1_group_62 rfl (congrArg (fun z => x4 + z) (by decide)) (hS.n (by decide)) rfl ?_
  refine tr_goto 3 hX dX1_group_65 (by decide) ?_
  exact tr_sub [1, 2, 3, 4, 0] rfl (hs3 (x4 + 1))
def f_X1_group_3 (x1 : Int32) (x2 : Nat) (x3 : Int32) (s3 : Int32 → M Unit) (x4 : Int32) : M Unit :=
  if x3 ≤ x4 then (f_X1_group_68) else (rI 50 0 (fun v1 => if 84 ≤ v1 then (f_X1_group_68) else (rI 50 0 (fun v2 => gd (inb x4 (stL (x2 - 1000))) (sI 51 84 v2 (x1 + (stG (x2 - 1000) x4.toNatClampNeg)) (rI 50 0 (fun v4 => if x4 = 0 then (f_X1_group_51 s3 x1 x2 x3 x4 1 v4) else (f_X1_group_51 s3 x1 x2 x3 x4 0 v4))))))))
set_option maxRecDepth 10000 in
set_option maxHeartbeats 4000000 in
theorem t_X1_group_3 {X : Cx} (hX : Good X RX1 cX1_group (none)) (hS : Sta X 0 0 5) (x1 : Int32) (x2 : Nat) (x3 : Int32) (hx2 : isP x2) : ∀ s3 : Int32 → M Unit, (∀ x4 : Int32, Tr X eU 0 0 3 [(0, .ref (cxAd X 50)), (1, .int x1), (2, .ref (cxAd X x2)), (3, .int x3), (4, .int x4)] [] (s3 x4)) → ∀ x4 : Int32, Tr X eU 0 0 3 [(0, .ref (cxAd X 50)), (1, .int x1), (2, .ref (cxAd X x2)), (3, .int x3), (4, .int x4)] [] (f_X1_group_3 x1 x2 x3 s3 x4) := by
  intro s3 hs3 x4
  unfold f_X1_group_3
  refine tr_iload 4 hX dX1_group_3 rfl ?_
  refine tr_iload_n 3 hX dX1_group_5 rfl rfl ?_
  refine tr_ic_ge 68 hX dX1_group_6 (by decide) (fun c7 => ?_) (fun c7 => ?_)
  · exact tr_sub [] rfl (t_X1_group_68 hX hS)
  · refine tr_aload_n 0 hX dX1_group_9 rfl rfl ?_
    refine tr_getI hX dX1_group_10 sh_50 (by decide) rfl inlX1 (by decide) rfl (hS.e (Nat.le_of_ble_eq_true rfl)) k_15_0 (fun v1 => ?_)
    refine tr_bipush 84 hX dX1_group_13 (by decide) ?_
    refine tr_ic_ge 68 hX dX1_group_15 (by decide) (fun c6 => ?_) (fun c6 => ?_)
    · exact tr_sub [] rfl (t_X1_group_68 hX hS)
    · refine tr_aload_n 0 hX dX1_group_18 rfl rfl ?_
      refine tr_getF hX dX1_group_19 sh_50 (by decide) rfl inlX1 (by decide) rfl (hS.g (Nat.le_of_ble_eq_true rfl)) cr_50_1 k_4_7 mq_50 ?_
      refine tr_aload_n 0 hX dX1_group_22 rfl rfl ?_
      refine tr_getI hX dX1_group_23 sh_50 (by decide) rfl inlX1 (by decide) rfl (hS.e (Nat.le_of_ble_eq_true rfl)) k_15_0 (fun v2 => ?_)
      refine tr_iload_n 1 hX dX1_group_26 rfl rfl ?_
      refine tr_aload_n 2 hX dX1_group_27 rfl rfl ?_
      refine tr_iload 4 hX dX1_group_28 rfl ?_
      refine tr_tald hX dX1_group_30 hx2 (fun hb3 => ?_)
      refine tr_iadd hX dX1_group_31 ?_
      refine tr_iast hX dX1_group_32 sh_51 (hS.e (Nat.le_of_ble_eq_true rfl)) (fun _ => ?_)
      refine tr_aload_n 0 hX dX1_group_33 rfl rfl ?_
      refine tr_getF hX dX1_group_34 sh_50 (by decide) rfl inlX1 (by decide) rfl (hS.g (Nat.le_of_ble_eq_true rfl)) cr_50_2 k_4_9 mq_50 ?_
      refine tr_aload_n 0 hX dX1_group_37 rfl rfl ?_
      refine tr_getI hX dX1_group_38 sh_50 (by decide) rfl inlX1 (by decide) rfl (hS.e (Nat.le_of_ble_eq_true rfl)) k_15_0 (fun v4 => ?_)
      refine tr_iload 4 hX dX1_group_41 rfl ?_
      refine tr_if_ne 50 hX dX1_group_43 (by decide) (fun c5 => ?_) (fun c5 => ?_)
      · refine tr_iconst 1 hX dX1_group_46 (by decide) ?_
        refine tr_goto 51 hX dX1_group_47 (by decide) ?_
        exact tr_sub [0, 1, 2, 3, 4] rfl (t_X1_group_51 hX hS s3 x1 x2 x3 x4 1 v4 hx2 hs3)
      · refine tr_iconst 0 hX dX1_group_50 (by decide) ?_
        exact tr_sub [0, 1, 2, 3, 4] rfl (t_X1_group_51 hX hS s3 x1 x2 x3 x4 0 v4 hx2 hs3)
def f_X1_group (x1 : Int32) (x2 : Nat) (x3 : Int32) : M Unit :=
  fix1 FU (f_X1_group_3 x1 x2 x3) 0
set_option maxRecDepth 10000 in
set_option maxHeartbeats 4000000 in
theorem t_X1_group_0 {X : Cx} (hX : Good X RX1 cX1_group (none)) (hS : Sta X 0 0 5) (x1 : Int32) (x2 : Nat) (x3 : Int32) (hx2 : isP x2) : Tr X eU 0 0 0 [(0, .ref (cxAd X 50)), (1, .int x1), (2, .ref (cxAd X x2)), (3, .int x3)] [] (f_X1_group x1 x2 x3) := by
  unfold f_X1_group
  refine tr_iconst 0 hX dX1_group_0 (by decide) ?_
  refine tr_istore hX dX1_group_1 (hS.n (by decide)) rfl ?_
  exact tr_sub [1, 2, 3, 4, 0] rfl (tr_fix1 (lvf := fun x4 => [(0, .ref (cxAd X 50)), (1, .int x1), (2, .ref (cxAd X x2)), (3, .int x3), (4, .int x4)]) (t_X1_group_3 hX hS x1 x2 x3 hx2) FU 0)
theorem ok_X1_group {l : Launch} {E : Ev} (x1 : Int32) (x2 : Nat) (x3 : Int32) (hx2 : isP x2) : Ok l E Gall yX1_group cX1_group 5 (none) (rmz 0 0) eU [.ref (E.2.1 50), .int x1, .ref (E.2.1 x2), .int x3] (f_X1_group x1 x2 x3) := by
  refine ok_of0 (by decide) (Nat.le_of_ble_eq_true rfl) (fun X hX hV hS => ?_)
  subst hV
  exact t_X1_group_0 hX hS x1 x2 x3 hx2
def f_X1_groups_3 (x1 : Int32) (x2 : Nat) (x3 : Int32) (s3 : Int32 → M Unit) (x4 : Int32) : M Unit :=
  if x1 ≤ x4 then (rt ()) else (bnd (f_X1_group x4 x2 x3) (fun _ => s3 (x4 + 1)))
set_option maxRecDepth 10000 in
set_option maxHeartbeats 4000000 in
theorem t_X1_groups_3 {X : Cx} (hX : Good X RX1 cX1_groups (none)) (hS : Sta X 1 24 5) (x1 : Int32) (x2 : Nat) (x3 : Int32) (hx2 : isP x2) : ∀ s3 : Int32 → M Unit, (∀ x4 : Int32, Tr X eU 0 0 3 [(0, .ref (cxAd X 50)), (1, .int x1), (2, .ref (cxAd X x2)), (3, .int x3), (4, .int x4)] [] (s3 x4)) → ∀ x4 : Int32, Tr X eU 0 0 3 [(0, .ref (cxAd X 50)), (1, .int x1), (2, .ref (cxAd X x2)), (3, .int x3), (4, .int x4)] [] (f_X1_groups_3 x1 x2 x3 s3 x4) := by
  intro s3 hs3 x4
  unfold f_X1_groups_3
  refine tr_iload 4 hX dX1_groups_3 rfl ?_
  refine tr_iload_n 1 hX dX1_groups_5 rfl rfl ?_
  refine tr_ic_ge 23 hX dX1_groups_6 (by decide) (fun c2 => ?_) (fun c2 => ?_)
  · exact tr_vret0 hX hS dX1_groups_23
  · refine tr_aload_n 0 hX dX1_groups_9 rfl rfl ?_
    refine tr_iload 4 hX dX1_groups_10 rfl ?_
    refine tr_aload_n 2 hX dX1_groups_12 rfl rfl ?_
    refine tr_iload_n 3 hX dX1_groups_13 rfl rfl ?_
    refine tr_callV0U (st := []) 3 hX hS dX1_groups_14 (ok_X1_group x4 x2 x3 hx2) sh_50 (by decide) rfl (Nat.le_of_ble_eq_true rfl) k_15_4 k_15_5 k_15_6 k_2_6 k_15_7 hy_X1_group rfl rfl (Nat.le_of_ble_eq_true rfl) rfl (fun _ => ?_)
    refine tr_iinc (x4 + 1) 4 hX dX1_groups_17 rfl (congrArg (fun z => x4 + z) (by decide)) (hS.n (by decide)) rfl ?_
    refine tr_goto 3 hX dX1_groups_20 (by decide) ?_
    exact tr_sub [1, 2, 3, 4, 0] rfl (hs3 (x4 + 1))
def f_X1_groups (x1 : Int32) (x2 : Nat) (x3 : Int32) : M Unit :=
  fix1 FU (f_X1_groups_3 x1 x2 x3) 0
set_option maxRecDepth 10000 in
set_option maxHeartbeats 4000000 in
theorem t_X1_groups_0 {X : Cx} (hX : Good X RX1 cX1_groups (none)) (hS : Sta X 1 24 5) (x1 : Int32) (x2 : Nat) (x3 : Int32) (hx2 : isP x2) : Tr X eU 0 0 0 [(0, .ref (cxAd X 50)), (1, .int x1), (2, .ref (cxAd X x2)), (3, .int x3)] [] (f_X1_groups x1 x2 x3) := by
  unfold f_X1_groups
  refine tr_iconst 0 hX dX1_groups_0 (by decide) ?_
  refine tr_istore hX dX1_groups_1 (hS.n (by decide)) rfl ?_
  exact tr_sub [1, 2, 3, 4, 0] rfl (tr_fix1 (lvf := fun x4 => [(0, .ref (cxAd X 50)), (1, .int x1), (2, .ref (cxAd X x2)), (3, .int x3), (4, .int x4)]) (t_X1_groups_3 hX hS x1 x2 x3 hx2) FU 0)
theorem ok_X1_groups {l : Launch} {E : Ev} (x1 : Int32) (x2 : Nat) (x3 : Int32) (hx2 : isP x2) : Ok l E Gall yX1_groups cX1_groups 5 (none) (rmz 1 24) eU [.ref (E.2.1 50), .int x1, .ref (E.2.1 x2), .int x3] (f_X1_groups x1 x2 x3) := by
  refine ok_of0 (by decide) (Nat.le_of_ble_eq_true rfl) (fun X hX hV hS => ?_)
  subst hV
  exact t_X1_groups_0 hX hS x1 x2 x3 hx2
def f_X1_follow_112  : M Unit :=
  rt ()
set_option maxRecDepth 10000 in
set_option maxHeartbeats 4000000 in
theorem t_X1_follow_112 {X : Cx} (hX : Good X RX1 cX1_follow (none)) (hS : Sta X 2 48 3) : Tr X eU 0 0 112 [] [] (f_X1_follow_112) := by
  unfold f_X1_follow_112
  exact tr_vret0 hX hS dX1_follow_112
def f_X1_follow_14 (x2 : Int32) : M Unit :=
  bnd (f_X1_group 0 1000 x2) (fun _ => f_X1_follow_112)
set_option maxRecDepth 10000 in
set_option maxHeartbeats 4000000 in
theorem t_X1_follow_14 {X : Cx} (hX : Good X RX1 cX1_follow (none)) (hS : Sta X 2 48 3) (x2 : Int32) : Tr X eU 0 0 14 [(0, .ref (cxAd X 50)), (2, .int x2)] [] (f_X1_follow_14 x2) := by
  unfold f_X1_follow_14
  refine tr_aload_n 0 hX dX1_follow_14 rfl rfl ?_
  refine tr_iconst 0 hX dX1_follow_15 (by decide) ?_
  refine tr_gets (j := 0) hX (by decide) dX1_follow_16 k_15_1 ?_
  refine tr_iload_n 1 hX dX1_follow_19 rfl rfl ?_
  refine tr_callV0U (st := []) 3 hX hS dX1_follow_20 (ok_X1_group 0 1000 x2 (by decide)) sh_50 (by decide) rfl (Nat.le_of_ble_eq_true rfl) k_15_4 k_15_5 k_15_6 k_2_6 k_15_7 hy_X1_group rfl rfl (Nat.le_of_ble_eq_true rfl) rfl (fun _ => ?_)
  refine tr_goto 112 hX dX1_follow_23 (by decide) ?_
  exact tr_sub [] rfl (t_X1_follow_112 hX hS)
def f_X1_follow (x1 : Int32) (x2 : Int32) : M Unit :=
  wI 50 0 0 (if x2 = 1 then (f_X1_follow_14 x2) else (if x1 = 0 then (f_X1_follow_14 x2) else (if x1 = 1 then (bnd (f_X1_groups x2 1000 1) (fun _ => f_X1_follow_112)) else (if x1 = 2 then (bnd (f_X1_groups (x2 - 1) 1000 2) (fun _ => f_X1_follow_112)) else (if x1 = 3 then (bnd (f_X1_groups (x2 - 1) 1001 6) (fun _ => f_X1_follow_112)) else (bnd (f_X1_groups (x2 - 2) 1002 13) (fun _ => bnd (f_X1_group (x2 - 2) 1001 6) (fun _ => f_X1_follow_112))))))))
set_option maxRecDepth 10000 in
set_option maxHeartbeats 4000000 in
theorem t_X1_follow_0 {X : Cx} (hX : Good X RX1 cX1_follow (none)) (hS : Sta X 2 48 3) (x1 : Int32) (x2 : Int32) : Tr X eU 0 0 0 [(0, .ref (cxAd X 50)), (1, .int x1), (2, .int x2)] [] (f_X1_follow x1 x2) := by
  unfold f_X1_follow
  refine tr_aload_n 0 hX dX1_follow_0 rfl rfl ?_
  refine tr_iconst 0 hX dX1_follow_1 (by decide) ?_
  refine tr_putI hX dX1_follow_2 sh_50 (by decide) rfl inlX1 tyX1 tyX1_ok nmX1 (by decide) rfl (hS.e (Nat.le_of_ble_eq_true rfl)) k_15_0 rfl rfl rfl rfl ?_
  refine tr_iload_n 2 hX dX1_follow_5 rfl rfl ?_
  refine tr_iconst 1 hX dX1_follow_6 (by decide) ?_
  refine tr_ic_eq 14 hX dX1_follow_7 (by decide) (fun c10 => ?_) (fun c10 => ?_)
  · exact tr_sub [0, 2] rfl (t_X1_follow_14 hX hS x2)
  · refine tr_iload_n 1 hX dX1_follow_10 rfl rfl ?_
    refine tr_if_ne 26 hX dX1_follow_11 (by decide) (fun c9 => ?_) (fun c9 => ?_)
    · exact tr_sub [0, 2] rfl (t_X1_follow_14 hX hS x2)
    · refine tr_iload_n 1 hX dX1_follow_26 rfl rfl ?_
      refine tr_iconst 1 hX dX1_follow_27 (by decide) ?_
      refine tr_ic_ne 43 hX dX1_follow_28 (by decide) (fun c8 => ?_) (fun c8 => ?_)
      · refine tr_aload_n 0 hX dX1_follow_31 rfl rfl ?_
        refine tr_iload_n 2 hX dX1_follow_32 rfl rfl ?_
        refine tr_gets (j := 0) hX (by decide) dX1_follow_33 k_15_1 ?_
        refine tr_iconst 1 hX dX1_follow_36 (by decide) ?_
        refine tr_callV0U (st := []) 3 hX hS dX1_follow_37 (ok_X1_groups x2 1000 1 (by decide)) sh_50 (by decide) rfl (Nat.le_of_ble_eq_true rfl) k_15_8 k_15_9 k_15_10 k_2_6 k_15_11 hy_X1_groups rfl rfl (Nat.le_of_ble_eq_true rfl) rfl (fun _ => ?_)
        refine tr_goto 112 hX dX1_follow_40 (by decide) ?_
        exact tr_sub [] rfl (t_X1_follow_112 hX hS)
      · refine tr_iload_n 1 hX dX1_follow_43 rfl rfl ?_
        refine tr_iconst 2 hX dX1_follow_44 (by decide) ?_
        refine tr_ic_ne 62 hX dX1_follow_45 (by decide) (fun c7 => ?_) (fun c7 => ?_)
        · refine tr_aload_n 0 hX dX1_follow_48 rfl rfl ?_
          refine tr_iload_n 2 hX dX1_follow_49 rfl rfl ?_
          refine tr_iconst 1 hX dX1_follow_50 (by decide) ?_
          refine tr_isub hX dX1_follow_51 ?_
          refine tr_gets (j := 0) hX (by decide) dX1_follow_52 k_15_1 ?_
          refine tr_iconst 2 hX dX1_follow_55 (by decide) ?_
          refine tr_callV0U (st := []) 3 hX hS dX1_follow_56 (ok_X1_groups (x2 - 1) 1000 2 (by decide)) sh_50 (by decide) rfl (Nat.le_of_ble_eq_true rfl) k_15_8 k_15_9 k_15_10 k_2_6 k_15_11 hy_X1_groups rfl rfl (Nat.le_of_ble_eq_true rfl) rfl (fun _ => ?_)
          refine tr_goto 112 hX dX1_follow_59 (by decide) ?_
          exact tr_sub [] rfl (t_X1_follow_112 hX hS)
        · refine tr_iload_n 1 hX dX1_follow_62 rfl rfl ?_
          refine tr_iconst 3 hX dX1_follow_63 (by decide) ?_
          refine tr_ic_ne 84 hX dX1_follow_64 (by decide) (fun c6 => ?_) (fun c6 => ?_)
          · refine tr_aload_n 0 hX dX1_follow_67 rfl rfl ?_
            refine tr_iload_n 2 hX dX1_follow_68 rfl rfl ?_
            refine tr_iconst 1 hX dX1_follow_69 (by decide) ?_
            refine tr_isub hX dX1_follow_70 ?_
            refine tr_gets (j := 1) hX (by decide) dX1_follow_71 k_15_2 ?_
            refine tr_gets (j := 1) hX (by decide) dX1_follow_74 k_15_2 ?_
            refine tr_tlen (n := 6) hX (by decide) (by decide) dX1_follow_77 ?_
            refine tr_callV0U (st := []) 3 hX hS dX1_follow_78 (ok_X1_groups (x2 - 1) 1001 6 (by decide)) sh_50 (by decide) rfl (Nat.le_of_ble_eq_true rfl) k_15_8 k_15_9 k_15_10 k_2_6 k_15_11 hy_X1_groups rfl rfl (Nat.le_of_ble_eq_true rfl) rfl (fun _ => ?_)
            refine tr_goto 112 hX dX1_follow_81 (by decide) ?_
            exact tr_sub [] rfl (t_X1_follow_112 hX hS)
          · refine tr_aload_n 0 hX dX1_follow_84 rfl rfl ?_
            refine tr_iload_n 2 hX dX1_follow_85 rfl rfl ?_
            refine tr_iconst 2 hX dX1_follow_86 (by decide) ?_
            refine tr_isub hX dX1_follow_87 ?_
            refine tr_gets (j := 2) hX (by decide) dX1_follow_88 k_15_3 ?_
            refine tr_gets (j := 2) hX (by decide) dX1_follow_91 k_15_3 ?_
            refine tr_tlen (n := 13) hX (by decide) (by decide) dX1_follow_94 ?_
            refine tr_callV0U (st := []) 3 hX hS dX1_follow_95 (ok_X1_groups (x2 - 2) 1002 13 (by decide)) sh_50 (by decide) rfl (Nat.le_of_ble_eq_true rfl) k_15_8 k_15_9 k_15_10 k_2_6 k_15_11 hy_X1_groups rfl rfl (Nat.le_of_ble_eq_true rfl) rfl (fun _ => ?_)
            refine tr_aload_n 0 hX dX1_follow_98 rfl rfl ?_
            refine tr_iload_n 2 hX dX1_follow_99 rfl rfl ?_
            refine tr_iconst 2 hX dX1_follow_100 (by decide) ?_
            refine tr_isub hX dX1_follow_101 ?_
            refine tr_gets (j := 1) hX (by decide) dX1_follow_102 k_15_2 ?_
            refine tr_gets (j := 1) hX (by decide) dX1_follow_105 k_15_2 ?_
            refine tr_tlen (n := 6) hX (by decide) (by decide) dX1_follow_108 ?_
            refine tr_callV0U (st := []) 3 hX hS dX1_follow_109 (ok_X1_group (x2 - 2) 1001 6 (by decide)) sh_50 (by decide) rfl (Nat.le_of_ble_eq_true rfl) k_15_4 k_15_5 k_15_6 k_2_6 k_15_7 hy_X1_group rfl rfl (Nat.le_of_ble_eq_true rfl) rfl (fun _ => ?_)
            exact tr_sub [] rfl (t_X1_follow_112 hX hS)
theorem ok_X1_follow {l : Launch} {E : Ev} (x1 : Int32) (x2 : Int32)  : Ok l E Gall yX1_follow cX1_follow 3 (none) (rmz 2 48) eU [.ref (E.2.1 50), .int x1, .int x2] (f_X1_follow x1 x2) := by
  refine ok_of0 (by decide) (Nat.le_of_ble_eq_true rfl) (fun X hX hV hS => ?_)
  subst hV
  exact t_X1_follow_0 hX hS x1 x2
def f_X1_before_25 (p0 : Int32) : M Int32 :=
  rt p0
set_option maxRecDepth 10000 in
set_option maxHeartbeats 4000000 in
theorem t_X1_before_25 {X : Cx} (hX : Good X RX1 cX1_before ((some .int))) (hS : Sta X 0 0 2) (p0 : Int32) : Tr X eI 0 0 25 [] [.int p0] (f_X1_before_25 p0) := by
  unfold f_X1_before_25
  exact tr_iret0 hX hS dX1_before_25
def f_X1_before_13  : M Int32 :=
  f_X1_before_25 (-1)
set_option maxRecDepth 10000 in
set_option maxHeartbeats 4000000 in
theorem t_X1_before_13 {X : Cx} (hX : Good X RX1 cX1_before ((some .int))) (hS : Sta X 0 0 2) : Tr X eI 0 0 13 [] [] (f_X1_before_13) := by
  unfold f_X1_before_13
  refine tr_iconst (-1) hX dX1_before_13 (by decide) ?_
  refine tr_goto 25 hX dX1_before_14 (by decide) ?_
  exact tr_sub [] rfl (t_X1_before_25 hX hS (-1))
def f_X1_before (x1 : Int32) : M Int32 :=
  if x1 = 0 then (f_X1_before_13) else (aI 52 84 x1 (fun v1 => if v1 = 0 then (aI 51 84 (x1 - 1) (fun v3 => f_X1_before_25 v3)) else (f_X1_before_13)))
set_option maxRecDepth 10000 in
set_option maxHeartbeats 4000000 in
theorem t_X1_before_0 {X : Cx} (hX : Good X RX1 cX1_before ((some .int))) (hS : Sta X 0 0 2) (x1 : Int32) : Tr X eI 0 0 0 [(0, .ref (cxAd X 50)), (1, .int x1)] [] (f_X1_before x1) := by
  unfold f_X1_before
  refine tr_iload_n 1 hX dX1_before_0 rfl rfl ?_
  refine tr_if_eq 13 hX dX1_before_1 (by decide) (fun c6 => ?_) (fun c6 => ?_)
  · exact tr_sub [] rfl (t_X1_before_13 hX hS)
  · refine tr_aload_n 0 hX dX1_before_4 rfl rfl ?_
    refine tr_getF hX dX1_before_5 sh_50 (by decide) rfl inlX1 (by decide) rfl (hS.g (Nat.le_of_ble_eq_true rfl)) cr_50_2 k_4_9 mq_50 ?_
    refine tr_iload_n 1 hX dX1_before_8 rfl rfl ?_
    refine tr_zald hX dX1_before_9 sh_52 (hS.e (Nat.le_of_ble_eq_true rfl)) (fun hb2 v1 => ?_)
    refine tr_if_eq 17 hX dX1_before_10 (by decide) (fun c5 => ?_) (fun c5 => ?_)
    · refine tr_aload_n 0 hX dX1_before_17 rfl rfl ?_
      refine tr_getF hX dX1_before_18 sh_50 (by decide) rfl inlX1 (by decide) rfl (hS.g (Nat.le_of_ble_eq_true rfl)) cr_50_1 k_4_7 mq_50 ?_
      refine tr_iload_n 1 hX dX1_before_21 rfl rfl ?_
      refine tr_iconst 1 hX dX1_before_22 (by decide) ?_
      refine tr_isub hX dX1_before_23 ?_
      refine tr_iald hX dX1_before_24 sh_51 (hS.e (Nat.le_of_ble_eq_true rfl)) (fun hb4 v3 => ?_)
      exact tr_sub [] rfl (t_X1_before_25 hX hS v3)
    · exact tr_sub [] rfl (t_X1_before_13 hX hS)
theorem ok_X1_before {l : Launch} {E : Ev} (x1 : Int32)  : Ok l E Gall yX1_before cX1_before 2 ((some .int)) (rmz 0 0) eI [.ref (E.2.1 50), .int x1] (f_X1_before x1) := by
  refine ok_of0 (by decide) (Nat.le_of_ble_eq_true rfl) (fun X hX hV hS => ?_)
  subst hV
  exact t_X1_before_0 hX hS x1
def f_X1_behind_33 (p0 : Int32) : M Int32 :=
  rt p0
set_option maxRecDepth 10000 in
set_option maxHeartbeats 4000000 in
theorem t_X1_behind_33 {X : Cx} (hX : Good X RX1 cX1_behind ((some .int))) (hS : Sta X 0 0 2) (p0 : Int32) : Tr X eI 0 0 33 [] [.int p0] (f_X1_behind_33 p0) := by
  unfold f_X1_behind_33
  exact tr_iret0 hX hS dX1_behind_33
def f_X1_behind_21  : M Int32 :=
  f_X1_behind_33 (-1)
set_option maxRecDepth 10000 in
set_option maxHeartbeats 4000000 in
theorem t_X1_behind_21 {X : Cx} (hX : Good X RX1 cX1_behind ((some .int))) (hS : Sta X 0 0 2) : Tr X eI 0 0 21 [] [] (f_X1_behind_21) := by
  unfold f_X1_behind_21
  refine tr_iconst (-1) hX dX1_behind_21 (by decide) ?_
  refine tr_goto 33 hX dX1_behind_22 (by decide) ?_
  exact tr_sub [] rfl (t_X1_behind_33 hX hS (-1))
def f_X1_behind (x1 : Int32) : M Int32 :=
  rI 50 0 (fun v1 => if v1 ≤ (x1 + 1) then (f_X1_behind_21) else (aI 52 84 (x1 + 1) (fun v2 => if v2 = 0 then (aI 51 84 (x1 + 1) (fun v4 => f_X1_behind_33 v4)) else (f_X1_behind_21))))
set_option maxRecDepth 10000 in
set_option maxHeartbeats 4000000 in
theorem t_X1_behind_0 {X : Cx} (hX : Good X RX1 cX1_behind ((some .int))) (hS : Sta X 0 0 2) (x1 : Int32) : Tr X eI 0 0 0 [(0, .ref (cxAd X 50)), (1, .int x1)] [] (f_X1_behind x1) := by
  unfold f_X1_behind
  refine tr_iload_n 1 hX dX1_behind_0 rfl rfl ?_
  refine tr_iconst 1 hX dX1_behind_1 (by decide) ?_
  refine tr_iadd hX dX1_behind_2 ?_
  refine tr_aload_n 0 hX dX1_behind_3 rfl rfl ?_
  refine tr_getI hX dX1_behind_4 sh_50 (by decide) rfl inlX1 (by decide) rfl (hS.e (Nat.le_of_ble_eq_true rfl)) k_15_0 (fun v1 => ?_)
  refine tr_ic_ge 21 hX dX1_behind_7 (by decide) (fun c7 => ?_) (fun c7 => ?_)
  · exact tr_sub [] rfl (t_X1_behind_21 hX hS)
  · refine tr_aload_n 0 hX dX1_behind_10 rfl rfl ?_
    refine tr_getF hX dX1_behind_11 sh_50 (by decide) rfl inlX1 (by decide) rfl (hS.g (Nat.le_of_ble_eq_true rfl)) cr_50_2 k_4_9 mq_50 ?_
    refine tr_iload_n 1 hX dX1_behind_14 rfl rfl ?_
    refine tr_iconst 1 hX dX1_behind_15 (by decide) ?_
    refine tr_iadd hX dX1_behind_16 ?_
    refine tr_zald hX dX1_behind_17 sh_52 (hS.e (Nat.le_of_ble_eq_true rfl)) (fun hb3 v2 => ?_)
    refine tr_if_eq 25 hX dX1_behind_18 (by decide) (fun c6 => ?_) (fun c6 => ?_)
    · refine tr_aload_n 0 hX dX1_behind_25 rfl rfl ?_
      refine tr_getF hX dX1_behind_26 sh_50 (by decide) rfl inlX1 (by decide) rfl (hS.g (Nat.le_of_ble_eq_true rfl)) cr_50_1 k_4_7 mq_50 ?_
      refine tr_iload_n 1 hX dX1_behind_29 rfl rfl ?_
      refine tr_iconst 1 hX dX1_behind_30 (by decide) ?_
      refine tr_iadd hX dX1_behind_31 ?_
      refine tr_iald hX dX1_behind_32 sh_51 (hS.e (Nat.le_of_ble_eq_true rfl)) (fun hb5 v4 => ?_)
      exact tr_sub [] rfl (t_X1_behind_33 hX hS v4)
    · exact tr_sub [] rfl (t_X1_behind_21 hX hS)
theorem ok_X1_behind {l : Launch} {E : Ev} (x1 : Int32)  : Ok l E Gall yX1_behind cX1_behind 2 ((some .int)) (rmz 0 0) eI [.ref (E.2.1 50), .int x1] (f_X1_behind x1) := by
  refine ok_of0 (by decide) (Nat.le_of_ble_eq_true rfl) (fun X hX hV hS => ?_)
  subst hV
  exact t_X1_behind_0 hX hS x1
def f_X6_token (x0 : Nat) (x1 : Int32) (x2 : Int32) (x3 : Int32) : M Int32 :=
  aI (x0 + 6) 289 ((17 * x1) + x2) (fun v1 => aI (x0 + 7) 289 ((17 * x3) + x2) (fun v3 => rt (v1 + v3)))
set_option maxRecDepth 10000 in
set_option maxHeartbeats 4000000 in
theorem t_X6_token_0 {X : Cx} (hX : Good X RX6 cX6_token ((some .int))) (hS : Sta X 0 0 4) (x0 : Nat) (x1 : Int32) (x2 : Int32) (x3 : Int32) (hx0 : isT x0) : Tr X eI 0 0 0 [(0, .ref (cxAd X x0)), (1, .int x1), (2, .int x2), (3, .int x3)] [] (f_X6_token x0 x1 x2 x3) := by
  unfold f_X6_token
  refine tr_aload_n 0 hX dX6_token_0 rfl rfl ?_
  refine tr_getF hX dX6_token_1 (shT hx0) (by decide) rfl inlX6 (by decide) rfl (hS.g (leT hx0)) (crT_6 hx0) k_3_14 (mqT hx0) ?_
  refine tr_bipush 17 hX dX6_token_4 (by decide) ?_
  refine tr_iload_n 1 hX dX6_token_6 rfl rfl ?_
  refine tr_imul hX dX6_token_7 ?_
  refine tr_iload_n 2 hX dX6_token_8 rfl rfl ?_
  refine tr_iadd hX dX6_token_9 ?_
  refine tr_iald hX dX6_token_10 (shT_6 hx0) (hS.e (leT_6 hx0)) (fun hb2 v1 => ?_)
  refine tr_aload_n 0 hX dX6_token_11 rfl rfl ?_
  refine tr_getF hX dX6_token_12 (shT hx0) (by decide) rfl inlX6 (by decide) rfl (hS.g (leT hx0)) (crT_7 hx0) k_3_15 (mqT hx0) ?_
  refine tr_bipush 17 hX dX6_token_15 (by decide) ?_
  refine tr_iload_n 3 hX dX6_token_17 rfl rfl ?_
  refine tr_imul hX dX6_token_18 ?_
  refine tr_iload_n 2 hX dX6_token_19 rfl rfl ?_
  refine tr_iadd hX dX6_token_20 ?_
  refine tr_iald hX dX6_token_21 (shT_7 hx0) (hS.e (leT_7 hx0)) (fun hb4 v3 => ?_)
  refine tr_iadd hX dX6_token_22 ?_
  exact tr_iret0 hX hS dX6_token_23
theorem ok_X6_token {l : Launch} {E : Ev} (x0 : Nat) (x1 : Int32) (x2 : Int32) (x3 : Int32) (hx0 : isT x0) : Ok l E Gall yX6_token cX6_token 4 ((some .int)) (rmz 0 0) eI [.ref (E.2.1 x0), .int x1, .int x2, .int x3] (f_X6_token x0 x1 x2 x3) := by
  refine ok_of0 (by decide) (Nat.le_of_ble_eq_true rfl) (fun X hX hV hS => ?_)
  subst hV
  exact t_X6_token_0 hX hS x0 x1 x2 x3 hx0
def f_X1_token_51 (p0 : Int32) (p1 : Int32) (p2 : Int32) (p3 : Nat) : M Int32 :=
  bnd (f_X6_token p3 p2 p1 p0) (fun v1 => rt v1)
set_option maxRecDepth 10000 in
set_option maxHeartbeats 4000000 in
theorem t_X1_token_51 {X : Cx} (hX : Good X RX1 cX1_token ((some .int))) (hS : Sta X 1 23 6) (p0 : Int32) (p1 : Int32) (p2 : Int32) (p3 : Nat) (hp3 : isT p3) : Tr X eI 0 0 51 [] [.int p0, .int p1, .int p2, .ref (cxAd X p3)] (f_X1_token_51 p0 p1 p2 p3) := by
  unfold f_X1_token_51
  refine tr_callV0I (st := []) 3 hX hS dX1_token_51 (ok_X6_token p3 p2 p1 p0 hp3) (shT hp3) (by decide) rfl (leT hp3) k_16_0 k_16_1 k_16_2 k_1_19 k_16_3 hy_X6_token rfl rfl (Nat.le_of_ble_eq_true rfl) rfl (fun v1 => ?_)
  exact tr_iret0 hX hS dX1_token_54
def f_X1_token_29 (x2 : Nat) (x3 : Int32) (x5 : Int32) (p0 : Int32) (p1 : Nat) : M Int32 :=
  aI 51 84 x3 (fun v1 => aI x2 8 v1 (fun v3 => if 0 ≤ x5 then (aI x2 8 x5 (fun v5 => f_X1_token_51 v5 v3 p0 p1)) else (f_X1_token_51 16 v3 p0 p1)))
set_option maxRecDepth 10000 in
set_option maxHeartbeats 4000000 in
theorem t_X1_token_29 {X : Cx} (hX : Good X RX1 cX1_token ((some .int))) (hS : Sta X 1 23 6) (x2 : Nat) (x3 : Int32) (x5 : Int32) (p0 : Int32) (p1 : Nat) (hx2 : isI x2 8) (hp1 : isT p1) : Tr X eI 0 0 29 [(0, .ref (cxAd X 50)), (2, .ref (cxAd X x2)), (3, .int x3), (5, .int x5)] [.int p0, .ref (cxAd X p1)] (f_X1_token_29 x2 x3 x5 p0 p1) := by
  unfold f_X1_token_29
  refine tr_aload_n 1 hX dX1_token_29 rfl rfl ?_
  refine tr_aload_n 0 hX dX1_token_30 rfl rfl ?_
  refine tr_getF hX dX1_token_31 sh_50 (by decide) rfl inlX1 (by decide) rfl (hS.g (Nat.le_of_ble_eq_true rfl)) cr_50_1 k_4_7 mq_50 ?_
  refine tr_iload_n 2 hX dX1_token_34 rfl rfl ?_
  refine tr_iald hX dX1_token_35 sh_51 (hS.e (Nat.le_of_ble_eq_true rfl)) (fun hb2 v1 => ?_)
  refine tr_iald hX dX1_token_36 (hx2).1 (hS.e (hx2).2) (fun hb4 v3 => ?_)
  refine tr_iload 3 hX dX1_token_37 rfl ?_
  refine tr_if_ge 47 hX dX1_token_39 (by decide) (fun c7 => ?_) (fun c7 => ?_)
  · refine tr_aload_n 1 hX dX1_token_47 rfl rfl ?_
    refine tr_iload 3 hX dX1_token_48 rfl ?_
    refine tr_iald hX dX1_token_50 (hx2).1 (hS.e (hx2).2) (fun hb6 v5 => ?_)
    exact tr_sub [] rfl (t_X1_token_51 hX hS v5 v3 p0 p1 hp1)
  · refine tr_bipush 16 hX dX1_token_42 (by decide) ?_
    refine tr_goto 51 hX dX1_token_44 (by decide) ?_
    exact tr_sub [] rfl (t_X1_token_51 hX hS 16 v3 p0 p1 hp1)
def f_X1_token (x1 : Nat) (x2 : Nat) (x3 : Int32) : M Int32 :=
  bnd (f_X1_before x3) (fun v1 => bnd (f_X1_behind x3) (fun v2 => if 0 ≤ v1 then (aI x2 8 v1 (fun v3 => f_X1_token_29 x2 x3 v2 v3 x1)) else (f_X1_token_29 x2 x3 v2 16 x1)))
set_option maxRecDepth 10000 in
set_option maxHeartbeats 4000000 in
theorem t_X1_token_0 {X : Cx} (hX : Good X RX1 cX1_token ((some .int))) (hS : Sta X 1 23 6) (x1 : Nat) (x2 : Nat) (x3 : Int32) (hx1 : isT x1) (hx2 : isI x2 8) : Tr X eI 0 0 0 [(0, .ref (cxAd X 50)), (1, .ref (cxAd X x1)), (2, .ref (cxAd X x2)), (3, .int x3)] [] (f_X1_token x1 x2 x3) := by
  unfold f_X1_token
  refine tr_aload_n 0 hX dX1_token_0 rfl rfl ?_
  refine tr_iload_n 3 hX dX1_token_1 rfl rfl ?_
  refine tr_callV0I (st := []) 1 hX hS dX1_token_2 (ok_X1_before x3) sh_50 (by decide) rfl (Nat.le_of_ble_eq_true rfl) k_15_16 k_15_17 k_15_18 k_2_6 k_15_19 hy_X1_before rfl rfl (Nat.le_of_ble_eq_true rfl) rfl (fun v1 => ?_)
  refine tr_istore hX dX1_token_5 (hS.n (by decide)) rfl ?_
  refine tr_aload_n 1 hX dX1_token_7 rfl rfl ?_
  refine tr_iload_n 4 hX dX1_token_8 rfl rfl ?_
  refine tr_callV0I (st := []) 1 hX hS dX1_token_9 (ok_X1_behind x3) sh_50 (by decide) rfl (Nat.le_of_ble_eq_true rfl) k_15_20 k_15_21 k_15_22 k_2_6 k_15_23 hy_X1_behind rfl rfl (Nat.le_of_ble_eq_true rfl) rfl (fun v2 => ?_)
  refine tr_istore hX dX1_token_12 (hS.n (by decide)) rfl ?_
  refine tr_aload_n 3 hX dX1_token_14 rfl rfl ?_
  refine tr_iload 1 hX dX1_token_15 rfl ?_
  refine tr_if_ge 25 hX dX1_token_17 (by decide) (fun c5 => ?_) (fun c5 => ?_)
  · refine tr_aload_n 4 hX dX1_token_25 rfl rfl ?_
    refine tr_iload 1 hX dX1_token_26 rfl ?_
    refine tr_iald hX dX1_token_28 (hx2).1 (hS.e (hx2).2) (fun hb4 v3 => ?_)
    exact tr_sub [2, 4, 5, 0] rfl (t_X1_token_29 hX hS x2 x3 v2 v3 x1 (hx2) hx1)
  · refine tr_bipush 16 hX dX1_token_20 (by decide) ?_
    refine tr_goto 29 hX dX1_token_22 (by decide) ?_
    exact tr_sub [2, 4, 5, 0] rfl (t_X1_token_29 hX hS x2 x3 v2 16 x1 (hx2) hx1)
theorem ok_X1_token {l : Launch} {E : Ev} (x1 : Nat) (x2 : Nat) (x3 : Int32) (hx1 : isT x1) (hx2 : isI x2 8) : Ok l E Gall yX1_token cX1_token 6 ((some .int)) (rmz 1 23) eI [.ref (E.2.1 50), .ref (E.2.1 x1), .ref (E.2.1 x2), .int x3] (f_X1_token x1 x2 x3) := by
  refine ok_of0 (by decide) (Nat.le_of_ble_eq_true rfl) (fun X hX hV hS => ?_)
  subst hV
  exact t_X1_token_0 hX hS x1 x2 x3 hx1 hx2
def f_X1_tells_3 (x1 : Nat) (x2 : Nat) (x3 : Nat) (s3 : Int32 → M Int32) (x4 : Int32) : M Int32 :=
  rI 50 0 (fun v1 => if v1 ≤ x4 then (gd ((0 : Int32) = 0 ∨ (0 : Int32) = 1) (rt 0)) else (bnd (f_X1_token x1 x2 x4) (fun v2 => bnd (f_X1_token x1 x3 x4) (fun v3 => if v2 = v3 then (s3 (x4 + 1)) else (gd ((1 : Int32) = 0 ∨ (1 : Int32) = 1) (rt 1))))))
set_option maxRecDepth 10000 in
set_option maxHeartbeats 4000000 in
theorem t_X1_tells_3 {X : Cx} (hX : Good X RX1 cX1_tells ((some .boolean))) (hS : Sta X 2 48 5) (x1 : Nat) (x2 : Nat) (x3 : Nat) (hx1 : isT x1) (hx2 : isI x2 8) (hx3 : isI x3 8) : ∀ s3 : Int32 → M Int32, (∀ x4 : Int32, Tr X eI 0 0 3 [(0, .ref (cxAd X 50)), (1, .ref (cxAd X x1)), (2, .ref (cxAd X x2)), (3, .ref (cxAd X x3)), (4, .int x4)] [] (s3 x4)) → ∀ x4 : Int32, Tr X eI 0 0 3 [(0, .ref (cxAd X 50)), (1, .ref (cxAd X x1)), (2, .ref (cxAd X x2)), (3, .ref (cxAd X x3)), (4, .int x4)] [] (f_X1_tells_3 x1 x2 x3 s3 x4) := by
  intro s3 hs3 x4
  unfold f_X1_tells_3
  refine tr_iload 4 hX dX1_tells_3 rfl ?_
  refine tr_aload_n 0 hX dX1_tells_5 rfl rfl ?_
  refine tr_getI hX dX1_tells_6 sh_50 (by decide) rfl inlX1 (by decide) rfl (hS.e (Nat.le_of_ble_eq_true rfl)) k_15_0 (fun v1 => ?_)
  refine tr_ic_ge 39 hX dX1_tells_9 (by decide) (fun c5 => ?_) (fun c5 => ?_)
  · refine tr_iconst 0 hX dX1_tells_39 (by decide) ?_
    exact tr_zret0 hX hS dX1_tells_40
  · refine tr_aload_n 0 hX dX1_tells_12 rfl rfl ?_
    refine tr_aload_n 1 hX dX1_tells_13 rfl rfl ?_
    refine tr_aload_n 2 hX dX1_tells_14 rfl rfl ?_
    refine tr_iload 4 hX dX1_tells_15 rfl ?_
    refine tr_callV0I (st := []) 3 hX hS dX1_tells_17 (ok_X1_token x1 x2 x4 hx1 (hx2)) sh_50 (by decide) rfl (Nat.le_of_ble_eq_true rfl) k_28_11 k_15_13 k_15_14 k_2_6 k_15_15 hy_X1_token rfl rfl (Nat.le_of_ble_eq_true rfl) rfl (fun v2 => ?_)
    refine tr_aload_n 0 hX dX1_tells_20 rfl rfl ?_
    refine tr_aload_n 1 hX dX1_tells_21 rfl rfl ?_
    refine tr_aload_n 3 hX dX1_tells_22 rfl rfl ?_
    refine tr_iload 4 hX dX1_tells_23 rfl ?_
    refine tr_callV0I (st := [.int v2]) 3 hX hS dX1_tells_25 (ok_X1_token x1 x3 x4 hx1 (hx3)) sh_50 (by decide) rfl (Nat.le_of_ble_eq_true rfl) k_28_11 k_15_13 k_15_14 k_2_6 k_15_15 hy_X1_token rfl rfl (Nat.le_of_ble_eq_true rfl) rfl (fun v3 => ?_)
    refine tr_ic_eq 33 hX dX1_tells_28 (by decide) (fun c4 => ?_) (fun c4 => ?_)
    · refine tr_iinc (x4 + 1) 4 hX dX1_tells_33 rfl (congrArg (fun z => x4 + z) (by decide)) (hS.n (by decide)) rfl ?_
      refine tr_goto 3 hX dX1_tells_36 (by decide) ?_
      exact tr_sub [1, 2, 3, 4, 0] rfl (hs3 (x4 + 1))
    · refine tr_iconst 1 hX dX1_tells_31 (by decide) ?_
      exact tr_zret0 hX hS dX1_tells_32
def f_X1_tells (x1 : Nat) (x2 : Nat) (x3 : Nat) : M Int32 :=
  fix1 FU (f_X1_tells_3 x1 x2 x3) 0
set_option maxRecDepth 10000 in
set_option maxHeartbeats 4000000 in
theorem t_X1_tells_0 {X : Cx} (hX : Good X RX1 cX1_tells ((some .boolean))) (hS : Sta X 2 48 5) (x1 : Nat) (x2 : Nat) (x3 : Nat) (hx1 : isT x1) (hx2 : isI x2 8) (hx3 : isI x3 8) : Tr X eI 0 0 0 [(0, .ref (cxAd X 50)), (1, .ref (cxAd X x1)), (2, .ref (cxAd X x2)), (3, .ref (cxAd X x3))] [] (f_X1_tells x1 x2 x3) := by
  unfold f_X1_tells
  refine tr_iconst 0 hX dX1_tells_0 (by decide) ?_
  refine tr_istore hX dX1_tells_1 (hS.n (by decide)) rfl ?_
  exact tr_sub [1, 2, 3, 4, 0] rfl (tr_fix1 (lvf := fun x4 => [(0, .ref (cxAd X 50)), (1, .ref (cxAd X x1)), (2, .ref (cxAd X x2)), (3, .ref (cxAd X x3)), (4, .int x4)]) (t_X1_tells_3 hX hS x1 x2 x3 hx1 (hx2) (hx3)) FU 0)
theorem ok_X1_tells {l : Launch} {E : Ev} (x1 : Nat) (x2 : Nat) (x3 : Nat) (hx1 : isT x1) (hx2 : isI x2 8) (hx3 : isI x3 8) : Ok l E Gall yX1_tells cX1_tells 5 ((some .boolean)) (rmz 2 48) eI [.ref (E.2.1 50), .ref (E.2.1 x1), .ref (E.2.1 x2), .ref (E.2.1 x3)] (f_X1_tells x1 x2 x3) := by
  refine ok_of0 (by decide) (Nat.le_of_ble_eq_true rfl) (fun X hX hV hS => ?_)
  subst hV
  exact t_X1_tells_0 hX hS x1 x2 x3 hx1 hx2 hx3
def f_X8_isBelow_14 (p0 : Int32) : M Int32 :=
  gd (p0 = 0 ∨ p0 = 1) (rt p0)
set_option maxRecDepth 10000 in
set_option maxHeartbeats 4000000 in
theorem t_X8_isBelow_14 {X : Cx} (hX : Good X RX8 cX8_isBelow ((some .boolean))) (hS : Sta X 0 0 2) (p0 : Int32) : Tr X eI 0 0 14 [] [.int p0] (f_X8_isBelow_14 p0) := by
  unfold f_X8_isBelow_14
  exact tr_zret0 hX hS dX8_isBelow_14
def f_X8_isBelow_13  : M Int32 :=
  f_X8_isBelow_14 0
set_option maxRecDepth 10000 in
set_option maxHeartbeats 4000000 in
theorem t_X8_isBelow_13 {X : Cx} (hX : Good X RX8 cX8_isBelow ((some .boolean))) (hS : Sta X 0 0 2) : Tr X eI 0 0 13 [] [] (f_X8_isBelow_13) := by
  unfold f_X8_isBelow_13
  refine tr_iconst 0 hX dX8_isBelow_13 (by decide) ?_
  exact tr_sub [] rfl (t_X8_isBelow_14 hX hS 0)
def f_X8_isBelow (x0 : Int32) (x1 : Int32) : M Int32 :=
  if x0 < 0 then (f_X8_isBelow_13) else (if x1 ≤ x0 then (f_X8_isBelow_13) else (f_X8_isBelow_14 1))
set_option maxRecDepth 10000 in
set_option maxHeartbeats 4000000 in
theorem t_X8_isBelow_0 {X : Cx} (hX : Good X RX8 cX8_isBelow ((some .boolean))) (hS : Sta X 0 0 2) (x0 : Int32) (x1 : Int32) : Tr X eI 0 0 0 [(0, .int x0), (1, .int x1)] [] (f_X8_isBelow x0 x1) := by
  unfold f_X8_isBelow
  refine tr_iload_n 0 hX dX8_isBelow_0 rfl rfl ?_
  refine tr_if_lt 13 hX dX8_isBelow_1 (by decide) (fun c2 => ?_) (fun c2 => ?_)
  · exact tr_sub [] rfl (t_X8_isBelow_13 hX hS)
  · refine tr_iload_n 0 hX dX8_isBelow_4 rfl rfl ?_
    refine tr_iload_n 1 hX dX8_isBelow_5 rfl rfl ?_
    refine tr_ic_ge 13 hX dX8_isBelow_6 (by decide) (fun c1 => ?_) (fun c1 => ?_)
    · exact tr_sub [] rfl (t_X8_isBelow_13 hX hS)
    · refine tr_iconst 1 hX dX8_isBelow_9 (by decide) ?_
      refine tr_goto 14 hX dX8_isBelow_10 (by decide) ?_
      exact tr_sub [] rfl (t_X8_isBelow_14 hX hS 1)
theorem ok_X8_isBelow {l : Launch} {E : Ev} (x0 : Int32) (x1 : Int32)  : Ok l E Gall yX8_isBelow cX8_isBelow 2 ((some .boolean)) (rmz 0 0) eI [.int x0, .int x1] (f_X8_isBelow x0 x1) := by
  refine ok_of0 (by decide) (Nat.le_of_ble_eq_true rfl) (fun X hX hV hS => ?_)
  subst hV
  exact t_X8_isBelow_0 hX hS x0 x1
def f_X2_mayTeach_31 (p0 : Int32) : M Int32 :=
  gd (p0 = 0 ∨ p0 = 1) (rt p0)
set_option maxRecDepth 10000 in
set_option maxHeartbeats 4000000 in
theorem t_X2_mayTeach_31 {X : Cx} (hX : Good X RX2 cX2_mayTeach ((some .boolean))) (hS : Sta X 1 21 3) (p0 : Int32) : Tr X eI 0 0 31 [] [.int p0] (f_X2_mayTeach_31 p0) := by
  unfold f_X2_mayTeach_31
  exact tr_zret0 hX hS dX2_mayTeach_31
def f_X2_mayTeach_26  : M Int32 :=
  f_X2_mayTeach_31 1
set_option maxRecDepth 10000 in
set_option maxHeartbeats 4000000 in
theorem t_X2_mayTeach_26 {X : Cx} (hX : Good X RX2 cX2_mayTeach ((some .boolean))) (hS : Sta X 1 21 3) : Tr X eI 0 0 26 [] [] (f_X2_mayTeach_26) := by
  unfold f_X2_mayTeach_26
  refine tr_iconst 1 hX dX2_mayTeach_26 (by decide) ?_
  refine tr_goto 31 hX dX2_mayTeach_27 (by decide) ?_
  exact tr_sub [] rfl (t_X2_mayTeach_31 hX hS 1)
def f_X2_mayTeach_30  : M Int32 :=
  f_X2_mayTeach_31 0
set_option maxRecDepth 10000 in
set_option maxHeartbeats 4000000 in
theorem t_X2_mayTeach_30 {X : Cx} (hX : Good X RX2 cX2_mayTeach ((some .boolean))) (hS : Sta X 1 21 3) : Tr X eI 0 0 30 [] [] (f_X2_mayTeach_30) := by
  unfold f_X2_mayTeach_30
  refine tr_iconst 0 hX dX2_mayTeach_30 (by decide) ?_
  exact tr_sub [] rfl (t_X2_mayTeach_31 hX hS 0)
def f_X2_mayTeach (x1 : Int32) (x2 : Int32) : M Int32 :=
  if x1 = (-1) then (f_X2_mayTeach_26) else (rI 154 0 (fun v1 => bnd (f_X8_isBelow x1 v1) (fun v2 => if v2 = 0 then (f_X2_mayTeach_30) else (aI 156 16 x1 (fun v3 => if x2 ≤ v3 then (f_X2_mayTeach_30) else (f_X2_mayTeach_26))))))
set_option maxRecDepth 10000 in
set_option maxHeartbeats 4000000 in
theorem t_X2_mayTeach_0 {X : Cx} (hX : Good X RX2 cX2_mayTeach ((some .boolean))) (hS : Sta X 1 21 3) (x1 : Int32) (x2 : Int32) : Tr X eI 0 0 0 [(0, .ref (cxAd X 154)), (1, .int x1), (2, .int x2)] [] (f_X2_mayTeach x1 x2) := by
  unfold f_X2_mayTeach
  refine tr_iload_n 1 hX dX2_mayTeach_0 rfl rfl ?_
  refine tr_iconst (-1) hX dX2_mayTeach_1 (by decide) ?_
  refine tr_ic_eq 26 hX dX2_mayTeach_2 (by decide) (fun c7 => ?_) (fun c7 => ?_)
  · exact tr_sub [] rfl (t_X2_mayTeach_26 hX hS)
  · refine tr_iload_n 1 hX dX2_mayTeach_5 rfl rfl ?_
    refine tr_aload_n 0 hX dX2_mayTeach_6 rfl rfl ?_
    refine tr_getI hX dX2_mayTeach_7 sh_154 (by decide) rfl inlX2 (by decide) rfl (hS.e (Nat.le_of_ble_eq_true rfl)) k_33_6 (fun v1 => ?_)
    refine tr_callN0I (st := []) (host := "SaidWoven") 2 hX hS dX2_mayTeach_10 (ok_X8_isBelow x1 v1) (by decide +kernel) k_12_20 k_1_2 k_12_21 hy_X8_isBelow.2 rfl rfl (Nat.le_of_ble_eq_true rfl) rfl (fun v2 => ?_)
    refine tr_if_eq 30 hX dX2_mayTeach_13 (by decide) (fun c6 => ?_) (fun c6 => ?_)
    · exact tr_sub [] rfl (t_X2_mayTeach_30 hX hS)
    · refine tr_aload_n 0 hX dX2_mayTeach_16 rfl rfl ?_
      refine tr_getF hX dX2_mayTeach_17 sh_154 (by decide) rfl inlX2 (by decide) rfl (hS.g (Nat.le_of_ble_eq_true rfl)) cr_154_2 k_6_4 mq_154 ?_
      refine tr_iload_n 1 hX dX2_mayTeach_20 rfl rfl ?_
      refine tr_iald hX dX2_mayTeach_21 sh_156 (hS.e (Nat.le_of_ble_eq_true rfl)) (fun hb4 v3 => ?_)
      refine tr_iload_n 2 hX dX2_mayTeach_22 rfl rfl ?_
      refine tr_ic_ge 30 hX dX2_mayTeach_23 (by decide) (fun c5 => ?_) (fun c5 => ?_)
      · exact tr_sub [] rfl (t_X2_mayTeach_30 hX hS)
      · exact tr_sub [] rfl (t_X2_mayTeach_26 hX hS)
theorem ok_X2_mayTeach {l : Launch} {E : Ev} (x1 : Int32) (x2 : Int32)  : Ok l E Gall yX2_mayTeach cX2_mayTeach 3 ((some .boolean)) (rmz 1 21) eI [.ref (E.2.1 154), .int x1, .int x2] (f_X2_mayTeach x1 x2) := by
  refine ok_of0 (by decide) (Nat.le_of_ble_eq_true rfl) (fun X hX hV hS => ?_)
  subst hV
  exact t_X2_mayTeach_0 hX hS x1 x2
def f_X2_append_60 (p0 : Int32) (p1 : Int32) (p2 : Int32) : M Int32 :=
  sI 158 16 p2 (p1 ||| p0) (rI 154 0 (fun v1 => sI 155 16 v1 (vp_nar .boolean 1) (rI 154 0 (fun v2 => wI 154 0 (v2 + 1) (rI 154 0 (fun v3 => rt (v3 - 1)))))))
set_option maxRecDepth 10000 in
set_option maxHeartbeats 4000000 in
theorem t_X2_append_60 {X : Cx} (hX : Good X RX2 cX2_append ((some .int))) (hS : Sta X 0 0 4) (p0 : Int32) (p1 : Int32) (p2 : Int32) : Tr X eI 0 0 60 [(0, .ref (cxAd X 154))] [.int p0, .int p1, .int p2, .ref (cxAd X 158)] (f_X2_append_60 p0 p1 p2) := by
  unfold f_X2_append_60
  refine tr_ior hX dX2_append_60 ?_
  refine tr_iast hX dX2_append_61 sh_158 (hS.e (Nat.le_of_ble_eq_true rfl)) (fun _ => ?_)
  refine tr_aload_n 0 hX dX2_append_62 rfl rfl ?_
  refine tr_getF hX dX2_append_63 sh_154 (by decide) rfl inlX2 (by decide) rfl (hS.g (Nat.le_of_ble_eq_true rfl)) cr_154_1 k_6_3 mq_154 ?_
  refine tr_aload_n 0 hX dX2_append_66 rfl rfl ?_
  refine tr_getI hX dX2_append_67 sh_154 (by decide) rfl inlX2 (by decide) rfl (hS.e (Nat.le_of_ble_eq_true rfl)) k_33_6 (fun v1 => ?_)
  refine tr_iconst 1 hX dX2_append_70 (by decide) ?_
  refine tr_zast hX dX2_append_71 sh_155 (hS.e (Nat.le_of_ble_eq_true rfl)) (fun _ => ?_)
  refine tr_aload_n 0 hX dX2_append_72 rfl rfl ?_
  refine tr_dup hX dX2_append_73 rfl ?_
  refine tr_getI hX dX2_append_74 sh_154 (by decide) rfl inlX2 (by decide) rfl (hS.e (Nat.le_of_ble_eq_true rfl)) k_33_6 (fun v2 => ?_)
  refine tr_iconst 1 hX dX2_append_77 (by decide) ?_
  refine tr_iadd hX dX2_append_78 ?_
  refine tr_putI hX dX2_append_79 sh_154 (by decide) rfl inlX2 tyX2 tyX2_ok nmX2 (by decide) rfl (hS.e (Nat.le_of_ble_eq_true rfl)) k_33_6 rfl rfl rfl rfl ?_
  refine tr_aload_n 0 hX dX2_append_82 rfl rfl ?_
  refine tr_getI hX dX2_append_83 sh_154 (by decide) rfl inlX2 (by decide) rfl (hS.e (Nat.le_of_ble_eq_true rfl)) k_33_6 (fun v3 => ?_)
  refine tr_iconst 1 hX dX2_append_86 (by decide) ?_
  refine tr_isub hX dX2_append_87 ?_
  exact tr_iret0 hX hS dX2_append_88
def f_X2_append (x1 : Int32) (x2 : Int32) (x3 : Int32) : M Int32 :=
  rI 154 0 (fun v1 => if v1 < 16 then (rI 154 0 (fun v2 => sI 156 16 v2 x1 (rI 154 0 (fun v3 => sI 157 16 v3 x3 (rI 154 0 (fun v4 => rI 154 0 (fun v5 => if 0 ≤ x2 then (aI 158 16 x2 (fun v6 => f_X2_append_60 v6 (1 <<< (v5 &&& 31)) v4)) else (f_X2_append_60 0 (1 <<< (v5 &&& 31)) v4)))))))) else (rt (-3)))
set_option maxRecDepth 10000 in
set_option maxHeartbeats 4000000 in
theorem t_X2_append_0 {X : Cx} (hX : Good X RX2 cX2_append ((some .int))) (hS : Sta X 0 0 4) (x1 : Int32) (x2 : Int32) (x3 : Int32) : Tr X eI 0 0 0 [(0, .ref (cxAd X 154)), (1, .int x1), (2, .int x2), (3, .int x3)] [] (f_X2_append x1 x2 x3) := by
  unfold f_X2_append
  refine tr_aload_n 0 hX dX2_append_0 rfl rfl ?_
  refine tr_getI hX dX2_append_1 sh_154 (by decide) rfl inlX2 (by decide) rfl (hS.e (Nat.le_of_ble_eq_true rfl)) k_33_6 (fun v1 => ?_)
  refine tr_bipush 16 hX dX2_append_4 (by decide) ?_
  refine tr_ic_lt 12 hX dX2_append_6 (by decide) (fun c9 => ?_) (fun c9 => ?_)
  · refine tr_aload_n 0 hX dX2_append_12 rfl rfl ?_
    refine tr_getF hX dX2_append_13 sh_154 (by decide) rfl inlX2 (by decide) rfl (hS.g (Nat.le_of_ble_eq_true rfl)) cr_154_2 k_6_4 mq_154 ?_
    refine tr_aload_n 0 hX dX2_append_16 rfl rfl ?_
    refine tr_getI hX dX2_append_17 sh_154 (by decide) rfl inlX2 (by decide) rfl (hS.e (Nat.le_of_ble_eq_true rfl)) k_33_6 (fun v2 => ?_)
    refine tr_iload_n 1 hX dX2_append_20 rfl rfl ?_
    refine tr_iast hX dX2_append_21 sh_156 (hS.e (Nat.le_of_ble_eq_true rfl)) (fun _ => ?_)
    refine tr_aload_n 0 hX dX2_append_22 rfl rfl ?_
    refine tr_getF hX dX2_append_23 sh_154 (by decide) rfl inlX2 (by decide) rfl (hS.g (Nat.le_of_ble_eq_true rfl)) cr_154_3 k_6_5 mq_154 ?_
    refine tr_aload_n 0 hX dX2_append_26 rfl rfl ?_
    refine tr_getI hX dX2_append_27 sh_154 (by decide) rfl inlX2 (by decide) rfl (hS.e (Nat.le_of_ble_eq_true rfl)) k_33_6 (fun v3 => ?_)
    refine tr_iload_n 3 hX dX2_append_30 rfl rfl ?_
    refine tr_iast hX dX2_append_31 sh_157 (hS.e (Nat.le_of_ble_eq_true rfl)) (fun _ => ?_)
    refine tr_aload_n 0 hX dX2_append_32 rfl rfl ?_
    refine tr_getF hX dX2_append_33 sh_154 (by decide) rfl inlX2 (by decide) rfl (hS.g (Nat.le_of_ble_eq_true rfl)) cr_154_4 k_6_6 mq_154 ?_
    refine tr_aload_n 0 hX dX2_append_36 rfl rfl ?_
    refine tr_getI hX dX2_append_37 sh_154 (by decide) rfl inlX2 (by decide) rfl (hS.e (Nat.le_of_ble_eq_true rfl)) k_33_6 (fun v4 => ?_)
    refine tr_iconst 1 hX dX2_append_40 (by decide) ?_
    refine tr_aload_n 0 hX dX2_append_41 rfl rfl ?_
    refine tr_getI hX dX2_append_42 sh_154 (by decide) rfl inlX2 (by decide) rfl (hS.e (Nat.le_of_ble_eq_true rfl)) k_33_6 (fun v5 => ?_)
    refine tr_ishl hX dX2_append_45 ?_
    refine tr_iload_n 2 hX dX2_append_46 rfl rfl ?_
    refine tr_if_ge 54 hX dX2_append_47 (by decide) (fun c8 => ?_) (fun c8 => ?_)
    · refine tr_aload_n 0 hX dX2_append_54 rfl rfl ?_
      refine tr_getF hX dX2_append_55 sh_154 (by decide) rfl inlX2 (by decide) rfl (hS.g (Nat.le_of_ble_eq_true rfl)) cr_154_4 k_6_6 mq_154 ?_
      refine tr_iload_n 2 hX dX2_append_58 rfl rfl ?_
      refine tr_iald hX dX2_append_59 sh_158 (hS.e (Nat.le_of_ble_eq_true rfl)) (fun hb7 v6 => ?_)
      exact tr_sub [0] rfl (t_X2_append_60 hX hS v6 (1 <<< (v5 &&& 31)) v4)
    · refine tr_iconst 0 hX dX2_append_50 (by decide) ?_
      refine tr_goto 60 hX dX2_append_51 (by decide) ?_
      exact tr_sub [0] rfl (t_X2_append_60 hX hS 0 (1 <<< (v5 &&& 31)) v4)
  · refine tr_bipush (-3) hX dX2_append_9 (by decide) ?_
    exact tr_iret0 hX hS dX2_append_11
theorem ok_X2_append {l : Launch} {E : Ev} (x1 : Int32) (x2 : Int32) (x3 : Int32)  : Ok l E Gall yX2_append cX2_append 4 ((some .int)) (rmz 0 0) eI [.ref (E.2.1 154), .int x1, .int x2, .int x3] (f_X2_append x1 x2 x3) := by
  refine ok_of0 (by decide) (Nat.le_of_ble_eq_true rfl) (fun X hX hV hS => ?_)
  subst hV
  exact t_X2_append_0 hX hS x1 x2 x3
def f_X2_isSet_18 (p0 : Int32) : M Int32 :=
  gd (p0 = 0 ∨ p0 = 1) (rt p0)
set_option maxRecDepth 10000 in
set_option maxHeartbeats 4000000 in
theorem t_X2_isSet_18 {X : Cx} (hX : Good X RX2 cX2_isSet ((some .boolean))) (hS : Sta X 0 0 2) (p0 : Int32) : Tr X eI 0 0 18 [] [.int p0] (f_X2_isSet_18 p0) := by
  unfold f_X2_isSet_18
  exact tr_zret0 hX hS dX2_isSet_18
def f_X2_isSet_17  : M Int32 :=
  f_X2_isSet_18 0
set_option maxRecDepth 10000 in
set_option maxHeartbeats 4000000 in
theorem t_X2_isSet_17 {X : Cx} (hX : Good X RX2 cX2_isSet ((some .boolean))) (hS : Sta X 0 0 2) : Tr X eI 0 0 17 [] [] (f_X2_isSet_17) := by
  unfold f_X2_isSet_17
  refine tr_iconst 0 hX dX2_isSet_17 (by decide) ?_
  exact tr_sub [] rfl (t_X2_isSet_18 hX hS 0)
def f_X2_isSet (x1 : Int32) : M Int32 :=
  if x1 < 0 then (f_X2_isSet_17) else (rI 154 0 (fun v1 => if (x1 >>> (v1 &&& 31)) = 0 then (f_X2_isSet_18 1) else (f_X2_isSet_17)))
set_option maxRecDepth 10000 in
set_option maxHeartbeats 4000000 in
theorem t_X2_isSet_0 {X : Cx} (hX : Good X RX2 cX2_isSet ((some .boolean))) (hS : Sta X 0 0 2) (x1 : Int32) : Tr X eI 0 0 0 [(0, .ref (cxAd X 154)), (1, .int x1)] [] (f_X2_isSet x1) := by
  unfold f_X2_isSet
  refine tr_iload_n 1 hX dX2_isSet_0 rfl rfl ?_
  refine tr_if_lt 17 hX dX2_isSet_1 (by decide) (fun c3 => ?_) (fun c3 => ?_)
  · exact tr_sub [] rfl (t_X2_isSet_17 hX hS)
  · refine tr_iload_n 1 hX dX2_isSet_4 rfl rfl ?_
    refine tr_aload_n 0 hX dX2_isSet_5 rfl rfl ?_
    refine tr_getI hX dX2_isSet_6 sh_154 (by decide) rfl inlX2 (by decide) rfl (hS.e (Nat.le_of_ble_eq_true rfl)) k_33_6 (fun v1 => ?_)
    refine tr_ishr hX dX2_isSet_9 ?_
    refine tr_if_ne 17 hX dX2_isSet_10 (by decide) (fun c2 => ?_) (fun c2 => ?_)
    · refine tr_iconst 1 hX dX2_isSet_13 (by decide) ?_
      refine tr_goto 18 hX dX2_isSet_14 (by decide) ?_
      exact tr_sub [] rfl (t_X2_isSet_18 hX hS 1)
    · exact tr_sub [] rfl (t_X2_isSet_17 hX hS)
theorem ok_X2_isSet {l : Launch} {E : Ev} (x1 : Int32)  : Ok l E Gall yX2_isSet cX2_isSet 2 ((some .boolean)) (rmz 0 0) eI [.ref (E.2.1 154), .int x1] (f_X2_isSet x1) := by
  refine ok_of0 (by decide) (Nat.le_of_ble_eq_true rfl) (fun X hX hV hS => ?_)
  subst hV
  exact t_X2_isSet_0 hX hS x1
def f_X2_agree_74 (s6 : Int32 → Int32 → M Int32) (x1 : Nat) (x2 : Int32) (x3 : Int32) (x4 : Int32) : M Int32 :=
  s6 x3 (x4 + 1)
set_option maxRecDepth 10000 in
set_option maxHeartbeats 4000000 in
theorem t_X2_agree_74 {X : Cx} (hX : Good X RX2 cX2_agree ((some .boolean))) (hS : Sta X 0 0 6) (s6 : Int32 → Int32 → M Int32) (x1 : Nat) (x2 : Int32) (x3 : Int32) (x4 : Int32) (hx1 : isB x1) (hs6 : ∀ x3 : Int32, ∀ x4 : Int32, Tr X eI 0 0 6 [(0, .ref (cxAd X 154)), (1, .ref (cxAd X x1)), (2, .int x2), (3, .int x3), (4, .int x4)] [] (s6 x3 x4)) : Tr X eI 0 0 74 [(0, .ref (cxAd X 154)), (1, .ref (cxAd X x1)), (2, .int x2), (3, .int x3), (4, .int x4)] [] (f_X2_agree_74 s6 x1 x2 x3 x4) := by
  unfold f_X2_agree_74
  refine tr_iinc (x4 + 1) 4 hX dX2_agree_74 rfl (congrArg (fun z => x4 + z) (by decide)) (hS.n (by decide)) rfl ?_
  refine tr_goto 6 hX dX2_agree_77 (by decide) ?_
  exact tr_sub [1, 2, 3, 4, 0] rfl (hs6 x3 (x4 + 1))
def f_X2_agree_71 (s6 : Int32 → Int32 → M Int32) (x1 : Nat) (x2 : Int32) (x4 : Int32) (x5 : Int32) : M Int32 :=
  f_X2_agree_74 s6 x1 x2 x5 x4
set_option maxRecDepth 10000 in
set_option maxHeartbeats 4000000 in
theorem t_X2_agree_71 {X : Cx} (hX : Good X RX2 cX2_agree ((some .boolean))) (hS : Sta X 0 0 6) (s6 : Int32 → Int32 → M Int32) (x1 : Nat) (x2 : Int32) (x4 : Int32) (x5 : Int32) (hx1 : isB x1) (hs6 : ∀ x3 : Int32, ∀ x4 : Int32, Tr X eI 0 0 6 [(0, .ref (cxAd X 154)), (1, .ref (cxAd X x1)), (2, .int x2), (3, .int x3), (4, .int x4)] [] (s6 x3 x4)) : Tr X eI 0 0 71 [(0, .ref (cxAd X 154)), (1, .ref (cxAd X x1)), (2, .int x2), (4, .int x4), (5, .int x5)] [] (f_X2_agree_71 s6 x1 x2 x4 x5) := by
  unfold f_X2_agree_71
  refine tr_iload 4 hX dX2_agree_71 rfl ?_
  refine tr_istore_n hX dX2_agree_73 rfl (hS.n (by decide)) rfl ?_
  exact tr_sub [1, 2, 3, 0, 4] rfl (t_X2_agree_74 hX hS s6 x1 x2 x5 x4 hx1 hs6)
def f_X2_agree_6 (x1 : Nat) (x2 : Int32) (s6 : Int32 → Int32 → M Int32) (x3 : Int32) (x4 : Int32) : M Int32 :=
  rI 154 0 (fun v1 => if v1 ≤ x4 then (gd ((1 : Int32) = 0 ∨ (1 : Int32) = 1) (rt 1)) else (aI 155 16 x4 (fun v2 => if v2 = 0 then (f_X2_agree_74 s6 x1 x2 x3 x4) else (aI 157 16 x4 (fun v4 => aI (x1 + 8) 6 v4 (fun v6 => if v6 ≤ x2 then (f_X2_agree_74 s6 x1 x2 x3 x4) else (aI 157 16 x4 (fun v8 => gd (inb v8 6) (aI (x1 + 1 + 1 + v8.toNatClampNeg) 8 x2 (fun v11 => if x3 = (-4) then (f_X2_agree_71 s6 x1 x2 x4 v11) else (if x3 = v11 then (f_X2_agree_71 s6 x1 x2 x4 v11) else (gd ((0 : Int32) = 0 ∨ (0 : Int32) = 1) (rt 0)))))))))))))
set_option maxRecDepth 10000 in
set_option maxHeartbeats 4000000 in
theorem t_X2_agree_6 {X : Cx} (hX : Good X RX2 cX2_agree ((some .boolean))) (hS : Sta X 0 0 6) (x1 : Nat) (x2 : Int32) (hx1 : isB x1) : ∀ s6 : Int32 → Int32 → M Int32, (∀ x3 : Int32, ∀ x4 : Int32, Tr X eI 0 0 6 [(0, .ref (cxAd X 154)), (1, .ref (cxAd X x1)), (2, .int x2), (3, .int x3), (4, .int x4)] [] (s6 x3 x4)) → ∀ x3 : Int32, ∀ x4 : Int32, Tr X eI 0 0 6 [(0, .ref (cxAd X 154)), (1, .ref (cxAd X x1)), (2, .int x2), (3, .int x3), (4, .int x4)] [] (f_X2_agree_6 x1 x2 s6 x3 x4) := by
  intro s6 hs6 x3 x4
  unfold f_X2_agree_6
  refine tr_iload 4 hX dX2_agree_6 rfl ?_
  refine tr_aload_n 0 hX dX2_agree_8 rfl rfl ?_
  refine tr_getI hX dX2_agree_9 sh_154 (by decide) rfl inlX2 (by decide) rfl (hS.e (Nat.le_of_ble_eq_true rfl)) k_33_6 (fun v1 => ?_)
  refine tr_ic_ge 80 hX dX2_agree_12 (by decide) (fun c17 => ?_) (fun c17 => ?_)
  · refine tr_iconst 1 hX dX2_agree_80 (by decide) ?_
    exact tr_zret0 hX hS dX2_agree_81
  · refine tr_aload_n 0 hX dX2_agree_15 rfl rfl ?_
    refine tr_getF hX dX2_agree_16 sh_154 (by decide) rfl inlX2 (by decide) rfl (hS.g (Nat.le_of_ble_eq_true rfl)) cr_154_1 k_6_3 mq_154 ?_
    refine tr_iload 4 hX dX2_agree_19 rfl ?_
    refine tr_zald hX dX2_agree_21 sh_155 (hS.e (Nat.le_of_ble_eq_true rfl)) (fun hb3 v2 => ?_)
    refine tr_if_eq 74 hX dX2_agree_22 (by decide) (fun c16 => ?_) (fun c16 => ?_)
    · exact tr_sub [0, 1, 2, 3, 4] rfl (t_X2_agree_74 hX hS s6 x1 x2 x3 x4 hx1 hs6)
    · refine tr_iload_n 2 hX dX2_agree_25 rfl rfl ?_
      refine tr_aload_n 1 hX dX2_agree_26 rfl rfl ?_
      refine tr_getF hX dX2_agree_27 (shB hx1) (by decide) rfl inlX0 (by decide) rfl (hS.g (leB hx1)) (crB_1 hx1) k_34_14 (mqB hx1) ?_
      refine tr_aload_n 0 hX dX2_agree_30 rfl rfl ?_
      refine tr_getF hX dX2_agree_31 sh_154 (by decide) rfl inlX2 (by decide) rfl (hS.g (Nat.le_of_ble_eq_true rfl)) cr_154_3 k_6_5 mq_154 ?_
      refine tr_iload 4 hX dX2_agree_34 rfl ?_
      refine tr_iald hX dX2_agree_36 sh_157 (hS.e (Nat.le_of_ble_eq_true rfl)) (fun hb5 v4 => ?_)
      refine tr_iald hX dX2_agree_37 (shB_8 hx1) (hS.e (leB_8 hx1)) (fun hb7 v6 => ?_)
      refine tr_ic_ge 74 hX dX2_agree_38 (by decide) (fun c15 => ?_) (fun c15 => ?_)
      · exact tr_sub [0, 1, 2, 3, 4] rfl (t_X2_agree_74 hX hS s6 x1 x2 x3 x4 hx1 hs6)
      · refine tr_aload_n 1 hX dX2_agree_41 rfl rfl ?_
        refine tr_getF hX dX2_agree_42 (shB hx1) (by decide) rfl inlX0 (by decide) rfl (hS.g (leB hx1)) (crB_0 hx1) k_34_15 (mqB hx1) ?_
        refine tr_aload_n 0 hX dX2_agree_45 rfl rfl ?_
        refine tr_getF hX dX2_agree_46 sh_154 (by decide) rfl inlX2 (by decide) rfl (hS.g (Nat.le_of_ble_eq_true rfl)) cr_154_3 k_6_5 mq_154 ?_
        refine tr_iload 4 hX dX2_agree_49 rfl ?_
        refine tr_iald hX dX2_agree_51 sh_157 (hS.e (Nat.le_of_ble_eq_true rfl)) (fun hb9 v8 => ?_)
        refine tr_aald hX dX2_agree_52 (shB_1 hx1) (hS.e (leB_1 hx1)) (fun hb10 => ?_)
        refine tr_iload_n 2 hX dX2_agree_53 rfl rfl ?_
        refine tr_iald hX dX2_agree_54 (rowB hx1 hb10).1 (hS.e (rowB hx1 hb10).2) (fun hb12 v11 => ?_)
        refine tr_istore hX dX2_agree_55 (hS.n (by decide)) rfl ?_
        refine tr_iload_n 4 hX dX2_agree_57 rfl rfl ?_
        refine tr_bipush (-4) hX dX2_agree_58 (by decide) ?_
        refine tr_ic_eq 71 hX dX2_agree_60 (by decide) (fun c14 => ?_) (fun c14 => ?_)
        · exact tr_sub [1, 2, 3, 5, 0] rfl (t_X2_agree_71 hX hS s6 x1 x2 x4 v11 hx1 hs6)
        · refine tr_iload_n 4 hX dX2_agree_63 rfl rfl ?_
          refine tr_iload 0 hX dX2_agree_64 rfl ?_
          refine tr_ic_eq 71 hX dX2_agree_66 (by decide) (fun c13 => ?_) (fun c13 => ?_)
          · exact tr_sub [1, 2, 3, 5, 0] rfl (t_X2_agree_71 hX hS s6 x1 x2 x4 v11 hx1 hs6)
          · refine tr_iconst 0 hX dX2_agree_69 (by decide) ?_
            exact tr_zret0 hX hS dX2_agree_70
def f_X2_agree (x1 : Nat) (x2 : Int32) : M Int32 :=
  fix2 FU (f_X2_agree_6 x1 x2) (-4) 0
set_option maxRecDepth 10000 in
set_option maxHeartbeats 4000000 in
theorem t_X2_agree_0 {X : Cx} (hX : Good X RX2 cX2_agree ((some .boolean))) (hS : Sta X 0 0 6) (x1 : Nat) (x2 : Int32) (hx1 : isB x1) : Tr X eI 0 0 0 [(0, .ref (cxAd X 154)), (1, .ref (cxAd X x1)), (2, .int x2)] [] (f_X2_agree x1 x2) := by
  unfold f_X2_agree
  refine tr_bipush (-4) hX dX2_agree_0 (by decide) ?_
  refine tr_istore_n hX dX2_agree_2 rfl (hS.n (by decide)) rfl ?_
  refine tr_iconst 0 hX dX2_agree_3 (by decide) ?_
  refine tr_istore hX dX2_agree_4 (hS.n (by decide)) rfl ?_
  exact tr_sub [2, 3, 4, 1, 0] rfl (tr_fix2 (lvf := fun x3 x4 => [(0, .ref (cxAd X 154)), (1, .ref (cxAd X x1)), (2, .int x2), (3, .int x3), (4, .int x4)]) (t_X2_agree_6 hX hS x1 x2 hx1) FU (-4) 0)
theorem ok_X2_agree {l : Launch} {E : Ev} (x1 : Nat) (x2 : Int32) (hx1 : isB x1) : Ok l E Gall yX2_agree cX2_agree 6 ((some .boolean)) (rmz 0 0) eI [.ref (E.2.1 154), .ref (E.2.1 x1), .int x2] (f_X2_agree x1 x2) := by
  refine ok_of0 (by decide) (Nat.le_of_ble_eq_true rfl) (fun X hX hV hS => ?_)
  subst hV
  exact t_X2_agree_0 hX hS x1 x2 hx1
def f_X2_allHave_40 (s3 : Int32 → M Int32) (x1 : Nat) (x2 : Int32) (x3 : Int32) (x4 : Int32) : M Int32 :=
  s3 (x4 + 1)
set_option maxRecDepth 10000 in
set_option maxHeartbeats 4000000 in
theorem t_X2_allHave_40 {X : Cx} (hX : Good X RX2 cX2_allHave ((some .boolean))) (hS : Sta X 1 23 5) (s3 : Int32 → M Int32) (x1 : Nat) (x2 : Int32) (x3 : Int32) (x4 : Int32) (hx1 : isB x1) (hs3 : ∀ x4 : Int32, Tr X eI 0 0 3 [(0, .ref (cxAd X 154)), (1, .ref (cxAd X x1)), (2, .int x2), (3, .int x3), (4, .int x4)] [] (s3 x4)) : Tr X eI 0 0 40 [(0, .ref (cxAd X 154)), (1, .ref (cxAd X x1)), (2, .int x2), (3, .int x3), (4, .int x4)] [] (f_X2_allHave_40 s3 x1 x2 x3 x4) := by
  unfold f_X2_allHave_40
  refine tr_iinc (x4 + 1) 4 hX dX2_allHave_40 rfl (congrArg (fun z => x4 + z) (by decide)) (hS.n (by decide)) rfl ?_
  refine tr_goto 3 hX dX2_allHave_43 (by decide) ?_
  exact tr_sub [1, 2, 3, 4, 0] rfl (hs3 (x4 + 1))
def f_X2_allHave_3 (x1 : Nat) (x2 : Int32) (x3 : Int32) (s3 : Int32 → M Int32) (x4 : Int32) : M Int32 :=
  rI 154 0 (fun v1 => if v1 ≤ x4 then (gd ((1 : Int32) = 0 ∨ (1 : Int32) = 1) (rt 1)) else (aI 155 16 x4 (fun v2 => if v2 = 0 then (f_X2_allHave_40 s3 x1 x2 x3 x4) else (aI 157 16 x4 (fun v4 => bnd (f_X0_has x1 v4 x2 x3) (fun v6 => if v6 = 0 then (gd ((0 : Int32) = 0 ∨ (0 : Int32) = 1) (rt 0)) else (f_X2_allHave_40 s3 x1 x2 x3 x4)))))))
set_option maxRecDepth 10000 in
set_option maxHeartbeats 4000000 in
theorem t_X2_allHave_3 {X : Cx} (hX : Good X RX2 cX2_allHave ((some .boolean))) (hS : Sta X 1 23 5) (x1 : Nat) (x2 : Int32) (x3 : Int32) (hx1 : isB x1) : ∀ s3 : Int32 → M Int32, (∀ x4 : Int32, Tr X eI 0 0 3 [(0, .ref (cxAd X 154)), (1, .ref (cxAd X x1)), (2, .int x2), (3, .int x3), (4, .int x4)] [] (s3 x4)) → ∀ x4 : Int32, Tr X eI 0 0 3 [(0, .ref (cxAd X 154)), (1, .ref (cxAd X x1)), (2, .int x2), (3, .int x3), (4, .int x4)] [] (f_X2_allHave_3 x1 x2 x3 s3 x4) := by
  intro s3 hs3 x4
  unfold f_X2_allHave_3
  refine tr_iload 4 hX dX2_allHave_3 rfl ?_
  refine tr_aload_n 0 hX dX2_allHave_5 rfl rfl ?_
  refine tr_getI hX dX2_allHave_6 sh_154 (by decide) rfl inlX2 (by decide) rfl (hS.e (Nat.le_of_ble_eq_true rfl)) k_33_6 (fun v1 => ?_)
  refine tr_ic_ge 46 hX dX2_allHave_9 (by decide) (fun c9 => ?_) (fun c9 => ?_)
  · refine tr_iconst 1 hX dX2_allHave_46 (by decide) ?_
    exact tr_zret0 hX hS dX2_allHave_47
  · refine tr_aload_n 0 hX dX2_allHave_12 rfl rfl ?_
    refine tr_getF hX dX2_allHave_13 sh_154 (by decide) rfl inlX2 (by decide) rfl (hS.g (Nat.le_of_ble_eq_true rfl)) cr_154_1 k_6_3 mq_154 ?_
    refine tr_iload 4 hX dX2_allHave_16 rfl ?_
    refine tr_zald hX dX2_allHave_18 sh_155 (hS.e (Nat.le_of_ble_eq_true rfl)) (fun hb3 v2 => ?_)
    refine tr_if_eq 40 hX dX2_allHave_19 (by decide) (fun c8 => ?_) (fun c8 => ?_)
    · exact tr_sub [0, 1, 2, 3, 4] rfl (t_X2_allHave_40 hX hS s3 x1 x2 x3 x4 hx1 hs3)
    · refine tr_aload_n 1 hX dX2_allHave_22 rfl rfl ?_
      refine tr_aload_n 0 hX dX2_allHave_23 rfl rfl ?_
      refine tr_getF hX dX2_allHave_24 sh_154 (by decide) rfl inlX2 (by decide) rfl (hS.g (Nat.le_of_ble_eq_true rfl)) cr_154_3 k_6_5 mq_154 ?_
      refine tr_iload 4 hX dX2_allHave_27 rfl ?_
      refine tr_iald hX dX2_allHave_29 sh_157 (hS.e (Nat.le_of_ble_eq_true rfl)) (fun hb5 v4 => ?_)
      refine tr_iload_n 2 hX dX2_allHave_30 rfl rfl ?_
      refine tr_iload_n 3 hX dX2_allHave_31 rfl rfl ?_
      refine tr_callV0I (st := []) 3 hX hS dX2_allHave_32 (ok_X0_has x1 v4 x2 x3 hx1) (shB hx1) (by decide) rfl (leB hx1) k_35_12 k_35_13 k_35_14 k_2_0 k_35_15 hy_X0_has rfl rfl (Nat.le_of_ble_eq_true rfl) rfl (fun v6 => ?_)
      refine tr_if_ne 40 hX dX2_allHave_35 (by decide) (fun c7 => ?_) (fun c7 => ?_)
      · refine tr_iconst 0 hX dX2_allHave_38 (by decide) ?_
        exact tr_zret0 hX hS dX2_allHave_39
      · exact tr_sub [0, 1, 2, 3, 4] rfl (t_X2_allHave_40 hX hS s3 x1 x2 x3 x4 hx1 hs3)
def f_X2_allHave (x1 : Nat) (x2 : Int32) (x3 : Int32) : M Int32 :=
  fix1 FU (f_X2_allHave_3 x1 x2 x3) 0
set_option maxRecDepth 10000 in
set_option maxHeartbeats 4000000 in
theorem t_X2_allHave_0 {X : Cx} (hX : Good X RX2 cX2_allHave ((some .boolean))) (hS : Sta X 1 23 5) (x1 : Nat) (x2 : Int32) (x3 : Int32) (hx1 : isB x1) : Tr X eI 0 0 0 [(0, .ref (cxAd X 154)), (1, .ref (cxAd X x1)), (2, .int x2), (3, .int x3)] [] (f_X2_allHave x1 x2 x3) := by
  unfold f_X2_allHave
  refine tr_iconst 0 hX dX2_allHave_0 (by decide) ?_
  refine tr_istore hX dX2_allHave_1 (hS.n (by decide)) rfl ?_
  exact tr_sub [1, 2, 3, 4, 0] rfl (tr_fix1 (lvf := fun x4 => [(0, .ref (cxAd X 154)), (1, .ref (cxAd X x1)), (2, .int x2), (3, .int x3), (4, .int x4)]) (t_X2_allHave_3 hX hS x1 x2 x3 hx1) FU 0)
theorem ok_X2_allHave {l : Launch} {E : Ev} (x1 : Nat) (x2 : Int32) (x3 : Int32) (hx1 : isB x1) : Ok l E Gall yX2_allHave cX2_allHave 5 ((some .boolean)) (rmz 1 23) eI [.ref (E.2.1 154), .ref (E.2.1 x1), .int x2, .int x3] (f_X2_allHave x1 x2 x3) := by
  refine ok_of0 (by decide) (Nat.le_of_ble_eq_true rfl) (fun X hX hV hS => ?_)
  subst hV
  exact t_X2_allHave_0 hX hS x1 x2 x3 hx1
def f_X2_latestCommonYear_90 (s59 : Int32 → Int32 → M Int32) (x1 : Int32) (x3 : Int32) (x4 : Int32) : M Int32 :=
  s59 x3 (x4 + 1)
set_option maxRecDepth 10000 in
set_option maxHeartbeats 4000000 in
theorem t_X2_latestCommonYear_90 {X : Cx} (hX : Good X RX2 cX2_latestCommonYear ((some .int))) (hS : Sta X 1 13 5) (s59 : Int32 → Int32 → M Int32) (x1 : Int32) (x3 : Int32) (x4 : Int32) (hs59 : ∀ x3 : Int32, ∀ x4 : Int32, Tr X eI 0 0 59 [(0, .ref (cxAd X 154)), (1, .int x1), (3, .int x3), (4, .int x4)] [] (s59 x3 x4)) : Tr X eI 0 0 90 [(0, .ref (cxAd X 154)), (1, .int x1), (3, .int x3), (4, .int x4)] [] (f_X2_latestCommonYear_90 s59 x1 x3 x4) := by
  unfold f_X2_latestCommonYear_90
  refine tr_iinc (x4 + 1) 3 hX dX2_latestCommonYear_90 rfl (congrArg (fun z => x4 + z) (by decide)) (hS.n (by decide)) rfl ?_
  refine tr_goto 59 hX dX2_latestCommonYear_93 (by decide) ?_
  exact tr_sub [1, 2, 3, 0] rfl (hs59 x3 (x4 + 1))
def f_X2_latestCommonYear_59 (x1 : Int32) (s59 : Int32 → Int32 → M Int32) (x3 : Int32) (x4 : Int32) : M Int32 :=
  rI 154 0 (fun v1 => if v1 ≤ x4 then (rt x3) else (if ((x1 >>> (x4 &&& 31)) &&& 1) = 1 then (aI 156 16 x4 (fun v2 => nm ((if x3 < v2 then v2 else x3)) (fun v4 => f_X2_latestCommonYear_90 s59 x1 v4 x4))) else (f_X2_latestCommonYear_90 s59 x1 x3 x4)))
set_option maxRecDepth 10000 in
set_option maxHeartbeats 4000000 in
theorem t_X2_latestCommonYear_59 {X : Cx} (hX : Good X RX2 cX2_latestCommonYear ((some .int))) (hS : Sta X 1 13 5) (x1 : Int32) : ∀ s59 : Int32 → Int32 → M Int32, (∀ x3 : Int32, ∀ x4 : Int32, Tr X eI 0 0 59 [(0, .ref (cxAd X 154)), (1, .int x1), (3, .int x3), (4, .int x4)] [] (s59 x3 x4)) → ∀ x3 : Int32, ∀ x4 : Int32, Tr X eI 0 0 59 [(0, .ref (cxAd X 154)), (1, .int x1), (3, .int x3), (4, .int x4)] [] (f_X2_latestCommonYear_59 x1 s59 x3 x4) := by
  intro s59 hs59 x3 x4
  unfold f_X2_latestCommonYear_59
  refine tr_iload 3 hX dX2_latestCommonYear_59 rfl ?_
  refine tr_aload_n 0 hX dX2_latestCommonYear_61 rfl rfl ?_
  refine tr_getI hX dX2_latestCommonYear_62 sh_154 (by decide) rfl inlX2 (by decide) rfl (hS.e (Nat.le_of_ble_eq_true rfl)) k_33_6 (fun v1 => ?_)
  refine tr_ic_ge 96 hX dX2_latestCommonYear_65 (by decide) (fun c6 => ?_) (fun c6 => ?_)
  · refine tr_iload_n 2 hX dX2_latestCommonYear_96 rfl rfl ?_
    exact tr_iret0 hX hS dX2_latestCommonYear_97
  · refine tr_iload_n 1 hX dX2_latestCommonYear_68 rfl rfl ?_
    refine tr_iload 3 hX dX2_latestCommonYear_69 rfl ?_
    refine tr_ishr hX dX2_latestCommonYear_71 ?_
    refine tr_iconst 1 hX dX2_latestCommonYear_72 (by decide) ?_
    refine tr_iand hX dX2_latestCommonYear_73 ?_
    refine tr_iconst 1 hX dX2_latestCommonYear_74 (by decide) ?_
    refine tr_ic_ne 90 hX dX2_latestCommonYear_75 (by decide) (fun c5 => ?_) (fun c5 => ?_)
    · refine tr_iload_n 2 hX dX2_latestCommonYear_78 rfl rfl ?_
      refine tr_aload_n 0 hX dX2_latestCommonYear_79 rfl rfl ?_
      refine tr_getF hX dX2_latestCommonYear_80 sh_154 (by decide) rfl inlX2 (by decide) rfl (hS.g (Nat.le_of_ble_eq_true rfl)) cr_154_2 k_6_4 mq_154 ?_
      refine tr_iload 3 hX dX2_latestCommonYear_83 rfl ?_
      refine tr_iald hX dX2_latestCommonYear_85 sh_156 (hS.e (Nat.le_of_ble_eq_true rfl)) (fun hb3 v2 => ?_)
      refine tr_max hX dX2_latestCommonYear_86 k_35_20 k_21_3 k_20_16 k_21_4 (by rw [hS.2.2.2.2.1]; exact Nat.le_of_ble_eq_true rfl) (by rw [hS.2.2.2.2.1]; exact Nat.le_of_ble_eq_true rfl) (Nat.zero_le _) (Nat.zero_le _) ?_
      refine tr_nm (fun v4 ev4 => ?_)
      refine tr_istore_n hX dX2_latestCommonYear_89 rfl (hS.n (by decide)) rfl ?_
      exact tr_sub [1, 2, 0, 3] rfl (t_X2_latestCommonYear_90 hX hS s59 x1 v4 x4 hs59)
    · exact tr_sub [0, 1, 2, 3] rfl (t_X2_latestCommonYear_90 hX hS s59 x1 x3 x4 hs59)
def f_X2_latestCommonYear_47 (s6 : Int32 → Int32 → Int32 → M Int32) (x1 : Int32) (x2 : Int32) (x3 : Int32) : M Int32 :=
  s6 x1 x2 (x3 + 1)
set_option maxRecDepth 10000 in
set_option maxHeartbeats 4000000 in
theorem t_X2_latestCommonYear_47 {X : Cx} (hX : Good X RX2 cX2_latestCommonYear ((some .int))) (hS : Sta X 1 13 5) (s6 : Int32 → Int32 → Int32 → M Int32) (x1 : Int32) (x2 : Int32) (x3 : Int32) (hs6 : ∀ x1 : Int32, ∀ x2 : Int32, ∀ x3 : Int32, Tr X eI 0 0 6 [(0, .ref (cxAd X 154)), (1, .int x1), (2, .int x2), (3, .int x3)] [] (s6 x1 x2 x3)) : Tr X eI 0 0 47 [(0, .ref (cxAd X 154)), (1, .int x1), (2, .int x2), (3, .int x3)] [] (f_X2_latestCommonYear_47 s6 x1 x2 x3) := by
  unfold f_X2_latestCommonYear_47
  refine tr_iinc (x3 + 1) 3 hX dX2_latestCommonYear_47 rfl (congrArg (fun z => x3 + z) (by decide)) (hS.n (by decide)) rfl ?_
  refine tr_goto 6 hX dX2_latestCommonYear_50 (by decide) ?_
  exact tr_sub [1, 2, 3, 0] rfl (hs6 x1 x2 (x3 + 1))
def f_X2_latestCommonYear_44 (s6 : Int32 → Int32 → Int32 → M Int32) (x3 : Int32) (p0 : Int32) : M Int32 :=
  f_X2_latestCommonYear_47 s6 p0 1 x3
set_option maxRecDepth 10000 in
set_option maxHeartbeats 4000000 in
theorem t_X2_latestCommonYear_44 {X : Cx} (hX : Good X RX2 cX2_latestCommonYear ((some .int))) (hS : Sta X 1 13 5) (s6 : Int32 → Int32 → Int32 → M Int32) (x3 : Int32) (p0 : Int32) (hs6 : ∀ x1 : Int32, ∀ x2 : Int32, ∀ x3 : Int32, Tr X eI 0 0 6 [(0, .ref (cxAd X 154)), (1, .int x1), (2, .int x2), (3, .int x3)] [] (s6 x1 x2 x3)) : Tr X eI 0 0 44 [(0, .ref (cxAd X 154)), (3, .int x3)] [.int p0] (f_X2_latestCommonYear_44 s6 x3 p0) := by
  unfold f_X2_latestCommonYear_44
  refine tr_istore_n hX dX2_latestCommonYear_44 rfl (hS.n (by decide)) rfl ?_
  refine tr_iconst 1 hX dX2_latestCommonYear_45 (by decide) ?_
  refine tr_istore_n hX dX2_latestCommonYear_46 rfl (hS.n (by decide)) rfl ?_
  exact tr_sub [2, 1, 0, 3] rfl (t_X2_latestCommonYear_47 hX hS s6 p0 1 x3 hs6)
def f_X2_latestCommonYear_6 (s6 : Int32 → Int32 → Int32 → M Int32) (x1 : Int32) (x2 : Int32) (x3 : Int32) : M Int32 :=
  rI 154 0 (fun v1 => if v1 ≤ x3 then (fix2 FU (f_X2_latestCommonYear_59 x1) (-4) 0) else (aI 155 16 x3 (fun v2 => if v2 = 0 then (f_X2_latestCommonYear_47 s6 x1 x2 x3) else (if x2 = 0 then (aI 158 16 x3 (fun v4 => f_X2_latestCommonYear_44 s6 x3 v4)) else (aI 158 16 x3 (fun v6 => f_X2_latestCommonYear_44 s6 x3 (x1 &&& v6)))))))
set_option maxRecDepth 10000 in
set_option maxHeartbeats 4000000 in
theorem t_X2_latestCommonYear_6 {X : Cx} (hX : Good X RX2 cX2_latestCommonYear ((some .int))) (hS : Sta X 1 13 5) : ∀ s6 : Int32 → Int32 → Int32 → M Int32, (∀ x1 : Int32, ∀ x2 : Int32, ∀ x3 : Int32, Tr X eI 0 0 6 [(0, .ref (cxAd X 154)), (1, .int x1), (2, .int x2), (3, .int x3)] [] (s6 x1 x2 x3)) → ∀ x1 : Int32, ∀ x2 : Int32, ∀ x3 : Int32, Tr X eI 0 0 6 [(0, .ref (cxAd X 154)), (1, .int x1), (2, .int x2), (3, .int x3)] [] (f_X2_latestCommonYear_6 s6 x1 x2 x3) := by
  intro s6 hs6 x1 x2 x3
  unfold f_X2_latestCommonYear_6
  refine tr_iload_n 3 hX dX2_latestCommonYear_6 rfl rfl ?_
  refine tr_aload_n 0 hX dX2_latestCommonYear_7 rfl rfl ?_
  refine tr_getI hX dX2_latestCommonYear_8 sh_154 (by decide) rfl inlX2 (by decide) rfl (hS.e (Nat.le_of_ble_eq_true rfl)) k_33_6 (fun v1 => ?_)
  refine tr_ic_ge 53 hX dX2_latestCommonYear_11 (by decide) (fun c10 => ?_) (fun c10 => ?_)
  · refine tr_bipush (-4) hX dX2_latestCommonYear_53 (by decide) ?_
    refine tr_istore_n hX dX2_latestCommonYear_55 rfl (hS.n (by decide)) rfl ?_
    refine tr_iconst 0 hX dX2_latestCommonYear_56 (by decide) ?_
    refine tr_istore hX dX2_latestCommonYear_57 (hS.n (by decide)) rfl ?_
    exact tr_sub [2, 3, 1, 0] rfl (tr_fix2 (lvf := fun x3 x4 => [(0, .ref (cxAd X 154)), (1, .int x1), (3, .int x3), (4, .int x4)]) (t_X2_latestCommonYear_59 hX hS x1) FU (-4) 0)
  · refine tr_aload_n 0 hX dX2_latestCommonYear_14 rfl rfl ?_
    refine tr_getF hX dX2_latestCommonYear_15 sh_154 (by decide) rfl inlX2 (by decide) rfl (hS.g (Nat.le_of_ble_eq_true rfl)) cr_154_1 k_6_3 mq_154 ?_
    refine tr_iload_n 3 hX dX2_latestCommonYear_18 rfl rfl ?_
    refine tr_zald hX dX2_latestCommonYear_19 sh_155 (hS.e (Nat.le_of_ble_eq_true rfl)) (fun hb3 v2 => ?_)
    refine tr_if_eq 47 hX dX2_latestCommonYear_20 (by decide) (fun c9 => ?_) (fun c9 => ?_)
    · exact tr_sub [0, 1, 2, 3] rfl (t_X2_latestCommonYear_47 hX hS s6 x1 x2 x3 hs6)
    · refine tr_iload_n 2 hX dX2_latestCommonYear_23 rfl rfl ?_
      refine tr_if_eq 38 hX dX2_latestCommonYear_24 (by decide) (fun c8 => ?_) (fun c8 => ?_)
      · refine tr_aload_n 0 hX dX2_latestCommonYear_38 rfl rfl ?_
        refine tr_getF hX dX2_latestCommonYear_39 sh_154 (by decide) rfl inlX2 (by decide) rfl (hS.g (Nat.le_of_ble_eq_true rfl)) cr_154_4 k_6_6 mq_154 ?_
        refine tr_iload_n 3 hX dX2_latestCommonYear_42 rfl rfl ?_
        refine tr_iald hX dX2_latestCommonYear_43 sh_158 (hS.e (Nat.le_of_ble_eq_true rfl)) (fun hb5 v4 => ?_)
        exact tr_sub [0, 3] rfl (t_X2_latestCommonYear_44 hX hS s6 x3 v4 hs6)
      · refine tr_iload_n 1 hX dX2_latestCommonYear_27 rfl rfl ?_
        refine tr_aload_n 0 hX dX2_latestCommonYear_28 rfl rfl ?_
        refine tr_getF hX dX2_latestCommonYear_29 sh_154 (by decide) rfl inlX2 (by decide) rfl (hS.g (Nat.le_of_ble_eq_true rfl)) cr_154_4 k_6_6 mq_154 ?_
        refine tr_iload_n 3 hX dX2_latestCommonYear_32 rfl rfl ?_
        refine tr_iald hX dX2_latestCommonYear_33 sh_158 (hS.e (Nat.le_of_ble_eq_true rfl)) (fun hb7 v6 => ?_)
        refine tr_iand hX dX2_latestCommonYear_34 ?_
        refine tr_goto 44 hX dX2_latestCommonYear_35 (by decide) ?_
        exact tr_sub [0, 3] rfl (t_X2_latestCommonYear_44 hX hS s6 x3 (x1 &&& v6) hs6)
def f_X2_latestCommonYear  : M Int32 :=
  fix3 FU (f_X2_latestCommonYear_6) 0 0 0
set_option maxRecDepth 10000 in
set_option maxHeartbeats 4000000 in
theorem t_X2_latestCommonYear_0 {X : Cx} (hX : Good X RX2 cX2_latestCommonYear ((some .int))) (hS : Sta X 1 13 5) : Tr X eI 0 0 0 [(0, .ref (cxAd X 154))] [] (f_X2_latestCommonYear) := by
  unfold f_X2_latestCommonYear
  refine tr_iconst 0 hX dX2_latestCommonYear_0 (by decide) ?_
  refine tr_istore_n hX dX2_latestCommonYear_1 rfl (hS.n (by decide)) rfl ?_
  refine tr_iconst 0 hX dX2_latestCommonYear_2 (by decide) ?_
  refine tr_istore_n hX dX2_latestCommonYear_3 rfl (hS.n (by decide)) rfl ?_
  refine tr_iconst 0 hX dX2_latestCommonYear_4 (by decide) ?_
  refine tr_istore_n hX dX2_latestCommonYear_5 rfl (hS.n (by decide)) rfl ?_
  exact tr_sub [3, 2, 1, 0] rfl (tr_fix3 (lvf := fun x1 x2 x3 => [(0, .ref (cxAd X 154)), (1, .int x1), (2, .int x2), (3, .int x3)]) (t_X2_latestCommonYear_6 hX hS) FU 0 0 0)
theorem ok_X2_latestCommonYear {l : Launch} {E : Ev}   : Ok l E Gall yX2_latestCommonYear cX2_latestCommonYear 5 ((some .int)) (rmz 1 13) eI [.ref (E.2.1 154)] (f_X2_latestCommonYear) := by
  refine ok_of0 (by decide) (Nat.le_of_ble_eq_true rfl) (fun X hX hV hS => ?_)
  subst hV
  exact t_X2_latestCommonYear_0 hX hS 
def f_X2_versesOf_41 (s4 : Int32 → Int32 → M Int32) (x1 : Int32) (x2 : Int32) (x3 : Int32) : M Int32 :=
  s4 x2 (x3 + 1)
set_option maxRecDepth 10000 in
set_option maxHeartbeats 4000000 in
theorem t_X2_versesOf_41 {X : Cx} (hX : Good X RX2 cX2_versesOf ((some .int))) (hS : Sta X 0 0 4) (s4 : Int32 → Int32 → M Int32) (x1 : Int32) (x2 : Int32) (x3 : Int32) (hs4 : ∀ x2 : Int32, ∀ x3 : Int32, Tr X eI 0 0 4 [(0, .ref (cxAd X 154)), (1, .int x1), (2, .int x2), (3, .int x3)] [] (s4 x2 x3)) : Tr X eI 0 0 41 [(0, .ref (cxAd X 154)), (1, .int x1), (2, .int x2), (3, .int x3)] [] (f_X2_versesOf_41 s4 x1 x2 x3) := by
  unfold f_X2_versesOf_41
  refine tr_iinc (x3 + 1) 3 hX dX2_versesOf_41 rfl (congrArg (fun z => x3 + z) (by decide)) (hS.n (by decide)) rfl ?_
  refine tr_goto 4 hX dX2_versesOf_44 (by decide) ?_
  exact tr_sub [1, 2, 3, 0] rfl (hs4 x2 (x3 + 1))
def f_X2_versesOf_4 (x1 : Int32) (s4 : Int32 → Int32 → M Int32) (x2 : Int32) (x3 : Int32) : M Int32 :=
  rI 154 0 (fun v1 => if v1 ≤ x3 then (rt x2) else (aI 155 16 x3 (fun v2 => if v2 = 0 then (f_X2_versesOf_41 s4 x1 x2 x3) else (if ((x1 >>> (x3 &&& 31)) &&& 1) = 1 then (aI 157 16 x3 (fun v4 => nm ((x2 ||| (1 <<< (v4 &&& 31)))) (fun v6 => f_X2_versesOf_41 s4 x1 v6 x3))) else (f_X2_versesOf_41 s4 x1 x2 x3)))))
set_option maxRecDepth 10000 in
set_option maxHeartbeats 4000000 in
theorem t_X2_versesOf_4 {X : Cx} (hX : Good X RX2 cX2_versesOf ((some .int))) (hS : Sta X 0 0 4) (x1 : Int32) : ∀ s4 : Int32 → Int32 → M Int32, (∀ x2 : Int32, ∀ x3 : Int32, Tr X eI 0 0 4 [(0, .ref (cxAd X 154)), (1, .int x1), (2, .int x2), (3, .int x3)] [] (s4 x2 x3)) → ∀ x2 : Int32, ∀ x3 : Int32, Tr X eI 0 0 4 [(0, .ref (cxAd X 154)), (1, .int x1), (2, .int x2), (3, .int x3)] [] (f_X2_versesOf_4 x1 s4 x2 x3) := by
  intro s4 hs4 x2 x3
  unfold f_X2_versesOf_4
  refine tr_iload_n 3 hX dX2_versesOf_4 rfl rfl ?_
  refine tr_aload_n 0 hX dX2_versesOf_5 rfl rfl ?_
  refine tr_getI hX dX2_versesOf_6 sh_154 (by decide) rfl inlX2 (by decide) rfl (hS.e (Nat.le_of_ble_eq_true rfl)) k_33_6 (fun v1 => ?_)
  refine tr_ic_ge 47 hX dX2_versesOf_9 (by decide) (fun c9 => ?_) (fun c9 => ?_)
  · refine tr_iload_n 2 hX dX2_versesOf_47 rfl rfl ?_
    exact tr_iret0 hX hS dX2_versesOf_48
  · refine tr_aload_n 0 hX dX2_versesOf_12 rfl rfl ?_
    refine tr_getF hX dX2_versesOf_13 sh_154 (by decide) rfl inlX2 (by decide) rfl (hS.g (Nat.le_of_ble_eq_true rfl)) cr_154_1 k_6_3 mq_154 ?_
    refine tr_iload_n 3 hX dX2_versesOf_16 rfl rfl ?_
    refine tr_zald hX dX2_versesOf_17 sh_155 (hS.e (Nat.le_of_ble_eq_true rfl)) (fun hb3 v2 => ?_)
    refine tr_if_eq 41 hX dX2_versesOf_18 (by decide) (fun c8 => ?_) (fun c8 => ?_)
    · exact tr_sub [0, 1, 2, 3] rfl (t_X2_versesOf_41 hX hS s4 x1 x2 x3 hs4)
    · refine tr_iload_n 1 hX dX2_versesOf_21 rfl rfl ?_
      refine tr_iload_n 3 hX dX2_versesOf_22 rfl rfl ?_
      refine tr_ishr hX dX2_versesOf_23 ?_
      refine tr_iconst 1 hX dX2_versesOf_24 (by decide) ?_
      refine tr_iand hX dX2_versesOf_25 ?_
      refine tr_iconst 1 hX dX2_versesOf_26 (by decide) ?_
      refine tr_ic_ne 41 hX dX2_versesOf_27 (by decide) (fun c7 => ?_) (fun c7 => ?_)
      · refine tr_iload_n 2 hX dX2_versesOf_30 rfl rfl ?_
        refine tr_iconst 1 hX dX2_versesOf_31 (by decide) ?_
        refine tr_aload_n 0 hX dX2_versesOf_32 rfl rfl ?_
        refine tr_getF hX dX2_versesOf_33 sh_154 (by decide) rfl inlX2 (by decide) rfl (hS.g (Nat.le_of_ble_eq_true rfl)) cr_154_3 k_6_5 mq_154 ?_
        refine tr_iload_n 3 hX dX2_versesOf_36 rfl rfl ?_
        refine tr_iald hX dX2_versesOf_37 sh_157 (hS.e (Nat.le_of_ble_eq_true rfl)) (fun hb5 v4 => ?_)
        refine tr_ishl hX dX2_versesOf_38 ?_
        refine tr_ior hX dX2_versesOf_39 ?_
        refine tr_nm (fun v6 ev6 => ?_)
        refine tr_istore_n hX dX2_versesOf_40 rfl (hS.n (by decide)) rfl ?_
        exact tr_sub [1, 2, 0, 3] rfl (t_X2_versesOf_41 hX hS s4 x1 v6 x3 hs4)
      · exact tr_sub [0, 1, 2, 3] rfl (t_X2_versesOf_41 hX hS s4 x1 x2 x3 hs4)
def f_X2_versesOf (x1 : Int32) : M Int32 :=
  fix2 FU (f_X2_versesOf_4 x1) 0 0
set_option maxRecDepth 10000 in
set_option maxHeartbeats 4000000 in
theorem t_X2_versesOf_0 {X : Cx} (hX : Good X RX2 cX2_versesOf ((some .int))) (hS : Sta X 0 0 4) (x1 : Int32) : Tr X eI 0 0 0 [(0, .ref (cxAd X 154)), (1, .int x1)] [] (f_X2_versesOf x1) := by
  unfold f_X2_versesOf
  refine tr_iconst 0 hX dX2_versesOf_0 (by decide) ?_
  refine tr_istore_n hX dX2_versesOf_1 rfl (hS.n (by decide)) rfl ?_
  refine tr_iconst 0 hX dX2_versesOf_2 (by decide) ?_
  refine tr_istore_n hX dX2_versesOf_3 rfl (hS.n (by decide)) rfl ?_
  exact tr_sub [2, 3, 1, 0] rfl (tr_fix2 (lvf := fun x2 x3 => [(0, .ref (cxAd X 154)), (1, .int x1), (2, .int x2), (3, .int x3)]) (t_X2_versesOf_4 hX hS x1) FU 0 0)
theorem ok_X2_versesOf {l : Launch} {E : Ev} (x1 : Int32)  : Ok l E Gall yX2_versesOf cX2_versesOf 4 ((some .int)) (rmz 0 0) eI [.ref (E.2.1 154), .int x1] (f_X2_versesOf x1) := by
  refine ok_of0 (by decide) (Nat.le_of_ble_eq_true rfl) (fun X hX hV hS => ?_)
  subst hV
  exact t_X2_versesOf_0 hX hS x1
def f_X2_lowestWith_40 (s2 : Int32 → M Int32) (x1 : Int32) (x2 : Int32) (x3 : Int32) : M Int32 :=
  s2 (x3 + 1)
set_option maxRecDepth 10000 in
set_option maxHeartbeats 4000000 in
theorem t_X2_lowestWith_40 {X : Cx} (hX : Good X RX2 cX2_lowestWith ((some .int))) (hS : Sta X 0 0 4) (s2 : Int32 → M Int32) (x1 : Int32) (x2 : Int32) (x3 : Int32) (hs2 : ∀ x3 : Int32, Tr X eI 0 0 2 [(0, .ref (cxAd X 154)), (1, .int x1), (2, .int x2), (3, .int x3)] [] (s2 x3)) : Tr X eI 0 0 40 [(0, .ref (cxAd X 154)), (1, .int x1), (2, .int x2), (3, .int x3)] [] (f_X2_lowestWith_40 s2 x1 x2 x3) := by
  unfold f_X2_lowestWith_40
  refine tr_iinc (x3 + 1) 3 hX dX2_lowestWith_40 rfl (congrArg (fun z => x3 + z) (by decide)) (hS.n (by decide)) rfl ?_
  refine tr_goto 2 hX dX2_lowestWith_43 (by decide) ?_
  exact tr_sub [1, 2, 3, 0] rfl (hs2 (x3 + 1))
def f_X2_lowestWith_2 (x1 : Int32) (x2 : Int32) (s2 : Int32 → M Int32) (x3 : Int32) : M Int32 :=
  rI 154 0 (fun v1 => if v1 ≤ x3 then (rt (-4)) else (aI 155 16 x3 (fun v2 => if v2 = 0 then (f_X2_lowestWith_40 s2 x1 x2 x3) else (if ((x1 >>> (x3 &&& 31)) &&& 1) = 1 then (aI 157 16 x3 (fun v4 => if v4 = x2 then (rt x3) else (f_X2_lowestWith_40 s2 x1 x2 x3))) else (f_X2_lowestWith_40 s2 x1 x2 x3)))))
set_option maxRecDepth 10000 in
set_option maxHeartbeats 4000000 in
theorem t_X2_lowestWith_2 {X : Cx} (hX : Good X RX2 cX2_lowestWith ((some .int))) (hS : Sta X 0 0 4) (x1 : Int32) (x2 : Int32) : ∀ s2 : Int32 → M Int32, (∀ x3 : Int32, Tr X eI 0 0 2 [(0, .ref (cxAd X 154)), (1, .int x1), (2, .int x2), (3, .int x3)] [] (s2 x3)) → ∀ x3 : Int32, Tr X eI 0 0 2 [(0, .ref (cxAd X 154)), (1, .int x1), (2, .int x2), (3, .int x3)] [] (f_X2_lowestWith_2 x1 x2 s2 x3) := by
  intro s2 hs2 x3
  unfold f_X2_lowestWith_2
  refine tr_iload_n 3 hX dX2_lowestWith_2 rfl rfl ?_
  refine tr_aload_n 0 hX dX2_lowestWith_3 rfl rfl ?_
  refine tr_getI hX dX2_lowestWith_4 sh_154 (by decide) rfl inlX2 (by decide) rfl (hS.e (Nat.le_of_ble_eq_true rfl)) k_33_6 (fun v1 => ?_)
  refine tr_ic_ge 46 hX dX2_lowestWith_7 (by decide) (fun c9 => ?_) (fun c9 => ?_)
  · refine tr_bipush (-4) hX dX2_lowestWith_46 (by decide) ?_
    exact tr_iret0 hX hS dX2_lowestWith_48
  · refine tr_aload_n 0 hX dX2_lowestWith_10 rfl rfl ?_
    refine tr_getF hX dX2_lowestWith_11 sh_154 (by decide) rfl inlX2 (by decide) rfl (hS.g (Nat.le_of_ble_eq_true rfl)) cr_154_1 k_6_3 mq_154 ?_
    refine tr_iload_n 3 hX dX2_lowestWith_14 rfl rfl ?_
    refine tr_zald hX dX2_lowestWith_15 sh_155 (hS.e (Nat.le_of_ble_eq_true rfl)) (fun hb3 v2 => ?_)
    refine tr_if_eq 40 hX dX2_lowestWith_16 (by decide) (fun c8 => ?_) (fun c8 => ?_)
    · exact tr_sub [0, 1, 2, 3] rfl (t_X2_lowestWith_40 hX hS s2 x1 x2 x3 hs2)
    · refine tr_iload_n 1 hX dX2_lowestWith_19 rfl rfl ?_
      refine tr_iload_n 3 hX dX2_lowestWith_20 rfl rfl ?_
      refine tr_ishr hX dX2_lowestWith_21 ?_
      refine tr_iconst 1 hX dX2_lowestWith_22 (by decide) ?_
      refine tr_iand hX dX2_lowestWith_23 ?_
      refine tr_iconst 1 hX dX2_lowestWith_24 (by decide) ?_
      refine tr_ic_ne 40 hX dX2_lowestWith_25 (by decide) (fun c7 => ?_) (fun c7 => ?_)
      · refine tr_aload_n 0 hX dX2_lowestWith_28 rfl rfl ?_
        refine tr_getF hX dX2_lowestWith_29 sh_154 (by decide) rfl inlX2 (by decide) rfl (hS.g (Nat.le_of_ble_eq_true rfl)) cr_154_3 k_6_5 mq_154 ?_
        refine tr_iload_n 3 hX dX2_lowestWith_32 rfl rfl ?_
        refine tr_iald hX dX2_lowestWith_33 sh_157 (hS.e (Nat.le_of_ble_eq_true rfl)) (fun hb5 v4 => ?_)
        refine tr_iload_n 2 hX dX2_lowestWith_34 rfl rfl ?_
        refine tr_ic_ne 40 hX dX2_lowestWith_35 (by decide) (fun c6 => ?_) (fun c6 => ?_)
        · refine tr_iload_n 3 hX dX2_lowestWith_38 rfl rfl ?_
          exact tr_iret0 hX hS dX2_lowestWith_39
        · exact tr_sub [0, 1, 2, 3] rfl (t_X2_lowestWith_40 hX hS s2 x1 x2 x3 hs2)
      · exact tr_sub [0, 1, 2, 3] rfl (t_X2_lowestWith_40 hX hS s2 x1 x2 x3 hs2)
def f_X2_lowestWith (x1 : Int32) (x2 : Int32) : M Int32 :=
  fix1 FU (f_X2_lowestWith_2 x1 x2) 0
set_option maxRecDepth 10000 in
set_option maxHeartbeats 4000000 in
theorem t_X2_lowestWith_0 {X : Cx} (hX : Good X RX2 cX2_lowestWith ((some .int))) (hS : Sta X 0 0 4) (x1 : Int32) (x2 : Int32) : Tr X eI 0 0 0 [(0, .ref (cxAd X 154)), (1, .int x1), (2, .int x2)] [] (f_X2_lowestWith x1 x2) := by
  unfold f_X2_lowestWith
  refine tr_iconst 0 hX dX2_lowestWith_0 (by decide) ?_
  refine tr_istore_n hX dX2_lowestWith_1 rfl (hS.n (by decide)) rfl ?_
  exact tr_sub [1, 2, 3, 0] rfl (tr_fix1 (lvf := fun x3 => [(0, .ref (cxAd X 154)), (1, .int x1), (2, .int x2), (3, .int x3)]) (t_X2_lowestWith_2 hX hS x1 x2) FU 0)
theorem ok_X2_lowestWith {l : Launch} {E : Ev} (x1 : Int32) (x2 : Int32)  : Ok l E Gall yX2_lowestWith cX2_lowestWith 4 ((some .int)) (rmz 0 0) eI [.ref (E.2.1 154), .int x1, .int x2] (f_X2_lowestWith x1 x2) := by
  refine ok_of0 (by decide) (Nat.le_of_ble_eq_true rfl) (fun X hX hV hS => ?_)
  subst hV
  exact t_X2_lowestWith_0 hX hS x1 x2
def f_X7_begin_7 (s7 : Int32 → M Unit) (x2 : Int32) : M Unit :=
  if 8 ≤ x2 then (rt ()) else (sI 74 8 x2 0 (sI 120 8 x2 0 (s7 (x2 + 1))))
set_option maxRecDepth 10000 in
set_option maxHeartbeats 4000000 in
theorem t_X7_begin_7 {X : Cx} (hX : Good X RX7 cX7_begin (none)) (hS : Sta X 0 0 3) : ∀ s7 : Int32 → M Unit, (∀ x2 : Int32, Tr X eU 0 0 7 [(0, .ref (cxAd X 73)), (2, .int x2)] [] (s7 x2)) → ∀ x2 : Int32, Tr X eU 0 0 7 [(0, .ref (cxAd X 73)), (2, .int x2)] [] (f_X7_begin_7 s7 x2) := by
  intro s7 hs7 x2
  unfold f_X7_begin_7
  refine tr_iload_n 1 hX dX7_begin_7 rfl rfl ?_
  refine tr_bipush 8 hX dX7_begin_8 (by decide) ?_
  refine tr_ic_ge 33 hX dX7_begin_10 (by decide) (fun c1 => ?_) (fun c1 => ?_)
  · exact tr_vret0 hX hS dX7_begin_33
  · refine tr_aload_n 0 hX dX7_begin_13 rfl rfl ?_
    refine tr_getF hX dX7_begin_14 sh_73 (by decide) rfl inlX7 (by decide) rfl (hS.g (Nat.le_of_ble_eq_true rfl)) cr_73_1 k_5_4 mq_73 ?_
    refine tr_iload_n 1 hX dX7_begin_17 rfl rfl ?_
    refine tr_iconst 0 hX dX7_begin_18 (by decide) ?_
    refine tr_iast hX dX7_begin_19 sh_74 (hS.e (Nat.le_of_ble_eq_true rfl)) (fun _ => ?_)
    refine tr_aload_n 0 hX dX7_begin_20 rfl rfl ?_
    refine tr_getF hX dX7_begin_21 sh_73 (by decide) rfl inlX7 (by decide) rfl (hS.g (Nat.le_of_ble_eq_true rfl)) cr_73_7 k_5_11 mq_73 ?_
    refine tr_iload_n 1 hX dX7_begin_24 rfl rfl ?_
    refine tr_iconst 0 hX dX7_begin_25 (by decide) ?_
    refine tr_iast hX dX7_begin_26 sh_120 (hS.e (Nat.le_of_ble_eq_true rfl)) (fun _ => ?_)
    refine tr_iinc (x2 + 1) 1 hX dX7_begin_27 rfl (congrArg (fun z => x2 + z) (by decide)) (hS.n (by decide)) rfl ?_
    refine tr_goto 7 hX dX7_begin_30 (by decide) ?_
    exact tr_sub [1, 0] rfl (hs7 (x2 + 1))
def f_X7_begin (x1 : Nat) : M Unit :=
  wR 73 0 x1 (fix1 FU (f_X7_begin_7) 0)
set_option maxRecDepth 10000 in
set_option maxHeartbeats 4000000 in
theorem t_X7_begin_0 {X : Cx} (hX : Good X RX7 cX7_begin (none)) (hS : Sta X 0 0 3) (x1 : Nat) (hx1 : isT x1) : Tr X eU 0 0 0 [(0, .ref (cxAd X 73)), (1, .ref (cxAd X x1))] [] (f_X7_begin x1) := by
  unfold f_X7_begin
  refine tr_aload_n 0 hX dX7_begin_0 rfl rfl ?_
  refine tr_aload_n 1 hX dX7_begin_1 rfl rfl ?_
  refine tr_putT hX dX7_begin_2 sh_73 (by decide) rfl inlX7 tyX7 tyX7_ok nmX7 (by decide) rfl (hS.e (Nat.le_of_ble_eq_true rfl)) k_5_16 rfl rfl rfl rfl (by decide) ?_
  refine tr_iconst 0 hX dX7_begin_5 (by decide) ?_
  refine tr_istore_n hX dX7_begin_6 rfl (hS.n (by decide)) rfl ?_
  exact tr_sub [1, 0] rfl (tr_fix1 (lvf := fun x2 => [(0, .ref (cxAd X 73)), (2, .int x2)]) (t_X7_begin_7 hX hS) FU 0)
theorem ok_X7_begin {l : Launch} {E : Ev} (x1 : Nat) (hx1 : isT x1) : Ok l E Gall yX7_begin cX7_begin 3 (none) (rmz 0 0) eU [.ref (E.2.1 73), .ref (E.2.1 x1)] (f_X7_begin x1) := by
  refine ok_of0 (by decide) (Nat.le_of_ble_eq_true rfl) (fun X hX hV hS => ?_)
  subst hV
  exact t_X7_begin_0 hX hS x1 hx1
def f_X3_begin (x1 : Nat) (x2 : Int32) : M Unit :=
  wI 53 4 x2 (rI x1 0 (fun v1 => wI 53 3 v1 (bnd (f_X7_begin x1) (fun _ => rt ()))))
set_option maxRecDepth 10000 in
set_option maxHeartbeats 4000000 in
theorem t_X3_begin_0 {X : Cx} (hX : Good X RX3 cX3_begin (none)) (hS : Sta X 1 22 3) (x1 : Nat) (x2 : Int32) (hx1 : isT x1) : Tr X eU 0 0 0 [(0, .ref (cxAd X 53)), (1, .ref (cxAd X x1)), (2, .int x2)] [] (f_X3_begin x1 x2) := by
  unfold f_X3_begin
  refine tr_aload_n 0 hX dX3_begin_0 rfl rfl ?_
  refine tr_iload_n 2 hX dX3_begin_1 rfl rfl ?_
  refine tr_putI hX dX3_begin_2 sh_53 (by decide) rfl inlX3 tyX3 tyX3_ok nmX3 (by decide) rfl (hS.e (Nat.le_of_ble_eq_true rfl)) k_20_1 rfl rfl rfl rfl ?_
  refine tr_aload_n 0 hX dX3_begin_5 rfl rfl ?_
  refine tr_aload_n 1 hX dX3_begin_6 rfl rfl ?_
  refine tr_getI hX dX3_begin_7 (shT hx1) (by decide) rfl inlX6 (by decide) rfl (hS.e (leT hx1)) k_20_2 (fun v1 => ?_)
  refine tr_putI hX dX3_begin_10 sh_53 (by decide) rfl inlX3 tyX3 tyX3_ok nmX3 (by decide) rfl (hS.e (Nat.le_of_ble_eq_true rfl)) k_20_3 rfl rfl rfl rfl ?_
  refine tr_aload_n 0 hX dX3_begin_13 rfl rfl ?_
  refine tr_getF hX dX3_begin_14 sh_53 (by decide) rfl inlX3 (by decide) rfl (hS.g (Nat.le_of_ble_eq_true rfl)) cr_53_0 k_4_23 mq_53 ?_
  refine tr_aload_n 1 hX dX3_begin_17 rfl rfl ?_
  refine tr_callV0U (st := []) 1 hX hS dX3_begin_18 (ok_X7_begin x1 hx1) sh_73 (by decide) rfl (Nat.le_of_ble_eq_true rfl) k_20_4 k_20_5 k_20_6 k_4_22 k_20_7 hy_X7_begin rfl rfl (Nat.le_of_ble_eq_true rfl) rfl (fun _ => ?_)
  exact tr_vret0 hX hS dX3_begin_21
theorem ok_X3_begin {l : Launch} {E : Ev} (x1 : Nat) (x2 : Int32) (hx1 : isT x1) : Ok l E Gall yX3_begin cX3_begin 3 (none) (rmz 1 22) eU [.ref (E.2.1 53), .ref (E.2.1 x1), .int x2] (f_X3_begin x1 x2) := by
  refine ok_of0 (by decide) (Nat.le_of_ble_eq_true rfl) (fun X hX hV hS => ?_)
  subst hV
  exact t_X3_begin_0 hX hS x1 x2 hx1
def f_X7_rightHalves_123 (s15 : Int32 → Int32 → M Int32) (x1 : Int32) (x2 : Int32) (x5 : Int32) (x7 : Int32) (p0 : Int32) (p1 : Int32) : M Int32 :=
  nm ((p1 ||| p0)) (fun v1 => s15 v1 (x7 + 1))
set_option maxRecDepth 10000 in
set_option maxHeartbeats 4000000 in
theorem t_X7_rightHalves_123 {X : Cx} (hX : Good X RX7 cX7_rightHalves ((some .int))) (hS : Sta X 0 0 10) (s15 : Int32 → Int32 → M Int32) (x1 : Int32) (x2 : Int32) (x5 : Int32) (x7 : Int32) (p0 : Int32) (p1 : Int32) (hs15 : ∀ x6 : Int32, ∀ x7 : Int32, Tr X eI 0 0 15 [(0, .ref (cxAd X 73)), (1, .int x1), (2, .int x2), (5, .int x5), (6, .int x6), (7, .int x7)] [] (s15 x6 x7)) : Tr X eI 0 0 123 [(0, .ref (cxAd X 73)), (1, .int x1), (2, .int x2), (5, .int x5), (7, .int x7)] [.int p0, .int p1] (f_X7_rightHalves_123 s15 x1 x2 x5 x7 p0 p1) := by
  unfold f_X7_rightHalves_123
  refine tr_ior hX dX7_rightHalves_123 ?_
  refine tr_nm (fun v1 ev1 => ?_)
  refine tr_istore hX dX7_rightHalves_124 (hS.n (by decide)) rfl ?_
  refine tr_iinc (x7 + 1) 5 hX dX7_rightHalves_126 rfl (congrArg (fun z => x7 + z) (by decide)) (hS.n (by decide)) rfl ?_
  refine tr_goto 15 hX dX7_rightHalves_129 (by decide) ?_
  exact tr_sub [2, 3, 4, 5, 1, 0] rfl (hs15 v1 (x7 + 1))
def f_X7_rightHalves_106 (s15 : Int32 → Int32 → M Int32) (x1 : Int32) (x2 : Int32) (x5 : Int32) (x6 : Int32) (x7 : Int32) (p0 : Int32) : M Int32 :=
  if p0 = 0 then (f_X7_rightHalves_123 s15 x1 x2 x5 x7 0 x6) else (f_X7_rightHalves_123 s15 x1 x2 x5 x7 (1 <<< (x7 &&& 31)) x6)
set_option maxRecDepth 10000 in
set_option maxHeartbeats 4000000 in
theorem t_X7_rightHalves_106 {X : Cx} (hX : Good X RX7 cX7_rightHalves ((some .int))) (hS : Sta X 0 0 10) (s15 : Int32 → Int32 → M Int32) (x1 : Int32) (x2 : Int32) (x5 : Int32) (x6 : Int32) (x7 : Int32) (p0 : Int32) (hs15 : ∀ x6 : Int32, ∀ x7 : Int32, Tr X eI 0 0 15 [(0, .ref (cxAd X 73)), (1, .int x1), (2, .int x2), (5, .int x5), (6, .int x6), (7, .int x7)] [] (s15 x6 x7)) : Tr X eI 0 0 106 [(0, .ref (cxAd X 73)), (1, .int x1), (2, .int x2), (5, .int x5), (6, .int x6), (7, .int x7)] [.int p0] (f_X7_rightHalves_106 s15 x1 x2 x5 x6 x7 p0) := by
  unfold f_X7_rightHalves_106
  refine tr_istore hX dX7_rightHalves_106 (hS.n (by decide)) rfl ?_
  refine tr_iload 5 hX dX7_rightHalves_108 rfl ?_
  refine tr_iload 0 hX dX7_rightHalves_110 rfl ?_
  refine tr_if_eq 122 hX dX7_rightHalves_112 (by decide) (fun c1 => ?_) (fun c1 => ?_)
  · refine tr_iconst 0 hX dX7_rightHalves_122 (by decide) ?_
    exact tr_sub [1, 2, 3, 4, 6] rfl (t_X7_rightHalves_123 hX hS s15 x1 x2 x5 x7 0 x6 hs15)
  · refine tr_iconst 1 hX dX7_rightHalves_115 (by decide) ?_
    refine tr_iload 6 hX dX7_rightHalves_116 rfl ?_
    refine tr_ishl hX dX7_rightHalves_118 ?_
    refine tr_goto 123 hX dX7_rightHalves_119 (by decide) ?_
    exact tr_sub [1, 2, 3, 4, 6] rfl (t_X7_rightHalves_123 hX hS s15 x1 x2 x5 x7 (1 <<< (x7 &&& 31)) x6 hs15)
def f_X7_rightHalves_15 (x1 : Int32) (x2 : Int32) (x5 : Int32) (s15 : Int32 → Int32 → M Int32) (x6 : Int32) (x7 : Int32) : M Int32 :=
  aI 120 8 x1 (fun v1 => if v1 ≤ x7 then (rt x6) else (gd (inb x1 8) (aI (130 + 1 + x1.toNatClampNeg) 3 x7 (fun v4 => gd (¬ (8 : Int32) = 0) (nm ((v4 - v4 / 8 * 8)) (fun v6 => gd (inb x1 8) (aI (121 + 1 + x1.toNatClampNeg) 3 x7 (fun v8 => if v8 = x2 then (rT 73 0 (fun t10 => aI (t10 + 6) 289 x5 (fun v11 => gd (inb x1 8) (aI (130 + 1 + x1.toNatClampNeg) 3 x7 (fun v14 => if v11 = (v14 - v6) then (f_X7_rightHalves_106 s15 x1 x2 x5 x6 x7 1) else (f_X7_rightHalves_106 s15 x1 x2 x5 x6 x7 0)))))) else (rT 73 0 (fun t17 => aI (t17 + 7) 289 x5 (fun v18 => if v18 = v6 then (f_X7_rightHalves_106 s15 x1 x2 x5 x6 x7 1) else (f_X7_rightHalves_106 s15 x1 x2 x5 x6 x7 0))))))))))))
set_option maxRecDepth 10000 in
set_option maxHeartbeats 4000000 in
theorem t_X7_rightHalves_15 {X : Cx} (hX : Good X RX7 cX7_rightHalves ((some .int))) (hS : Sta X 0 0 10) (x1 : Int32) (x2 : Int32) (x5 : Int32) : ∀ s15 : Int32 → Int32 → M Int32, (∀ x6 : Int32, ∀ x7 : Int32, Tr X eI 0 0 15 [(0, .ref (cxAd X 73)), (1, .int x1), (2, .int x2), (5, .int x5), (6, .int x6), (7, .int x7)] [] (s15 x6 x7)) → ∀ x6 : Int32, ∀ x7 : Int32, Tr X eI 0 0 15 [(0, .ref (cxAd X 73)), (1, .int x1), (2, .int x2), (5, .int x5), (6, .int x6), (7, .int x7)] [] (f_X7_rightHalves_15 x1 x2 x5 s15 x6 x7) := by
  intro s15 hs15 x6 x7
  unfold f_X7_rightHalves_15
  refine tr_iload 5 hX dX7_rightHalves_15 rfl ?_
  refine tr_aload_n 0 hX dX7_rightHalves_17 rfl rfl ?_
  refine tr_getF hX dX7_rightHalves_18 sh_73 (by decide) rfl inlX7 (by decide) rfl (hS.g (Nat.le_of_ble_eq_true rfl)) cr_73_7 k_5_11 mq_73 ?_
  refine tr_iload_n 1 hX dX7_rightHalves_21 rfl rfl ?_
  refine tr_iald hX dX7_rightHalves_22 sh_120 (hS.e (Nat.le_of_ble_eq_true rfl)) (fun hb2 v1 => ?_)
  refine tr_ic_ge 132 hX dX7_rightHalves_23 (by decide) (fun c22 => ?_) (fun c22 => ?_)
  · refine tr_iload 4 hX dX7_rightHalves_132 rfl ?_
    exact tr_iret0 hX hS dX7_rightHalves_134
  · refine tr_aload_n 0 hX dX7_rightHalves_26 rfl rfl ?_
    refine tr_getF hX dX7_rightHalves_27 sh_73 (by decide) rfl inlX7 (by decide) rfl (hS.g (Nat.le_of_ble_eq_true rfl)) cr_73_9 k_5_13 mq_73 ?_
    refine tr_iload_n 1 hX dX7_rightHalves_30 rfl rfl ?_
    refine tr_aald hX dX7_rightHalves_31 sh_130 (hS.e (Nat.le_of_ble_eq_true rfl)) (fun hb3 => ?_)
    refine tr_iload 5 hX dX7_rightHalves_32 rfl ?_
    refine tr_iald hX dX7_rightHalves_34 (row_130 hb3).1 (hS.e (row_130 hb3).2) (fun hb5 v4 => ?_)
    refine tr_bipush 8 hX dX7_rightHalves_35 (by decide) ?_
    refine tr_irem hX dX7_rightHalves_37 (fun _ => ?_)
    refine tr_nm (fun v6 ev6 => ?_)
    refine tr_istore hX dX7_rightHalves_38 (hS.n (by decide)) rfl ?_
    refine tr_aload_n 1 hX dX7_rightHalves_40 rfl rfl ?_
    refine tr_getF hX dX7_rightHalves_41 sh_73 (by decide) rfl inlX7 (by decide) rfl (hS.g (Nat.le_of_ble_eq_true rfl)) cr_73_8 k_5_12 mq_73 ?_
    refine tr_iload_n 2 hX dX7_rightHalves_44 rfl rfl ?_
    refine tr_aald hX dX7_rightHalves_45 sh_121 (hS.e (Nat.le_of_ble_eq_true rfl)) (fun hb7 => ?_)
    refine tr_iload 6 hX dX7_rightHalves_46 rfl ?_
    refine tr_iald hX dX7_rightHalves_48 (row_121 hb7).1 (hS.e (row_121 hb7).2) (fun hb9 v8 => ?_)
    refine tr_iload_n 3 hX dX7_rightHalves_49 rfl rfl ?_
    refine tr_ic_ne 86 hX dX7_rightHalves_50 (by decide) (fun c21 => ?_) (fun c21 => ?_)
    · refine tr_aload_n 1 hX dX7_rightHalves_53 rfl rfl ?_
      refine tr_getT hX dX7_rightHalves_54 sh_73 (by decide) rfl inlX7 (by decide) rfl (hS.e (Nat.le_of_ble_eq_true rfl)) k_5_16 (fun t10 ht10 => ?_)
      refine tr_getF hX dX7_rightHalves_57 (shT ht10) (by decide) rfl inlX6 (by decide) rfl (hS.g (leT ht10)) (crT_6 ht10) k_22_11 (mqT ht10) ?_
      refine tr_iload 4 hX dX7_rightHalves_60 rfl ?_
      refine tr_iald hX dX7_rightHalves_62 (shT_6 ht10) (hS.e (leT_6 ht10)) (fun hb12 v11 => ?_)
      refine tr_aload_n 1 hX dX7_rightHalves_63 rfl rfl ?_
      refine tr_getF hX dX7_rightHalves_64 sh_73 (by decide) rfl inlX7 (by decide) rfl (hS.g (Nat.le_of_ble_eq_true rfl)) cr_73_9 k_5_13 mq_73 ?_
      refine tr_iload_n 2 hX dX7_rightHalves_67 rfl rfl ?_
      refine tr_aald hX dX7_rightHalves_68 sh_130 (hS.e (Nat.le_of_ble_eq_true rfl)) (fun hb13 => ?_)
      refine tr_iload 6 hX dX7_rightHalves_69 rfl ?_
      refine tr_iald hX dX7_rightHalves_71 (row_130 hb13).1 (hS.e (row_130 hb13).2) (fun hb15 v14 => ?_)
      refine tr_iload 0 hX dX7_rightHalves_72 rfl ?_
      refine tr_isub hX dX7_rightHalves_74 ?_
      refine tr_ic_ne 82 hX dX7_rightHalves_75 (by decide) (fun c16 => ?_) (fun c16 => ?_)
      · refine tr_iconst 1 hX dX7_rightHalves_78 (by decide) ?_
        refine tr_goto 106 hX dX7_rightHalves_79 (by decide) ?_
        exact tr_sub [1, 2, 3, 4, 5, 6] rfl (t_X7_rightHalves_106 hX hS s15 x1 x2 x5 x6 x7 1 hs15)
      · refine tr_iconst 0 hX dX7_rightHalves_82 (by decide) ?_
        refine tr_goto 106 hX dX7_rightHalves_83 (by decide) ?_
        exact tr_sub [1, 2, 3, 4, 5, 6] rfl (t_X7_rightHalves_106 hX hS s15 x1 x2 x5 x6 x7 0 hs15)
    · refine tr_aload_n 1 hX dX7_rightHalves_86 rfl rfl ?_
      refine tr_getT hX dX7_rightHalves_87 sh_73 (by decide) rfl inlX7 (by decide) rfl (hS.e (Nat.le_of_ble_eq_true rfl)) k_5_16 (fun t17 ht17 => ?_)
      refine tr_getF hX dX7_rightHalves_90 (shT ht17) (by decide) rfl inlX6 (by decide) rfl (hS.g (leT ht17)) (crT_7 ht17) k_22_12 (mqT ht17) ?_
      refine tr_iload 4 hX dX7_rightHalves_93 rfl ?_
      refine tr_iald hX dX7_rightHalves_95 (shT_7 ht17) (hS.e (leT_7 ht17)) (fun hb19 v18 => ?_)
      refine tr_iload 0 hX dX7_rightHalves_96 rfl ?_
      refine tr_ic_ne 105 hX dX7_rightHalves_98 (by decide) (fun c20 => ?_) (fun c20 => ?_)
      · refine tr_iconst 1 hX dX7_rightHalves_101 (by decide) ?_
        refine tr_goto 106 hX dX7_rightHalves_102 (by decide) ?_
        exact tr_sub [1, 2, 3, 4, 5, 6] rfl (t_X7_rightHalves_106 hX hS s15 x1 x2 x5 x6 x7 1 hs15)
      · refine tr_iconst 0 hX dX7_rightHalves_105 (by decide) ?_
        exact tr_sub [1, 2, 3, 4, 5, 6] rfl (t_X7_rightHalves_106 hX hS s15 x1 x2 x5 x6 x7 0 hs15)
def f_X7_rightHalves (x1 : Int32) (x2 : Int32) (x3 : Int32) (x4 : Int32) : M Int32 :=
  nm (((17 * x4) + x3)) (fun v1 => fix2 FU (f_X7_rightHalves_15 x1 x2 v1) 0 0)
set_option maxRecDepth 10000 in
set_option maxHeartbeats 4000000 in
theorem t_X7_rightHalves_0 {X : Cx} (hX : Good X RX7 cX7_rightHalves ((some .int))) (hS : Sta X 0 0 10) (x1 : Int32) (x2 : Int32) (x3 : Int32) (x4 : Int32) : Tr X eI 0 0 0 [(0, .ref (cxAd X 73)), (1, .int x1), (2, .int x2), (3, .int x3), (4, .int x4)] [] (f_X7_rightHalves x1 x2 x3 x4) := by
  unfold f_X7_rightHalves
  refine tr_bipush 17 hX dX7_rightHalves_0 (by decide) ?_
  refine tr_iload 4 hX dX7_rightHalves_2 rfl ?_
  refine tr_imul hX dX7_rightHalves_4 ?_
  refine tr_iload_n 3 hX dX7_rightHalves_5 rfl rfl ?_
  refine tr_iadd hX dX7_rightHalves_6 ?_
  refine tr_nm (fun v1 ev1 => ?_)
  refine tr_istore hX dX7_rightHalves_7 (hS.n (by decide)) rfl ?_
  refine tr_iconst 0 hX dX7_rightHalves_9 (by decide) ?_
  refine tr_istore hX dX7_rightHalves_10 (hS.n (by decide)) rfl ?_
  refine tr_iconst 0 hX dX7_rightHalves_12 (by decide) ?_
  refine tr_istore hX dX7_rightHalves_13 (hS.n (by decide)) rfl ?_
  exact tr_sub [3, 4, 5, 2, 1, 0] rfl (tr_fix2 (lvf := fun x6 x7 => [(0, .ref (cxAd X 73)), (1, .int x1), (2, .int x2), (5, .int v1), (6, .int x6), (7, .int x7)]) (t_X7_rightHalves_15 hX hS x1 x2 v1) FU 0 0)
theorem ok_X7_rightHalves {l : Launch} {E : Ev} (x1 : Int32) (x2 : Int32) (x3 : Int32) (x4 : Int32)  : Ok l E Gall yX7_rightHalves cX7_rightHalves 10 ((some .int)) (rmz 0 0) eI [.ref (E.2.1 73), .int x1, .int x2, .int x3, .int x4] (f_X7_rightHalves x1 x2 x3 x4) := by
  refine ok_of0 (by decide) (Nat.le_of_ble_eq_true rfl) (fun X hX hV hS => ?_)
  subst hV
  exact t_X7_rightHalves_0 hX hS x1 x2 x3 x4
