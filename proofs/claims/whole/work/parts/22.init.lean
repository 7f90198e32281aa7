/-! constructors -/
def StaW (X : Cx) (t fr lo nL : Nat) : Prop := cxG X = Gon t ∧ cxN X = nL ∧ cxMc X = 0 ∧ cxMs X = 0 ∧ cxR X = rmz fr lo ∧ cxQ X = stdQ X
theorem StaW.e {X : Cx} {t fr lo nL : Nat} (h : StaW X t fr lo nL) {q : Nat} (hq : q ≤ mx t) : Ex (cxG X) q := by rw [h.1]; exact ⟨t, rfl, hq⟩
theorem StaW.g {X : Cx} {t fr lo nL : Nat} (h : StaW X t fr lo nL) : cxG X t := by rw [h.1]; rfl
theorem StaW.n {X : Cx} {t fr lo nL : Nat} (h : StaW X t fr lo nL) {i : Nat} (hi : i < nL) : i < cxN X := by rw [h.2.1]; exact hi
theorem StaW.m {X : Cx} {t fr lo nL : Nat} (h : StaW X t fr lo nL) : cxMc X = 0 ∧ cxMs X = 0 := ⟨h.2.2.1, h.2.2.2.1⟩
theorem tr_vretW {X : Cx} {pc t fr lo nL : Nat} {lv : List (Nat × Value)} {own : String} {cc : ByteArray} (hX : Good X own cc none) (hS : StaW X t fr lo nL) (hd : decode cc pc = .ok (.return_, 1)) : Tr X eU 0 0 pc lv [] (rt ()) := by
  have h := tr_vret (lv := lv) hX hS.2.2.2.2.2 hd
  rw [hS.m.1, hS.m.2] at h
  exact h
theorem ok_ofW {l : Launch} {E : Ev} {y : MethodName} {cc : ByteArray} {maxL t fr lo : Nat} {ret : Option FieldType} {R : Type} {enc : R → Option Value} {av : List Value} {f : M R} (hy : plainName y.cls = true) (hav : (lg_sl av).length ≤ maxL)
    (h : ∀ X : Cx, Good X y.cls cc ret → cxV X = E → StaW X t fr lo maxL → Tr X enc 0 0 0 (lv_args 0 av) [] f) : Ok l E (Gon t) y cc maxL ret (rmz fr lo) enc av f :=
  ok_of hy hav (fun X hX _ hV hG hN hc hs hR hQ => h X hX hV ⟨hG, hN, hc, hs, hR, hQ⟩)
theorem lmT_1 {t : Nat} (h : isT t) : t + 1 ≤ mx t := by rcases h with rfl | rfl <;> decide
theorem lmT_2 {t : Nat} (h : isT t) : t + 2 ≤ mx t := by rcases h with rfl | rfl <;> decide
theorem lmT_3 {t : Nat} (h : isT t) : t + 3 ≤ mx t := by rcases h with rfl | rfl <;> decide
theorem lmT_4 {t : Nat} (h : isT t) : t + 4 ≤ mx t := by rcases h with rfl | rfl <;> decide
theorem lmT_5 {t : Nat} (h : isT t) : t + 5 ≤ mx t := by rcases h with rfl | rfl <;> decide
theorem lmT_6 {t : Nat} (h : isT t) : t + 6 ≤ mx t := by rcases h with rfl | rfl <;> decide
theorem lmT_7 {t : Nat} (h : isT t) : t + 7 ≤ mx t := by rcases h with rfl | rfl <;> decide
set_option maxRecDepth 10000 in
set_option maxHeartbeats 4000000 in
theorem tg_X6_forget_28 {X : Cx} (hX : Good X RX6 cX6_forget (none)) (x0 : Nat) (hS : StaW X x0 0 0 2) (hx0 : isT x0) : ∀ s28 : Int32 → M Unit, (∀ x1 : Int32, Tr X eU 0 0 28 [(0, .ref (cxAd X x0)), (1, .int x1)] [] (s28 x1)) → ∀ x1 : Int32, Tr X eU 0 0 28 [(0, .ref (cxAd X x0)), (1, .int x1)] [] (f_X6_forget_28 x0 s28 x1) := by
  intro s28 hs28 x1
  unfold f_X6_forget_28
  refine tr_iload_n 1 hX dX6_forget_28 rfl rfl ?_
  refine tr_iconst 5 hX dX6_forget_29 (by decide) ?_
  refine tr_ic_ge 46 hX dX6_forget_30 (by decide) (fun c1 => ?_) (fun c1 => ?_)
  · exact tr_vretW hX hS dX6_forget_46
  · refine tr_aload_n 0 hX dX6_forget_33 rfl rfl ?_
    refine tr_getF hX dX6_forget_34 (shT hx0) (by decide) rfl inlX6 (by decide) rfl hS.g (crT_5 hx0) k_3_13 (mqT hx0) ?_
    refine tr_iload_n 1 hX dX6_forget_37 rfl rfl ?_
    refine tr_iconst 1 hX dX6_forget_38 (by decide) ?_
    refine tr_iast hX dX6_forget_39 (shT_5 hx0) (hS.e (lmT_5 hx0)) (fun _ => ?_)
    refine tr_iinc (x1 + 1) 1 hX dX6_forget_40 rfl (congrArg (fun z => x1 + z) (by decide)) (hS.n (by decide)) rfl ?_
    refine tr_goto 28 hX dX6_forget_43 (by decide) ?_
    exact tr_sub [1, 0] rfl (hs28 (x1 + 1))
set_option maxRecDepth 10000 in
set_option maxHeartbeats 4000000 in
theorem tg_X6_forget_7 {X : Cx} (hX : Good X RX6 cX6_forget (none)) (x0 : Nat) (hS : StaW X x0 0 0 2) (hx0 : isT x0) : ∀ s7 : Int32 → M Unit, (∀ x1 : Int32, Tr X eU 0 0 7 [(0, .ref (cxAd X x0)), (1, .int x1)] [] (s7 x1)) → ∀ x1 : Int32, Tr X eU 0 0 7 [(0, .ref (cxAd X x0)), (1, .int x1)] [] (f_X6_forget_7 x0 s7 x1) := by
  intro s7 hs7 x1
  unfold f_X6_forget_7
  refine tr_iload_n 1 hX dX6_forget_7 rfl rfl ?_
  refine tr_bipush 64 hX dX6_forget_8 (by decide) ?_
  refine tr_ic_ge 26 hX dX6_forget_10 (by decide) (fun c1 => ?_) (fun c1 => ?_)
  · refine tr_iconst 0 hX dX6_forget_26 (by decide) ?_
    refine tr_istore_n hX dX6_forget_27 rfl (hS.n (by decide)) rfl ?_
    exact tr_sub [1, 0] rfl (tr_fix1 (lvf := fun x1 => [(0, .ref (cxAd X x0)), (1, .int x1)]) (tg_X6_forget_28 hX x0 hS hx0) FU 0)
  · refine tr_aload_n 0 hX dX6_forget_13 rfl rfl ?_
    refine tr_getF hX dX6_forget_14 (shT hx0) (by decide) rfl inlX6 (by decide) rfl hS.g (crT_4 hx0) k_3_12 (mqT hx0) ?_
    refine tr_iload_n 1 hX dX6_forget_17 rfl rfl ?_
    refine tr_iload_n 1 hX dX6_forget_18 rfl rfl ?_
    refine tr_iast hX dX6_forget_19 (shT_4 hx0) (hS.e (lmT_4 hx0)) (fun _ => ?_)
    refine tr_iinc (x1 + 1) 1 hX dX6_forget_20 rfl (congrArg (fun z => x1 + z) (by decide)) (hS.n (by decide)) rfl ?_
    refine tr_goto 7 hX dX6_forget_23 (by decide) ?_
    exact tr_sub [1, 0] rfl (hs7 (x1 + 1))
set_option maxRecDepth 10000 in
set_option maxHeartbeats 4000000 in
theorem tg_X6_forget_0 {X : Cx} (hX : Good X RX6 cX6_forget (none)) (x0 : Nat) (hS : StaW X x0 0 0 2) (hx0 : isT x0) : Tr X eU 0 0 0 [(0, .ref (cxAd X x0))] [] (f_X6_forget x0) := by
  unfold f_X6_forget
  refine tr_aload_n 0 hX dX6_forget_0 rfl rfl ?_
  refine tr_iconst 0 hX dX6_forget_1 (by decide) ?_
  refine tr_putI hX dX6_forget_2 (shT hx0) (by decide) rfl inlX6 tyX6 tyX6_ok nmX6 (by decide) rfl (hS.e (mqT hx0)) k_3_20 rfl rfl rfl rfl ?_
  refine tr_iconst 0 hX dX6_forget_5 (by decide) ?_
  refine tr_istore_n hX dX6_forget_6 rfl (hS.n (by decide)) rfl ?_
  exact tr_sub [1, 0] rfl (tr_fix1 (lvf := fun x1 => [(0, .ref (cxAd X x0)), (1, .int x1)]) (tg_X6_forget_7 hX x0 hS hx0) FU 0)
theorem okg_X6_forget {l : Launch} {E : Ev} (x0 : Nat) (hx0 : isT x0) : Ok l E (Gon x0) yX6_forget cX6_forget 2 (none) (rmz 0 0) eU [.ref (E.2.1 x0)] (f_X6_forget x0) := by
  refine ok_ofW (by decide) (Nat.le_of_ble_eq_true rfl) (fun X hX hV hS => ?_)
  subst hV
  exact tg_X6_forget_0 hX x0 hS hx0
set_option maxRecDepth 10000 in
set_option maxHeartbeats 4000000 in
theorem tg_X9_noItems_35 {X : Cx} (hX : Good X RX9 cX9_noItems (none)) (hS : StaW X 161 0 0 3) (x1 : Int32) : ∀ s35 : Int32 → M Unit, (∀ x2 : Int32, Tr X eU 0 0 35 [(0, .ref (cxAd X 161)), (1, .int x1), (2, .int x2)] [] (s35 x2)) → ∀ x2 : Int32, Tr X eU 0 0 35 [(0, .ref (cxAd X 161)), (1, .int x1), (2, .int x2)] [] (f_X9_noItems_35 x1 s35 x2) := by
  intro s35 hs35 x2
  unfold f_X9_noItems_35
  refine tr_iload_n 2 hX dX9_noItems_35 rfl rfl ?_
  refine tr_iconst 5 hX dX9_noItems_36 (by decide) ?_
  refine tr_ic_ge 57 hX dX9_noItems_37 (by decide) (fun c1 => ?_) (fun c1 => ?_)
  · exact tr_vretW hX hS dX9_noItems_57
  · refine tr_aload_n 0 hX dX9_noItems_40 rfl rfl ?_
    refine tr_getF hX dX9_noItems_41 sh_161 (by decide) rfl inlX9 (by decide) rfl hS.g cr_161_5 k_6_15 mq_161 ?_
    refine tr_iconst 5 hX dX9_noItems_44 (by decide) ?_
    refine tr_iload_n 1 hX dX9_noItems_45 rfl rfl ?_
    refine tr_imul hX dX9_noItems_46 ?_
    refine tr_iload_n 2 hX dX9_noItems_47 rfl rfl ?_
    refine tr_iadd hX dX9_noItems_48 ?_
    refine tr_iconst 1 hX dX9_noItems_49 (by decide) ?_
    refine tr_iast hX dX9_noItems_50 sh_166 (hS.e (Nat.le_of_ble_eq_true rfl)) (fun _ => ?_)
    refine tr_iinc (x2 + 1) 2 hX dX9_noItems_51 rfl (congrArg (fun z => x2 + z) (by decide)) (hS.n (by decide)) rfl ?_
    refine tr_goto 35 hX dX9_noItems_54 (by decide) ?_
    exact tr_sub [1, 2, 0] rfl (hs35 (x2 + 1))
set_option maxRecDepth 10000 in
set_option maxHeartbeats 4000000 in
theorem tg_X9_noItems_9 {X : Cx} (hX : Good X RX9 cX9_noItems (none)) (hS : StaW X 161 0 0 3) (x1 : Int32) : ∀ s9 : Int32 → M Unit, (∀ x2 : Int32, Tr X eU 0 0 9 [(0, .ref (cxAd X 161)), (1, .int x1), (2, .int x2)] [] (s9 x2)) → ∀ x2 : Int32, Tr X eU 0 0 9 [(0, .ref (cxAd X 161)), (1, .int x1), (2, .int x2)] [] (f_X9_noItems_9 x1 s9 x2) := by
  intro s9 hs9 x2
  unfold f_X9_noItems_9
  refine tr_iload_n 2 hX dX9_noItems_9 rfl rfl ?_
  refine tr_bipush 64 hX dX9_noItems_10 (by decide) ?_
  refine tr_ic_ge 33 hX dX9_noItems_12 (by decide) (fun c1 => ?_) (fun c1 => ?_)
  · refine tr_iconst 0 hX dX9_noItems_33 (by decide) ?_
    refine tr_istore_n hX dX9_noItems_34 rfl (hS.n (by decide)) rfl ?_
    exact tr_sub [1, 2, 0] rfl (tr_fix1 (lvf := fun x2 => [(0, .ref (cxAd X 161)), (1, .int x1), (2, .int x2)]) (tg_X9_noItems_35 hX hS x1) FU 0)
  · refine tr_aload_n 0 hX dX9_noItems_15 rfl rfl ?_
    refine tr_getF hX dX9_noItems_16 sh_161 (by decide) rfl inlX9 (by decide) rfl hS.g cr_161_4 k_6_14 mq_161 ?_
    refine tr_bipush 64 hX dX9_noItems_19 (by decide) ?_
    refine tr_iload_n 1 hX dX9_noItems_21 rfl rfl ?_
    refine tr_imul hX dX9_noItems_22 ?_
    refine tr_iload_n 2 hX dX9_noItems_23 rfl rfl ?_
    refine tr_iadd hX dX9_noItems_24 ?_
    refine tr_iload_n 2 hX dX9_noItems_25 rfl rfl ?_
    refine tr_iast hX dX9_noItems_26 sh_165 (hS.e (Nat.le_of_ble_eq_true rfl)) (fun _ => ?_)
    refine tr_iinc (x2 + 1) 2 hX dX9_noItems_27 rfl (congrArg (fun z => x2 + z) (by decide)) (hS.n (by decide)) rfl ?_
    refine tr_goto 9 hX dX9_noItems_30 (by decide) ?_
    exact tr_sub [1, 2, 0] rfl (hs9 (x2 + 1))
set_option maxRecDepth 10000 in
set_option maxHeartbeats 4000000 in
theorem tg_X9_noItems_0 {X : Cx} (hX : Good X RX9 cX9_noItems (none)) (hS : StaW X 161 0 0 3) (x1 : Int32) : Tr X eU 0 0 0 [(0, .ref (cxAd X 161)), (1, .int x1)] [] (f_X9_noItems x1) := by
  unfold f_X9_noItems
  refine tr_aload_n 0 hX dX9_noItems_0 rfl rfl ?_
  refine tr_getF hX dX9_noItems_1 sh_161 (by decide) rfl inlX9 (by decide) rfl hS.g cr_161_2 k_6_12 mq_161 ?_
  refine tr_iload_n 1 hX dX9_noItems_4 rfl rfl ?_
  refine tr_iconst 0 hX dX9_noItems_5 (by decide) ?_
  refine tr_iast hX dX9_noItems_6 sh_163 (hS.e (Nat.le_of_ble_eq_true rfl)) (fun _ => ?_)
  refine tr_iconst 0 hX dX9_noItems_7 (by decide) ?_
  refine tr_istore_n hX dX9_noItems_8 rfl (hS.n (by decide)) rfl ?_
  exact tr_sub [1, 2, 0] rfl (tr_fix1 (lvf := fun x2 => [(0, .ref (cxAd X 161)), (1, .int x1), (2, .int x2)]) (tg_X9_noItems_9 hX hS x1) FU 0)
theorem okg_X9_noItems {l : Launch} {E : Ev} (x1 : Int32)  : Ok l E (Gon 161) yX9_noItems cX9_noItems 3 (none) (rmz 0 0) eU [.ref (E.2.1 161), .int x1] (f_X9_noItems x1) := by
  refine ok_ofW (by decide) (Nat.le_of_ble_eq_true rfl) (fun X hX hV hS => ?_)
  subst hV
  exact tg_X9_noItems_0 hX hS x1
theorem df_X0 : ∀ j, j < 6 → defaultValue (tyX0 j) = (if (fkinds 0).getD j 9 = 0 then .int 0 else if (fkinds 0).getD j 9 = 1 then .long 0 else .null) := by decide
theorem df_X1 : ∀ j, j < 3 → defaultValue (tyX1 j) = (if (fkinds 1).getD j 9 = 0 then .int 0 else if (fkinds 1).getD j 9 = 1 then .long 0 else .null) := by decide
theorem df_X2 : ∀ j, j < 5 → defaultValue (tyX2 j) = (if (fkinds 2).getD j 9 = 0 then .int 0 else if (fkinds 2).getD j 9 = 1 then .long 0 else .null) := by decide
theorem df_X3 : ∀ j, j < 8 → defaultValue (tyX3 j) = (if (fkinds 3).getD j 9 = 0 then .int 0 else if (fkinds 3).getD j 9 = 1 then .long 0 else .null) := by decide
theorem df_X4 : ∀ j, j < 4 → defaultValue (tyX4 j) = (if (fkinds 4).getD j 9 = 0 then .int 0 else if (fkinds 4).getD j 9 = 1 then .long 0 else .null) := by decide
theorem df_X5 : ∀ j, j < 5 → defaultValue (tyX5 j) = (if (fkinds 5).getD j 9 = 0 then .int 0 else if (fkinds 5).getD j 9 = 1 then .long 0 else .null) := by decide
theorem df_X6 : ∀ j, j < 8 → defaultValue (tyX6 j) = (if (fkinds 6).getD j 9 = 0 then .int 0 else if (fkinds 6).getD j 9 = 1 then .long 0 else .null) := by decide
theorem df_X7 : ∀ j, j < 12 → defaultValue (tyX7 j) = (if (fkinds 7).getD j 9 = 0 then .int 0 else if (fkinds 7).getD j 9 = 1 then .long 0 else .null) := by decide
theorem df_X8 : ∀ j, j < 13 → defaultValue (tyX8 j) = (if (fkinds 8).getD j 9 = 0 then .int 0 else if (fkinds 8).getD j 9 = 1 then .long 0 else .null) := by decide
theorem df_X9 : ∀ j, j < 32 → defaultValue (tyX9 j) = (if (fkinds 9).getD j 9 = 0 then .int 0 else if (fkinds 9).getD j 9 = 1 then .long 0 else .null) := by decide
def fc_X4_init_1 : M Unit :=
  al 2 1 (gx 1 (wR 1 0 2 (al 3 1 (gx 1 (wR 1 3 3 (rt ()))))))
set_option maxRecDepth 10000 in
set_option maxHeartbeats 4000000 in
theorem tc_X4_init_1 {X : Cx} (hX : Good X RX4 cX4_init none) (hS : Stn X { frames := 1, cells := 2, slots := 304, locals := 12 } 1) : Tr X eU 0 0 0 [(0, .ref (cxAd X 1))] [] (fc_X4_init_1) := by
  unfold fc_X4_init_1
  refine tr_aload_n 0 hX dX4_init_0 rfl rfl ?_
  refine tr_oinit hX dX4_init_1 k_3_1 k_1_11 k_1_12 (by rw [hS.2.2.2.2.1]; exact Nat.le_of_ble_eq_true rfl) (by rw [hS.2.2.2.2.1]; exact Nat.le_of_ble_eq_true rfl) ?_
  refine tr_aload_n 0 hX dX4_init_4 rfl rfl ?_
  refine tr_sipush 300 hX dX4_init_5 (by decide) ?_
  refine tr_newb hX dX4_init_8 sh_2 k_3_2 (by decide) (by decide) (by decide) (by decide) (by rw [hS.2.2.2.2.1]; exact Nat.le_of_ble_eq_true rfl) (by rw [hS.2.2.2.2.1]; exact Nat.le_of_ble_eq_true rfl) ?_
  refine tr_putF hX dX4_init_10 sh_1 (by decide) rfl inlX4 tyX4 tyX4_ok nmX4 (by decide) rfl k_3_3 rfl hS.2.2.2.2.2.1 rfl rfl rfl rfl (by decide) hS.no ?_
  refine tr_aload_n 0 hX dX4_init_13 rfl rfl ?_
  refine tr_iconst 4 hX dX4_init_14 (by decide) ?_
  refine tr_newi hX dX4_init_15 sh_3 k_2_20 (by decide) (by decide) (by decide) (by decide) (by rw [hS.2.2.2.2.1]; exact Nat.le_of_ble_eq_true rfl) (by rw [hS.2.2.2.2.1]; exact Nat.le_of_ble_eq_true rfl) ?_
  refine tr_putF hX dX4_init_17 sh_1 (by decide) rfl inlX4 tyX4 tyX4_ok nmX4 (by decide) rfl k_3_4 rfl hS.2.2.2.2.2.1 rfl rfl rfl rfl (by decide) hS.no ?_
  exact tr_vretN hX hS dX4_init_20 rfl rfl
theorem okc_X4_init_1 {l : Launch} {E : Ev} : Ok l E Gno yX4_init cX4_init 1 none { frames := 1, cells := 2, slots := 304, locals := 12 } eU [.ref (E.2.1 1)] (fc_X4_init_1) := by
  refine ok_ofN (by decide) rfl (Nat.le_of_ble_eq_true rfl) (fun X hX hV hS => ?_)
  subst hV
  exact tc_X4_init_1 hX hS
def fc_X6_init_4 : M Unit :=
  al 5 1 (gx 4 (wR 4 1 5 (al 6 1 (gx 4 (wR 4 2 6 (al 7 1 (gx 4 (wR 4 3 7 (al 8 1 (gx 4 (wR 4 4 8 (al 9 1 (gx 4 (wR 4 5 9 (al 10 1 (gx 4 (wR 4 6 10 (al 11 1 (gx 4 (wR 4 7 11 (gw 4 (bnd (f_X6_forget 4) (fun _ => rt ())))))))))))))))))))))))
set_option maxRecDepth 10000 in
set_option maxHeartbeats 4000000 in
theorem tc_X6_init_4 {X : Cx} (hX : Good X RX6 cX6_init none) (hS : Stn X { frames := 1, cells := 7, slots := 695, locals := 21 } 1) : Tr X eU 0 0 0 [(0, .ref (cxAd X 4))] [] (fc_X6_init_4) := by
  unfold fc_X6_init_4
  refine tr_aload_n 0 hX dX6_init_0 rfl rfl ?_
  refine tr_oinit hX dX6_init_1 k_3_8 k_1_11 k_1_12 (by rw [hS.2.2.2.2.1]; exact Nat.le_of_ble_eq_true rfl) (by rw [hS.2.2.2.2.1]; exact Nat.le_of_ble_eq_true rfl) ?_
  refine tr_aload_n 0 hX dX6_init_4 rfl rfl ?_
  refine tr_bipush 16 hX dX6_init_5 (by decide) ?_
  refine tr_newi hX dX6_init_7 sh_5 k_2_20 (by decide) (by decide) (by decide) (by decide) (by rw [hS.2.2.2.2.1]; exact Nat.le_of_ble_eq_true rfl) (by rw [hS.2.2.2.2.1]; exact Nat.le_of_ble_eq_true rfl) ?_
  refine tr_putF hX dX6_init_9 sh_4 (by decide) rfl inlX6 tyX6 tyX6_ok nmX6 (by decide) rfl k_3_9 rfl hS.2.2.2.2.2.1 rfl rfl rfl rfl (by decide) hS.no ?_
  refine tr_aload_n 0 hX dX6_init_12 rfl rfl ?_
  refine tr_bipush 16 hX dX6_init_13 (by decide) ?_
  refine tr_newi hX dX6_init_15 sh_6 k_2_20 (by decide) (by decide) (by decide) (by decide) (by rw [hS.2.2.2.2.1]; exact Nat.le_of_ble_eq_true rfl) (by rw [hS.2.2.2.2.1]; exact Nat.le_of_ble_eq_true rfl) ?_
  refine tr_putF hX dX6_init_17 sh_4 (by decide) rfl inlX6 tyX6 tyX6_ok nmX6 (by decide) rfl k_3_10 rfl hS.2.2.2.2.2.1 rfl rfl rfl rfl (by decide) hS.no ?_
  refine tr_aload_n 0 hX dX6_init_20 rfl rfl ?_
  refine tr_bipush 16 hX dX6_init_21 (by decide) ?_
  refine tr_newi hX dX6_init_23 sh_7 k_2_20 (by decide) (by decide) (by decide) (by decide) (by rw [hS.2.2.2.2.1]; exact Nat.le_of_ble_eq_true rfl) (by rw [hS.2.2.2.2.1]; exact Nat.le_of_ble_eq_true rfl) ?_
  refine tr_putF hX dX6_init_25 sh_4 (by decide) rfl inlX6 tyX6 tyX6_ok nmX6 (by decide) rfl k_3_11 rfl hS.2.2.2.2.2.1 rfl rfl rfl rfl (by decide) hS.no ?_
  refine tr_aload_n 0 hX dX6_init_28 rfl rfl ?_
  refine tr_bipush 64 hX dX6_init_29 (by decide) ?_
  refine tr_newi hX dX6_init_31 sh_8 k_2_20 (by decide) (by decide) (by decide) (by decide) (by rw [hS.2.2.2.2.1]; exact Nat.le_of_ble_eq_true rfl) (by rw [hS.2.2.2.2.1]; exact Nat.le_of_ble_eq_true rfl) ?_
  refine tr_putF hX dX6_init_33 sh_4 (by decide) rfl inlX6 tyX6 tyX6_ok nmX6 (by decide) rfl k_3_12 rfl hS.2.2.2.2.2.1 rfl rfl rfl rfl (by decide) hS.no ?_
  refine tr_aload_n 0 hX dX6_init_36 rfl rfl ?_
  refine tr_iconst 5 hX dX6_init_37 (by decide) ?_
  refine tr_newi hX dX6_init_38 sh_9 k_2_20 (by decide) (by decide) (by decide) (by decide) (by rw [hS.2.2.2.2.1]; exact Nat.le_of_ble_eq_true rfl) (by rw [hS.2.2.2.2.1]; exact Nat.le_of_ble_eq_true rfl) ?_
  refine tr_putF hX dX6_init_40 sh_4 (by decide) rfl inlX6 tyX6 tyX6_ok nmX6 (by decide) rfl k_3_13 rfl hS.2.2.2.2.2.1 rfl rfl rfl rfl (by decide) hS.no ?_
  refine tr_aload_n 0 hX dX6_init_43 rfl rfl ?_
  refine tr_sipush 289 hX dX6_init_44 (by decide) ?_
  refine tr_newi hX dX6_init_47 sh_10 k_2_20 (by decide) (by decide) (by decide) (by decide) (by rw [hS.2.2.2.2.1]; exact Nat.le_of_ble_eq_true rfl) (by rw [hS.2.2.2.2.1]; exact Nat.le_of_ble_eq_true rfl) ?_
  refine tr_putF hX dX6_init_49 sh_4 (by decide) rfl inlX6 tyX6 tyX6_ok nmX6 (by decide) rfl k_3_14 rfl hS.2.2.2.2.2.1 rfl rfl rfl rfl (by decide) hS.no ?_
  refine tr_aload_n 0 hX dX6_init_52 rfl rfl ?_
  refine tr_sipush 289 hX dX6_init_53 (by decide) ?_
  refine tr_newi hX dX6_init_56 sh_11 k_2_20 (by decide) (by decide) (by decide) (by decide) (by rw [hS.2.2.2.2.1]; exact Nat.le_of_ble_eq_true rfl) (by rw [hS.2.2.2.2.1]; exact Nat.le_of_ble_eq_true rfl) ?_
  refine tr_putF hX dX6_init_58 sh_4 (by decide) rfl inlX6 tyX6 tyX6_ok nmX6 (by decide) rfl k_3_15 rfl hS.2.2.2.2.2.1 rfl rfl rfl rfl (by decide) hS.no ?_
  refine tr_aload_n 0 hX dX6_init_61 rfl rfl ?_
  refine tr_callVW (st := []) (As := []) (q := 4) 0 hX hS.no dX6_init_62 (okg_X6_forget 4 (by decide)) sh_4 (by decide) rfl (by decide) k_3_16 k_3_17 k_3_18 k_1_19 k_3_19 hy_X6_forget rfl (by rw [hS.2.2.2.2.1]; exact ⟨Nat.le_of_ble_eq_true rfl, Nat.le_of_ble_eq_true rfl⟩) (by rw [hS.2.2.2.2.1]; exact ⟨Nat.le_of_ble_eq_true rfl, Nat.le_of_ble_eq_true rfl⟩) (Nat.le_of_ble_eq_true rfl) rfl ?_
  exact tr_vretN hX hS dX6_init_65 rfl rfl
theorem okc_X6_init_4 {l : Launch} {E : Ev} : Ok l E Gno yX6_init cX6_init 1 none { frames := 1, cells := 7, slots := 695, locals := 21 } eU [.ref (E.2.1 4)] (fc_X6_init_4) := by
  refine ok_ofN (by decide) rfl (Nat.le_of_ble_eq_true rfl) (fun X hX hV hS => ?_)
  subst hV
  exact tc_X6_init_4 hX hS
def fc_X6_init_12 : M Unit :=
  al 13 1 (gx 12 (wR 12 1 13 (al 14 1 (gx 12 (wR 12 2 14 (al 15 1 (gx 12 (wR 12 3 15 (al 16 1 (gx 12 (wR 12 4 16 (al 17 1 (gx 12 (wR 12 5 17 (al 18 1 (gx 12 (wR 12 6 18 (al 19 1 (gx 12 (wR 12 7 19 (gw 12 (bnd (f_X6_forget 12) (fun _ => rt ())))))))))))))))))))))))
set_option maxRecDepth 10000 in
set_option maxHeartbeats 4000000 in
theorem tc_X6_init_12 {X : Cx} (hX : Good X RX6 cX6_init none) (hS : Stn X { frames := 1, cells := 7, slots := 695, locals := 21 } 1) : Tr X eU 0 0 0 [(0, .ref (cxAd X 12))] [] (fc_X6_init_12) := by
  unfold fc_X6_init_12
  refine tr_aload_n 0 hX dX6_init_0 rfl rfl ?_
  refine tr_oinit hX dX6_init_1 k_3_8 k_1_11 k_1_12 (by rw [hS.2.2.2.2.1]; exact Nat.le_of_ble_eq_true rfl) (by rw [hS.2.2.2.2.1]; exact Nat.le_of_ble_eq_true rfl) ?_
  refine tr_aload_n 0 hX dX6_init_4 rfl rfl ?_
  refine tr_bipush 16 hX dX6_init_5 (by decide) ?_
  refine tr_newi hX dX6_init_7 sh_13 k_2_20 (by decide) (by decide) (by decide) (by decide) (by rw [hS.2.2.2.2.1]; exact Nat.le_of_ble_eq_true rfl) (by rw [hS.2.2.2.2.1]; exact Nat.le_of_ble_eq_true rfl) ?_
  refine tr_putF hX dX6_init_9 sh_12 (by decide) rfl inlX6 tyX6 tyX6_ok nmX6 (by decide) rfl k_3_9 rfl hS.2.2.2.2.2.1 rfl rfl rfl rfl (by decide) hS.no ?_
  refine tr_aload_n 0 hX dX6_init_12 rfl rfl ?_
  refine tr_bipush 16 hX dX6_init_13 (by decide) ?_
  refine tr_newi hX dX6_init_15 sh_14 k_2_20 (by decide) (by decide) (by decide) (by decide) (by rw [hS.2.2.2.2.1]; exact Nat.le_of_ble_eq_true rfl) (by rw [hS.2.2.2.2.1]; exact Nat.le_of_ble_eq_true rfl) ?_
  refine tr_putF hX dX6_init_17 sh_12 (by decide) rfl inlX6 tyX6 tyX6_ok nmX6 (by decide) rfl k_3_10 rfl hS.2.2.2.2.2.1 rfl rfl rfl rfl (by decide) hS.no ?_
  refine tr_aload_n 0 hX dX6_init_20 rfl rfl ?_
  refine tr_bipush 16 hX dX6_init_21 (by decide) ?_
  refine tr_newi hX dX6_init_23 sh_15 k_2_20 (by decide) (by decide) (by decide) (by decide) (by rw [hS.2.2.2.2.1]; exact Nat.le_of_ble_eq_true rfl) (by rw [hS.2.2.2.2.1]; exact Nat.le_of_ble_eq_true rfl) ?_
  refine tr_putF hX dX6_init_25 sh_12 (by decide) rfl inlX6 tyX6 tyX6_ok nmX6 (by decide) rfl k_3_11 rfl hS.2.2.2.2.2.1 rfl rfl rfl rfl (by decide) hS.no ?_
  refine tr_aload_n 0 hX dX6_init_28 rfl rfl ?_
  refine tr_bipush 64 hX dX6_init_29 (by decide) ?_
  refine tr_newi hX dX6_init_31 sh_16 k_2_20 (by decide) (by decide) (by decide) (by decide) (by rw [hS.2.2.2.2.1]; exact Nat.le_of_ble_eq_true rfl) (by rw [hS.2.2.2.2.1]; exact Nat.le_of_ble_eq_true rfl) ?_
  refine tr_putF hX dX6_init_33 sh_12 (by decide) rfl inlX6 tyX6 tyX6_ok nmX6 (by decide) rfl k_3_12 rfl hS.2.2.2.2.2.1 rfl rfl rfl rfl (by decide) hS.no ?_
  refine tr_aload_n 0 hX dX6_init_36 rfl rfl ?_
  refine tr_iconst 5 hX dX6_init_37 (by decide) ?_
  refine tr_newi hX dX6_init_38 sh_17 k_2_20 (by decide) (by decide) (by decide) (by decide) (by rw [hS.2.2.2.2.1]; exact Nat.le_of_ble_eq_true rfl) (by rw [hS.2.2.2.2.1]; exact Nat.le_of_ble_eq_true rfl) ?_
  refine tr_putF hX dX6_init_40 sh_12 (by decide) rfl inlX6 tyX6 tyX6_ok nmX6 (by decide) rfl k_3_13 rfl hS.2.2.2.2.2.1 rfl rfl rfl rfl (by decide) hS.no ?_
  refine tr_aload_n 0 hX dX6_init_43 rfl rfl ?_
  refine tr_sipush 289 hX dX6_init_44 (by decide) ?_
  refine tr_newi hX dX6_init_47 sh_18 k_2_20 (by decide) (by decide) (by decide) (by decide) (by rw [hS.2.2.2.2.1]; exact Nat.le_of_ble_eq_true rfl) (by rw [hS.2.2.2.2.1]; exact Nat.le_of_ble_eq_true rfl) ?_
  refine tr_putF hX dX6_init_49 sh_12 (by decide) rfl inlX6 tyX6 tyX6_ok nmX6 (by decide) rfl k_3_14 rfl hS.2.2.2.2.2.1 rfl rfl rfl rfl (by decide) hS.no ?_
  refine tr_aload_n 0 hX dX6_init_52 rfl rfl ?_
  refine tr_sipush 289 hX dX6_init_53 (by decide) ?_
  refine tr_newi hX dX6_init_56 sh_19 k_2_20 (by decide) (by decide) (by decide) (by decide) (by rw [hS.2.2.2.2.1]; exact Nat.le_of_ble_eq_true rfl) (by rw [hS.2.2.2.2.1]; exact Nat.le_of_ble_eq_true rfl) ?_
  refine tr_putF hX dX6_init_58 sh_12 (by decide) rfl inlX6 tyX6 tyX6_ok nmX6 (by decide) rfl k_3_15 rfl hS.2.2.2.2.2.1 rfl rfl rfl rfl (by decide) hS.no ?_
  refine tr_aload_n 0 hX dX6_init_61 rfl rfl ?_
  refine tr_callVW (st := []) (As := []) (q := 12) 0 hX hS.no dX6_init_62 (okg_X6_forget 12 (by decide)) sh_12 (by decide) rfl (by decide) k_3_16 k_3_17 k_3_18 k_1_19 k_3_19 hy_X6_forget rfl (by rw [hS.2.2.2.2.1]; exact ⟨Nat.le_of_ble_eq_true rfl, Nat.le_of_ble_eq_true rfl⟩) (by rw [hS.2.2.2.2.1]; exact ⟨Nat.le_of_ble_eq_true rfl, Nat.le_of_ble_eq_true rfl⟩) (Nat.le_of_ble_eq_true rfl) rfl ?_
  exact tr_vretN hX hS dX6_init_65 rfl rfl
theorem okc_X6_init_12 {l : Launch} {E : Ev} : Ok l E Gno yX6_init cX6_init 1 none { frames := 1, cells := 7, slots := 695, locals := 21 } eU [.ref (E.2.1 12)] (fc_X6_init_12) := by
  refine ok_ofN (by decide) rfl (Nat.le_of_ble_eq_true rfl) (fun X hX hV hS => ?_)
  subst hV
  exact tc_X6_init_12 hX hS
theorem gd_21 : ∀ j, j < 6 → SH (21 + 1 + j) = (11, 8) := by decide
def fc_X0_init_20 : M Unit :=
  al 21 (1 + 6) (gx 20 (wR 20 0 21 (al 28 1 (gx 20 (wR 20 1 28 (al 29 1 (gx 20 (wR 20 2 29 (rt ())))))))))
set_option maxRecDepth 10000 in
set_option maxHeartbeats 4000000 in
theorem tc_X0_init_20 {X : Cx} (hX : Good X RX0 cX0_init none) (hS : Stn X { frames := 1, cells := 9, slots := 144, locals := 12 } 1) : Tr X eU 0 0 0 [(0, .ref (cxAd X 20))] [] (fc_X0_init_20) := by
  unfold fc_X0_init_20
  refine tr_aload_n 0 hX dX0_init_0 rfl rfl ?_
  refine tr_oinit hX dX0_init_1 k_3_23 k_1_11 k_1_12 (by rw [hS.2.2.2.2.1]; exact Nat.le_of_ble_eq_true rfl) (by rw [hS.2.2.2.2.1]; exact Nat.le_of_ble_eq_true rfl) ?_
  refine tr_aload_n 0 hX dX0_init_4 rfl rfl ?_
  refine tr_bipush 6 hX dX0_init_5 (by decide) ?_
  refine tr_bipush 8 hX dX0_init_7 (by decide) ?_
  refine tr_mna (ty := .int) (N := 6) (K' := 8) (z := (8, .inl (fun _ => 0))) (j14 := 4) (j11 := 1) hX dX0_init_9 rfl rfl (fun _ z => by cases z) (by decide) rfl (fun w => cellOf_rows sh_21) (fun w c i hi hg => by rw [cellOf_int (gd_21 i hi), gi_aw0 hg]) (by intro c; show ({ cls := c, slots := Array.replicate 8 _, vm := .none } : Cell) = vp_cell c _; rw [vp_cell_i, arrV_new]; rfl) k_4_0 k_2_20 (by decide) (by decide) (by decide) (by decide) (by decide) (by decide) (by decide) (by decide) (by decide) (by decide) (by rw [hS.2.2.2.2.1]; exact Nat.le_of_ble_eq_true rfl) (by rw [hS.2.2.2.2.1]; exact Nat.le_of_ble_eq_true rfl) ?_
  refine tr_putF hX dX0_init_13 sh_20 (by decide) rfl inlX0 tyX0 tyX0_ok nmX0 (by decide) rfl k_4_1 rfl hS.2.2.2.2.2.1 rfl rfl rfl rfl (by decide) hS.no ?_
  refine tr_aload_n 0 hX dX0_init_16 rfl rfl ?_
  refine tr_bipush 6 hX dX0_init_17 (by decide) ?_
  refine tr_newi hX dX0_init_19 sh_28 k_2_20 (by decide) (by decide) (by decide) (by decide) (by rw [hS.2.2.2.2.1]; exact Nat.le_of_ble_eq_true rfl) (by rw [hS.2.2.2.2.1]; exact Nat.le_of_ble_eq_true rfl) ?_
  refine tr_putF hX dX0_init_21 sh_20 (by decide) rfl inlX0 tyX0 tyX0_ok nmX0 (by decide) rfl k_4_2 rfl hS.2.2.2.2.2.1 rfl rfl rfl rfl (by decide) hS.no ?_
  refine tr_aload_n 0 hX dX0_init_24 rfl rfl ?_
  refine tr_bipush 84 hX dX0_init_25 (by decide) ?_
  refine tr_newi hX dX0_init_27 sh_29 k_2_20 (by decide) (by decide) (by decide) (by decide) (by rw [hS.2.2.2.2.1]; exact Nat.le_of_ble_eq_true rfl) (by rw [hS.2.2.2.2.1]; exact Nat.le_of_ble_eq_true rfl) ?_
  refine tr_putF hX dX0_init_29 sh_20 (by decide) rfl inlX0 tyX0 tyX0_ok nmX0 (by decide) rfl k_4_3 rfl hS.2.2.2.2.2.1 rfl rfl rfl rfl (by decide) hS.no ?_
  exact tr_vretN hX hS dX0_init_32 rfl rfl
theorem okc_X0_init_20 {l : Launch} {E : Ev} : Ok l E Gno yX0_init cX0_init 1 none { frames := 1, cells := 9, slots := 144, locals := 12 } eU [.ref (E.2.1 20)] (fc_X0_init_20) := by
  refine ok_ofN (by decide) rfl (Nat.le_of_ble_eq_true rfl) (fun X hX hV hS => ?_)
  subst hV
  exact tc_X0_init_20 hX hS
theorem gd_31 : ∀ j, j < 6 → SH (31 + 1 + j) = (11, 8) := by decide
def fc_X0_init_30 : M Unit :=
  al 31 (1 + 6) (gx 30 (wR 30 0 31 (al 38 1 (gx 30 (wR 30 1 38 (al 39 1 (gx 30 (wR 30 2 39 (rt ())))))))))
set_option maxRecDepth 10000 in
set_option maxHeartbeats 4000000 in
theorem tc_X0_init_30 {X : Cx} (hX : Good X RX0 cX0_init none) (hS : Stn X { frames := 1, cells := 9, slots := 144, locals := 12 } 1) : Tr X eU 0 0 0 [(0, .ref (cxAd X 30))] [] (fc_X0_init_30) := by
  unfold fc_X0_init_30
  refine tr_aload_n 0 hX dX0_init_0 rfl rfl ?_
  refine tr_oinit hX dX0_init_1 k_3_23 k_1_11 k_1_12 (by rw [hS.2.2.2.2.1]; exact Nat.le_of_ble_eq_true rfl) (by rw [hS.2.2.2.2.1]; exact Nat.le_of_ble_eq_true rfl) ?_
  refine tr_aload_n 0 hX dX0_init_4 rfl rfl ?_
  refine tr_bipush 6 hX dX0_init_5 (by decide) ?_
  refine tr_bipush 8 hX dX0_init_7 (by decide) ?_
  refine tr_mna (ty := .int) (N := 6) (K' := 8) (z := (8, .inl (fun _ => 0))) (j14 := 4) (j11 := 1) hX dX0_init_9 rfl rfl (fun _ z => by cases z) (by decide) rfl (fun w => cellOf_rows sh_31) (fun w c i hi hg => by rw [cellOf_int (gd_31 i hi), gi_aw0 hg]) (by intro c; show ({ cls := c, slots := Array.replicate 8 _, vm := .none } : Cell) = vp_cell c _; rw [vp_cell_i, arrV_new]; rfl) k_4_0 k_2_20 (by decide) (by decide) (by decide) (by decide) (by decide) (by decide) (by decide) (by decide) (by decide) (by decide) (by rw [hS.2.2.2.2.1]; exact Nat.le_of_ble_eq_true rfl) (by rw [hS.2.2.2.2.1]; exact Nat.le_of_ble_eq_true rfl) ?_
  refine tr_putF hX dX0_init_13 sh_30 (by decide) rfl inlX0 tyX0 tyX0_ok nmX0 (by decide) rfl k_4_1 rfl hS.2.2.2.2.2.1 rfl rfl rfl rfl (by decide) hS.no ?_
  refine tr_aload_n 0 hX dX0_init_16 rfl rfl ?_
  refine tr_bipush 6 hX dX0_init_17 (by decide) ?_
  refine tr_newi hX dX0_init_19 sh_38 k_2_20 (by decide) (by decide) (by decide) (by decide) (by rw [hS.2.2.2.2.1]; exact Nat.le_of_ble_eq_true rfl) (by rw [hS.2.2.2.2.1]; exact Nat.le_of_ble_eq_true rfl) ?_
  refine tr_putF hX dX0_init_21 sh_30 (by decide) rfl inlX0 tyX0 tyX0_ok nmX0 (by decide) rfl k_4_2 rfl hS.2.2.2.2.2.1 rfl rfl rfl rfl (by decide) hS.no ?_
  refine tr_aload_n 0 hX dX0_init_24 rfl rfl ?_
  refine tr_bipush 84 hX dX0_init_25 (by decide) ?_
  refine tr_newi hX dX0_init_27 sh_39 k_2_20 (by decide) (by decide) (by decide) (by decide) (by rw [hS.2.2.2.2.1]; exact Nat.le_of_ble_eq_true rfl) (by rw [hS.2.2.2.2.1]; exact Nat.le_of_ble_eq_true rfl) ?_
  refine tr_putF hX dX0_init_29 sh_30 (by decide) rfl inlX0 tyX0 tyX0_ok nmX0 (by decide) rfl k_4_3 rfl hS.2.2.2.2.2.1 rfl rfl rfl rfl (by decide) hS.no ?_
  exact tr_vretN hX hS dX0_init_32 rfl rfl
theorem okc_X0_init_30 {l : Launch} {E : Ev} : Ok l E Gno yX0_init cX0_init 1 none { frames := 1, cells := 9, slots := 144, locals := 12 } eU [.ref (E.2.1 30)] (fc_X0_init_30) := by
  refine ok_ofN (by decide) rfl (Nat.le_of_ble_eq_true rfl) (fun X hX hV hS => ?_)
  subst hV
  exact tc_X0_init_30 hX hS
theorem gd_41 : ∀ j, j < 6 → SH (41 + 1 + j) = (11, 8) := by decide
def fc_X0_init_40 : M Unit :=
  al 41 (1 + 6) (gx 40 (wR 40 0 41 (al 48 1 (gx 40 (wR 40 1 48 (al 49 1 (gx 40 (wR 40 2 49 (rt ())))))))))
set_option maxRecDepth 10000 in
set_option maxHeartbeats 4000000 in
theorem tc_X0_init_40 {X : Cx} (hX : Good X RX0 cX0_init none) (hS : Stn X { frames := 1, cells := 9, slots := 144, locals := 12 } 1) : Tr X eU 0 0 0 [(0, .ref (cxAd X 40))] [] (fc_X0_init_40) := by
  unfold fc_X0_init_40
  refine tr_aload_n 0 hX dX0_init_0 rfl rfl ?_
  refine tr_oinit hX dX0_init_1 k_3_23 k_1_11 k_1_12 (by rw [hS.2.2.2.2.1]; exact Nat.le_of_ble_eq_true rfl) (by rw [hS.2.2.2.2.1]; exact Nat.le_of_ble_eq_true rfl) ?_
  refine tr_aload_n 0 hX dX0_init_4 rfl rfl ?_
  refine tr_bipush 6 hX dX0_init_5 (by decide) ?_
  refine tr_bipush 8 hX dX0_init_7 (by decide) ?_
  refine tr_mna (ty := .int) (N := 6) (K' := 8) (z := (8, .inl (fun _ => 0))) (j14 := 4) (j11 := 1) hX dX0_init_9 rfl rfl (fun _ z => by cases z) (by decide) rfl (fun w => cellOf_rows sh_41) (fun w c i hi hg => by rw [cellOf_int (gd_41 i hi), gi_aw0 hg]) (by intro c; show ({ cls := c, slots := Array.replicate 8 _, vm := .none } : Cell) = vp_cell c _; rw [vp_cell_i, arrV_new]; rfl) k_4_0 k_2_20 (by decide) (by decide) (by decide) (by decide) (by decide) (by decide) (by decide) (by decide) (by decide) (by decide) (by rw [hS.2.2.2.2.1]; exact Nat.le_of_ble_eq_true rfl) (by rw [hS.2.2.2.2.1]; exact Nat.le_of_ble_eq_true rfl) ?_
  refine tr_putF hX dX0_init_13 sh_40 (by decide) rfl inlX0 tyX0 tyX0_ok nmX0 (by decide) rfl k_4_1 rfl hS.2.2.2.2.2.1 rfl rfl rfl rfl (by decide) hS.no ?_
  refine tr_aload_n 0 hX dX0_init_16 rfl rfl ?_
  refine tr_bipush 6 hX dX0_init_17 (by decide) ?_
  refine tr_newi hX dX0_init_19 sh_48 k_2_20 (by decide) (by decide) (by decide) (by decide) (by rw [hS.2.2.2.2.1]; exact Nat.le_of_ble_eq_true rfl) (by rw [hS.2.2.2.2.1]; exact Nat.le_of_ble_eq_true rfl) ?_
  refine tr_putF hX dX0_init_21 sh_40 (by decide) rfl inlX0 tyX0 tyX0_ok nmX0 (by decide) rfl k_4_2 rfl hS.2.2.2.2.2.1 rfl rfl rfl rfl (by decide) hS.no ?_
  refine tr_aload_n 0 hX dX0_init_24 rfl rfl ?_
  refine tr_bipush 84 hX dX0_init_25 (by decide) ?_
  refine tr_newi hX dX0_init_27 sh_49 k_2_20 (by decide) (by decide) (by decide) (by decide) (by rw [hS.2.2.2.2.1]; exact Nat.le_of_ble_eq_true rfl) (by rw [hS.2.2.2.2.1]; exact Nat.le_of_ble_eq_true rfl) ?_
  refine tr_putF hX dX0_init_29 sh_40 (by decide) rfl inlX0 tyX0 tyX0_ok nmX0 (by decide) rfl k_4_3 rfl hS.2.2.2.2.2.1 rfl rfl rfl rfl (by decide) hS.no ?_
  exact tr_vretN hX hS dX0_init_32 rfl rfl
theorem okc_X0_init_40 {l : Launch} {E : Ev} : Ok l E Gno yX0_init cX0_init 1 none { frames := 1, cells := 9, slots := 144, locals := 12 } eU [.ref (E.2.1 40)] (fc_X0_init_40) := by
  refine ok_ofN (by decide) rfl (Nat.le_of_ble_eq_true rfl) (fun X hX hV hS => ?_)
  subst hV
  exact tc_X0_init_40 hX hS
def fc_X1_init_50 : M Unit :=
  al 51 1 (gx 50 (wR 50 1 51 (al 52 1 (gx 50 (wR 50 2 52 (rt ()))))))
set_option maxRecDepth 10000 in
set_option maxHeartbeats 4000000 in
theorem tc_X1_init_50 {X : Cx} (hX : Good X RX1 cX1_init none) (hS : Stn X { frames := 1, cells := 2, slots := 168, locals := 12 } 1) : Tr X eU 0 0 0 [(0, .ref (cxAd X 50))] [] (fc_X1_init_50) := by
  unfold fc_X1_init_50
  refine tr_aload_n 0 hX dX1_init_0 rfl rfl ?_
  refine tr_oinit hX dX1_init_1 k_4_6 k_1_11 k_1_12 (by rw [hS.2.2.2.2.1]; exact Nat.le_of_ble_eq_true rfl) (by rw [hS.2.2.2.2.1]; exact Nat.le_of_ble_eq_true rfl) ?_
  refine tr_aload_n 0 hX dX1_init_4 rfl rfl ?_
  refine tr_bipush 84 hX dX1_init_5 (by decide) ?_
  refine tr_newi hX dX1_init_7 sh_51 k_2_20 (by decide) (by decide) (by decide) (by decide) (by rw [hS.2.2.2.2.1]; exact Nat.le_of_ble_eq_true rfl) (by rw [hS.2.2.2.2.1]; exact Nat.le_of_ble_eq_true rfl) ?_
  refine tr_putF hX dX1_init_9 sh_50 (by decide) rfl inlX1 tyX1 tyX1_ok nmX1 (by decide) rfl k_4_7 rfl hS.2.2.2.2.2.1 rfl rfl rfl rfl (by decide) hS.no ?_
  refine tr_aload_n 0 hX dX1_init_12 rfl rfl ?_
  refine tr_bipush 84 hX dX1_init_13 (by decide) ?_
  refine tr_newz hX dX1_init_15 sh_52 k_4_8 (by decide) (by decide) (by decide) (by decide) (by rw [hS.2.2.2.2.1]; exact Nat.le_of_ble_eq_true rfl) (by rw [hS.2.2.2.2.1]; exact Nat.le_of_ble_eq_true rfl) ?_
  refine tr_putF hX dX1_init_17 sh_50 (by decide) rfl inlX1 tyX1 tyX1_ok nmX1 (by decide) rfl k_4_9 rfl hS.2.2.2.2.2.1 rfl rfl rfl rfl (by decide) hS.no ?_
  exact tr_vretN hX hS dX1_init_20 rfl rfl
theorem okc_X1_init_50 {l : Launch} {E : Ev} : Ok l E Gno yX1_init cX1_init 1 none { frames := 1, cells := 2, slots := 168, locals := 12 } eU [.ref (E.2.1 50)] (fc_X1_init_50) := by
  refine ok_ofN (by decide) rfl (Nat.le_of_ble_eq_true rfl) (fun X hX hV hS => ?_)
  subst hV
  exact tc_X1_init_50 hX hS
theorem gd_54 : ∀ j, j < 8 → SH (54 + 1 + j) = (11, 128) := by decide
theorem gd_63 : ∀ j, j < 8 → SH (63 + 1 + j) = (12, 128) := by decide
theorem gd_75 : ∀ j, j < 8 → SH (75 + 1 + j) = (11, 16) := by decide
theorem gd_84 : ∀ j, j < 8 → SH (84 + 1 + j) = (11, 16) := by decide
theorem gd_93 : ∀ j, j < 8 → SH (93 + 1 + j) = (11, 16) := by decide
theorem gd_102 : ∀ j, j < 8 → SH (102 + 1 + j) = (11, 16) := by decide
theorem gd_111 : ∀ j, j < 8 → SH (111 + 1 + j) = (11, 16) := by decide
theorem gd_121 : ∀ j, j < 8 → SH (121 + 1 + j) = (11, 3) := by decide
theorem gd_130 : ∀ j, j < 8 → SH (130 + 1 + j) = (11, 3) := by decide
theorem gd_139 : ∀ j, j < 8 → SH (139 + 1 + j) = (11, 3) := by decide
def fc_X7_init_73 (x1 : Nat) : M Unit :=
  al 74 1 (gx 73 (wR 73 1 74 (al 75 (1 + 8) (gx 73 (wR 73 2 75 (al 84 (1 + 8) (gx 73 (wR 73 3 84 (al 93 (1 + 8) (gx 73 (wR 73 4 93 (al 102 (1 + 8) (gx 73 (wR 73 5 102 (al 111 (1 + 8) (gx 73 (wR 73 6 111 (al 120 1 (gx 73 (wR 73 7 120 (al 121 (1 + 8) (gx 73 (wR 73 8 121 (al 130 (1 + 8) (gx 73 (wR 73 9 130 (al 139 (1 + 8) (gx 73 (wR 73 10 139 (al 148 1 (gx 148 (sI 148 3 0 16 (gx 148 (sI 148 3 1 16 (gx 148 (sI 148 3 2 16 (gx 73 (wR 73 11 148 (gx 73 (wR 73 0 x1 (rt ())))))))))))))))))))))))))))))))))))))))))
set_option maxRecDepth 10000 in
set_option maxHeartbeats 4000000 in
theorem tc_X7_init_73 {X : Cx} (hX : Good X RX7 cX7_init none) (hS : Stn X { frames := 1, cells := 75, slots := 795, locals := 12 } 2) (x1 : Nat) (hx1 : isT x1) : Tr X eU 0 0 0 [(0, .ref (cxAd X 73)), (1, .ref (cxAd X x1))] [] (fc_X7_init_73 x1) := by
  unfold fc_X7_init_73
  refine tr_aload_n 0 hX dX7_init_0 rfl rfl ?_
  refine tr_oinit hX dX7_init_1 k_5_3 k_1_11 k_1_12 (by rw [hS.2.2.2.2.1]; exact Nat.le_of_ble_eq_true rfl) (by rw [hS.2.2.2.2.1]; exact Nat.le_of_ble_eq_true rfl) ?_
  refine tr_aload_n 0 hX dX7_init_4 rfl rfl ?_
  refine tr_bipush 8 hX dX7_init_5 (by decide) ?_
  refine tr_newi hX dX7_init_7 sh_74 k_2_20 (by decide) (by decide) (by decide) (by decide) (by rw [hS.2.2.2.2.1]; exact Nat.le_of_ble_eq_true rfl) (by rw [hS.2.2.2.2.1]; exact Nat.le_of_ble_eq_true rfl) ?_
  refine tr_putF hX dX7_init_9 sh_73 (by decide) rfl inlX7 tyX7 tyX7_ok nmX7 (by decide) rfl k_5_4 rfl hS.2.2.2.2.2.1 rfl rfl rfl rfl (by decide) hS.no ?_
  refine tr_aload_n 0 hX dX7_init_12 rfl rfl ?_
  refine tr_bipush 8 hX dX7_init_13 (by decide) ?_
  refine tr_bipush 16 hX dX7_init_15 (by decide) ?_
  refine tr_mna (ty := .int) (N := 8) (K' := 16) (z := (16, .inl (fun _ => 0))) (j14 := 4) (j11 := 1) hX dX7_init_17 rfl rfl (fun _ z => by cases z) (by decide) rfl (fun w => cellOf_rows sh_75) (fun w c i hi hg => by rw [cellOf_int (gd_75 i hi), gi_aw0 hg]) (by intro c; show ({ cls := c, slots := Array.replicate 16 _, vm := .none } : Cell) = vp_cell c _; rw [vp_cell_i, arrV_new]; rfl) k_5_5 k_2_20 (by decide) (by decide) (by decide) (by decide) (by decide) (by decide) (by decide) (by decide) (by decide) (by decide) (by rw [hS.2.2.2.2.1]; exact Nat.le_of_ble_eq_true rfl) (by rw [hS.2.2.2.2.1]; exact Nat.le_of_ble_eq_true rfl) ?_
  refine tr_putF hX dX7_init_21 sh_73 (by decide) rfl inlX7 tyX7 tyX7_ok nmX7 (by decide) rfl k_5_6 rfl hS.2.2.2.2.2.1 rfl rfl rfl rfl (by decide) hS.no ?_
  refine tr_aload_n 0 hX dX7_init_24 rfl rfl ?_
  refine tr_bipush 8 hX dX7_init_25 (by decide) ?_
  refine tr_bipush 16 hX dX7_init_27 (by decide) ?_
  refine tr_mna (ty := .int) (N := 8) (K' := 16) (z := (16, .inl (fun _ => 0))) (j14 := 4) (j11 := 1) hX dX7_init_29 rfl rfl (fun _ z => by cases z) (by decide) rfl (fun w => cellOf_rows sh_84) (fun w c i hi hg => by rw [cellOf_int (gd_84 i hi), gi_aw0 hg]) (by intro c; show ({ cls := c, slots := Array.replicate 16 _, vm := .none } : Cell) = vp_cell c _; rw [vp_cell_i, arrV_new]; rfl) k_5_5 k_2_20 (by decide) (by decide) (by decide) (by decide) (by decide) (by decide) (by decide) (by decide) (by decide) (by decide) (by rw [hS.2.2.2.2.1]; exact Nat.le_of_ble_eq_true rfl) (by rw [hS.2.2.2.2.1]; exact Nat.le_of_ble_eq_true rfl) ?_
  refine tr_putF hX dX7_init_33 sh_73 (by decide) rfl inlX7 tyX7 tyX7_ok nmX7 (by decide) rfl k_5_7 rfl hS.2.2.2.2.2.1 rfl rfl rfl rfl (by decide) hS.no ?_
  refine tr_aload_n 0 hX dX7_init_36 rfl rfl ?_
  refine tr_bipush 8 hX dX7_init_37 (by decide) ?_
  refine tr_bipush 16 hX dX7_init_39 (by decide) ?_
  refine tr_mna (ty := .int) (N := 8) (K' := 16) (z := (16, .inl (fun _ => 0))) (j14 := 4) (j11 := 1) hX dX7_init_41 rfl rfl (fun _ z => by cases z) (by decide) rfl (fun w => cellOf_rows sh_93) (fun w c i hi hg => by rw [cellOf_int (gd_93 i hi), gi_aw0 hg]) (by intro c; show ({ cls := c, slots := Array.replicate 16 _, vm := .none } : Cell) = vp_cell c _; rw [vp_cell_i, arrV_new]; rfl) k_5_5 k_2_20 (by decide) (by decide) (by decide) (by decide) (by decide) (by decide) (by decide) (by decide) (by decide) (by decide) (by rw [hS.2.2.2.2.1]; exact Nat.le_of_ble_eq_true rfl) (by rw [hS.2.2.2.2.1]; exact Nat.le_of_ble_eq_true rfl) ?_
  refine tr_putF hX dX7_init_45 sh_73 (by decide) rfl inlX7 tyX7 tyX7_ok nmX7 (by decide) rfl k_5_8 rfl hS.2.2.2.2.2.1 rfl rfl rfl rfl (by decide) hS.no ?_
  refine tr_aload_n 0 hX dX7_init_48 rfl rfl ?_
  refine tr_bipush 8 hX dX7_init_49 (by decide) ?_
  refine tr_bipush 16 hX dX7_init_51 (by decide) ?_
  refine tr_mna (ty := .int) (N := 8) (K' := 16) (z := (16, .inl (fun _ => 0))) (j14 := 4) (j11 := 1) hX dX7_init_53 rfl rfl (fun _ z => by cases z) (by decide) rfl (fun w => cellOf_rows sh_102) (fun w c i hi hg => by rw [cellOf_int (gd_102 i hi), gi_aw0 hg]) (by intro c; show ({ cls := c, slots := Array.replicate 16 _, vm := .none } : Cell) = vp_cell c _; rw [vp_cell_i, arrV_new]; rfl) k_5_5 k_2_20 (by decide) (by decide) (by decide) (by decide) (by decide) (by decide) (by decide) (by decide) (by decide) (by decide) (by rw [hS.2.2.2.2.1]; exact Nat.le_of_ble_eq_true rfl) (by rw [hS.2.2.2.2.1]; exact Nat.le_of_ble_eq_true rfl) ?_
  refine tr_putF hX dX7_init_57 sh_73 (by decide) rfl inlX7 tyX7 tyX7_ok nmX7 (by decide) rfl k_5_9 rfl hS.2.2.2.2.2.1 rfl rfl rfl rfl (by decide) hS.no ?_
  refine tr_aload_n 0 hX dX7_init_60 rfl rfl ?_
  refine tr_bipush 8 hX dX7_init_61 (by decide) ?_
  refine tr_bipush 16 hX dX7_init_63 (by decide) ?_
  refine tr_mna (ty := .int) (N := 8) (K' := 16) (z := (16, .inl (fun _ => 0))) (j14 := 4) (j11 := 1) hX dX7_init_65 rfl rfl (fun _ z => by cases z) (by decide) rfl (fun w => cellOf_rows sh_111) (fun w c i hi hg => by rw [cellOf_int (gd_111 i hi), gi_aw0 hg]) (by intro c; show ({ cls := c, slots := Array.replicate 16 _, vm := .none } : Cell) = vp_cell c _; rw [vp_cell_i, arrV_new]; rfl) k_5_5 k_2_20 (by decide) (by decide) (by decide) (by decide) (by decide) (by decide) (by decide) (by decide) (by decide) (by decide) (by rw [hS.2.2.2.2.1]; exact Nat.le_of_ble_eq_true rfl) (by rw [hS.2.2.2.2.1]; exact Nat.le_of_ble_eq_true rfl) ?_
  refine tr_putF hX dX7_init_69 sh_73 (by decide) rfl inlX7 tyX7 tyX7_ok nmX7 (by decide) rfl k_5_10 rfl hS.2.2.2.2.2.1 rfl rfl rfl rfl (by decide) hS.no ?_
  refine tr_aload_n 0 hX dX7_init_72 rfl rfl ?_
  refine tr_bipush 8 hX dX7_init_73 (by decide) ?_
  refine tr_newi hX dX7_init_75 sh_120 k_2_20 (by decide) (by decide) (by decide) (by decide) (by rw [hS.2.2.2.2.1]; exact Nat.le_of_ble_eq_true rfl) (by rw [hS.2.2.2.2.1]; exact Nat.le_of_ble_eq_true rfl) ?_
  refine tr_putF hX dX7_init_77 sh_73 (by decide) rfl inlX7 tyX7 tyX7_ok nmX7 (by decide) rfl k_5_11 rfl hS.2.2.2.2.2.1 rfl rfl rfl rfl (by decide) hS.no ?_
  refine tr_aload_n 0 hX dX7_init_80 rfl rfl ?_
  refine tr_bipush 8 hX dX7_init_81 (by decide) ?_
  refine tr_iconst 3 hX dX7_init_83 (by decide) ?_
  refine tr_mna (ty := .int) (N := 8) (K' := 3) (z := (3, .inl (fun _ => 0))) (j14 := 4) (j11 := 1) hX dX7_init_84 rfl rfl (fun _ z => by cases z) (by decide) rfl (fun w => cellOf_rows sh_121) (fun w c i hi hg => by rw [cellOf_int (gd_121 i hi), gi_aw0 hg]) (by intro c; show ({ cls := c, slots := Array.replicate 3 _, vm := .none } : Cell) = vp_cell c _; rw [vp_cell_i, arrV_new]; rfl) k_5_5 k_2_20 (by decide) (by decide) (by decide) (by decide) (by decide) (by decide) (by decide) (by decide) (by decide) (by decide) (by rw [hS.2.2.2.2.1]; exact Nat.le_of_ble_eq_true rfl) (by rw [hS.2.2.2.2.1]; exact Nat.le_of_ble_eq_true rfl) ?_
  refine tr_putF hX dX7_init_88 sh_73 (by decide) rfl inlX7 tyX7 tyX7_ok nmX7 (by decide) rfl k_5_12 rfl hS.2.2.2.2.2.1 rfl rfl rfl rfl (by decide) hS.no ?_
  refine tr_aload_n 0 hX dX7_init_91 rfl rfl ?_
  refine tr_bipush 8 hX dX7_init_92 (by decide) ?_
  refine tr_iconst 3 hX dX7_init_94 (by decide) ?_
  refine tr_mna (ty := .int) (N := 8) (K' := 3) (z := (3, .inl (fun _ => 0))) (j14 := 4) (j11 := 1) hX dX7_init_95 rfl rfl (fun _ z => by cases z) (by decide) rfl (fun w => cellOf_rows sh_130) (fun w c i hi hg => by rw [cellOf_int (gd_130 i hi), gi_aw0 hg]) (by intro c; show ({ cls := c, slots := Array.replicate 3 _, vm := .none } : Cell) = vp_cell c _; rw [vp_cell_i, arrV_new]; rfl) k_5_5 k_2_20 (by decide) (by decide) (by decide) (by decide) (by decide) (by decide) (by decide) (by decide) (by decide) (by decide) (by rw [hS.2.2.2.2.1]; exact Nat.le_of_ble_eq_true rfl) (by rw [hS.2.2.2.2.1]; exact Nat.le_of_ble_eq_true rfl) ?_
  refine tr_putF hX dX7_init_99 sh_73 (by decide) rfl inlX7 tyX7 tyX7_ok nmX7 (by decide) rfl k_5_13 rfl hS.2.2.2.2.2.1 rfl rfl rfl rfl (by decide) hS.no ?_
  refine tr_aload_n 0 hX dX7_init_102 rfl rfl ?_
  refine tr_bipush 8 hX dX7_init_103 (by decide) ?_
  refine tr_iconst 3 hX dX7_init_105 (by decide) ?_
  refine tr_mna (ty := .int) (N := 8) (K' := 3) (z := (3, .inl (fun _ => 0))) (j14 := 4) (j11 := 1) hX dX7_init_106 rfl rfl (fun _ z => by cases z) (by decide) rfl (fun w => cellOf_rows sh_139) (fun w c i hi hg => by rw [cellOf_int (gd_139 i hi), gi_aw0 hg]) (by intro c; show ({ cls := c, slots := Array.replicate 3 _, vm := .none } : Cell) = vp_cell c _; rw [vp_cell_i, arrV_new]; rfl) k_5_5 k_2_20 (by decide) (by decide) (by decide) (by decide) (by decide) (by decide) (by decide) (by decide) (by decide) (by decide) (by rw [hS.2.2.2.2.1]; exact Nat.le_of_ble_eq_true rfl) (by rw [hS.2.2.2.2.1]; exact Nat.le_of_ble_eq_true rfl) ?_
  refine tr_putF hX dX7_init_110 sh_73 (by decide) rfl inlX7 tyX7 tyX7_ok nmX7 (by decide) rfl k_5_14 rfl hS.2.2.2.2.2.1 rfl rfl rfl rfl (by decide) hS.no ?_
  refine tr_aload_n 0 hX dX7_init_113 rfl rfl ?_
  refine tr_iconst 3 hX dX7_init_114 (by decide) ?_
  refine tr_newi hX dX7_init_115 sh_148 k_2_20 (by decide) (by decide) (by decide) (by decide) (by rw [hS.2.2.2.2.1]; exact Nat.le_of_ble_eq_true rfl) (by rw [hS.2.2.2.2.1]; exact Nat.le_of_ble_eq_true rfl) ?_
  refine tr_dup hX dX7_init_117 rfl ?_
  refine tr_iconst 0 hX dX7_init_118 (by decide) ?_
  refine tr_bipush 16 hX dX7_init_119 (by decide) ?_
  refine tr_iastX hX dX7_init_121 sh_148 (by decide) (fun _ => ?_)
  refine tr_dup hX dX7_init_122 rfl ?_
  refine tr_iconst 1 hX dX7_init_123 (by decide) ?_
  refine tr_bipush 16 hX dX7_init_124 (by decide) ?_
  refine tr_iastX hX dX7_init_126 sh_148 (by decide) (fun _ => ?_)
  refine tr_dup hX dX7_init_127 rfl ?_
  refine tr_iconst 2 hX dX7_init_128 (by decide) ?_
  refine tr_bipush 16 hX dX7_init_129 (by decide) ?_
  refine tr_iastX hX dX7_init_131 sh_148 (by decide) (fun _ => ?_)
  refine tr_putF hX dX7_init_132 sh_73 (by decide) rfl inlX7 tyX7 tyX7_ok nmX7 (by decide) rfl k_5_15 rfl hS.2.2.2.2.2.1 rfl rfl rfl rfl (by decide) hS.no ?_
  refine tr_aload_n 0 hX dX7_init_135 rfl rfl ?_
  refine tr_aload_n 1 hX dX7_init_136 rfl rfl ?_
  refine tr_putTX hX dX7_init_137 sh_73 (by decide) rfl inlX7 tyX7 tyX7_ok nmX7 (by decide) rfl k_5_16 rfl rfl rfl rfl (by decide) hS.no ?_
  exact tr_vretN hX hS dX7_init_140 rfl rfl
theorem okc_X7_init_73 {l : Launch} {E : Ev} (x1 : Nat) (hx1 : isT x1) : Ok l E Gno yX7_init cX7_init 2 none { frames := 1, cells := 75, slots := 795, locals := 12 } eU [.ref (E.2.1 73), .ref (E.2.1 x1)] (fc_X7_init_73 x1) := by
  refine ok_ofN (by decide) rfl (Nat.le_of_ble_eq_true rfl) (fun X hX hV hS => ?_)
  subst hV
  exact tc_X7_init_73 hX hS x1 hx1
def fc_X3_init_53 (x1 : Nat) : M Unit :=
  al 54 (1 + 8) (gx 53 (wR 53 5 54 (al 63 (1 + 8) (gx 53 (wR 53 6 63 (al 72 1 (gx 53 (wR 53 7 72 (al 73 1 (bnd (fc_X7_init_73 x1) (fun _ => gx 53 (wR 53 0 73 (rt ())))))))))))))
set_option maxRecDepth 10000 in
set_option maxHeartbeats 4000000 in
theorem tc_X3_init_53 {X : Cx} (hX : Good X RX3 cX3_init none) (hS : Stn X { frames := 2, cells := 95, slots := 2879, locals := 33 } 2) (x1 : Nat) (hx1 : isT x1) : Tr X eU 0 0 0 [(0, .ref (cxAd X 53)), (1, .ref (cxAd X x1))] [] (fc_X3_init_53 x1) := by
  unfold fc_X3_init_53
  refine tr_aload_n 0 hX dX3_init_0 rfl rfl ?_
  refine tr_oinit hX dX3_init_1 k_4_13 k_1_11 k_1_12 (by rw [hS.2.2.2.2.1]; exact Nat.le_of_ble_eq_true rfl) (by rw [hS.2.2.2.2.1]; exact Nat.le_of_ble_eq_true rfl) ?_
  refine tr_aload_n 0 hX dX3_init_4 rfl rfl ?_
  refine tr_bipush 8 hX dX3_init_5 (by decide) ?_
  refine tr_sipush 128 hX dX3_init_7 (by decide) ?_
  refine tr_mna (ty := .int) (N := 8) (K' := 128) (z := (128, .inl (fun _ => 0))) (j14 := 4) (j11 := 1) hX dX3_init_10 rfl rfl (fun _ z => by cases z) (by decide) rfl (fun w => cellOf_rows sh_54) (fun w c i hi hg => by rw [cellOf_int (gd_54 i hi), gi_aw0 hg]) (by intro c; show ({ cls := c, slots := Array.replicate 128 _, vm := .none } : Cell) = vp_cell c _; rw [vp_cell_i, arrV_new]; rfl) k_4_14 k_2_20 (by decide) (by decide) (by decide) (by decide) (by decide) (by decide) (by decide) (by decide) (by decide) (by decide) (by rw [hS.2.2.2.2.1]; exact Nat.le_of_ble_eq_true rfl) (by rw [hS.2.2.2.2.1]; exact Nat.le_of_ble_eq_true rfl) ?_
  refine tr_putF hX dX3_init_14 sh_53 (by decide) rfl inlX3 tyX3 tyX3_ok nmX3 (by decide) rfl k_4_15 rfl hS.2.2.2.2.2.1 rfl rfl rfl rfl (by decide) hS.no ?_
  refine tr_aload_n 0 hX dX3_init_17 rfl rfl ?_
  refine tr_bipush 8 hX dX3_init_18 (by decide) ?_
  refine tr_sipush 128 hX dX3_init_20 (by decide) ?_
  refine tr_mna (ty := .long) (N := 8) (K' := 128) (z := (128, .inr (.inl (fun _ => 0)))) (j14 := 5) (j11 := 2) hX dX3_init_23 rfl rfl (fun _ z => by cases z) (by decide) rfl (fun w => cellOf_rowsL sh_63) (fun w c i hi hg => by rw [cellOf_long (gd_63 i hi), gl_aw0 hg]) (by intro c; show ({ cls := c, slots := Array.replicate 128 _, vm := .none } : Cell) = vp_cell c _; rw [vp_cell_l, arrV_new]; rfl) k_4_16 k_4_17 (by decide) (by decide) (by decide) (by decide) (by decide) (by decide) (by decide) (by decide) (by decide) (by decide) (by rw [hS.2.2.2.2.1]; exact Nat.le_of_ble_eq_true rfl) (by rw [hS.2.2.2.2.1]; exact Nat.le_of_ble_eq_true rfl) ?_
  refine tr_putF hX dX3_init_27 sh_53 (by decide) rfl inlX3 tyX3 tyX3_ok nmX3 (by decide) rfl k_4_18 rfl hS.2.2.2.2.2.1 rfl rfl rfl rfl (by decide) hS.no ?_
  refine tr_aload_n 0 hX dX3_init_30 rfl rfl ?_
  refine tr_bipush 8 hX dX3_init_31 (by decide) ?_
  refine tr_newi hX dX3_init_33 sh_72 k_2_20 (by decide) (by decide) (by decide) (by decide) (by rw [hS.2.2.2.2.1]; exact Nat.le_of_ble_eq_true rfl) (by rw [hS.2.2.2.2.1]; exact Nat.le_of_ble_eq_true rfl) ?_
  refine tr_putF hX dX3_init_35 sh_53 (by decide) rfl inlX3 tyX3 tyX3_ok nmX3 (by decide) rfl k_4_19 rfl hS.2.2.2.2.2.1 rfl rfl rfl rfl (by decide) hS.no ?_
  refine tr_aload_n 0 hX dX3_init_38 rfl rfl ?_
  refine tr_new hX dX3_init_39 sh_73 (by decide) rfl inlX7 tyX7 tyX7_ok df_X7 k_4_20 k_4_21 k_4_22 (by decide) (by rw [hS.2.2.2.2.1]; exact Nat.le_of_ble_eq_true rfl) (by rw [hS.2.2.2.2.1]; exact Nat.le_of_ble_eq_true rfl) ?_
  refine tr_dup hX dX3_init_42 rfl ?_
  refine tr_aload_n 1 hX dX3_init_43 rfl rfl ?_
  refine tr_callI (st := [.ref (cxAd X 73), .ref (cxAd X 53)]) (As := [.ref (cxAd X x1)]) (q := 73) 1 hX dX3_init_44 (by rw [hS.1]; exact (okc_X7_init_73 x1 hx1)) k_5_0 k_5_1 k_4_22 k_5_2 rfl hy_X7_init.2 rfl (by rw [hS.2.2.2.2.1]; exact ⟨Nat.le_of_ble_eq_true rfl, Nat.le_of_ble_eq_true rfl⟩) (by rw [hS.2.2.2.2.1]; exact ⟨Nat.le_of_ble_eq_true rfl, Nat.le_of_ble_eq_true rfl⟩) (Nat.le_of_ble_eq_true rfl) rfl ?_
  refine tr_putF hX dX3_init_47 sh_53 (by decide) rfl inlX3 tyX3 tyX3_ok nmX3 (by decide) rfl k_4_23 rfl hS.2.2.2.2.2.1 rfl rfl rfl rfl (by decide) hS.no ?_
  exact tr_vretN hX hS dX3_init_50 rfl rfl
theorem okc_X3_init_53 {l : Launch} {E : Ev} (x1 : Nat) (hx1 : isT x1) : Ok l E Gno yX3_init cX3_init 2 none { frames := 2, cells := 95, slots := 2879, locals := 33 } eU [.ref (E.2.1 53), .ref (E.2.1 x1)] (fc_X3_init_53 x1) := by
  refine ok_ofN (by decide) rfl (Nat.le_of_ble_eq_true rfl) (fun X hX hV hS => ?_)
  subst hV
  exact tc_X3_init_53 hX hS x1 hx1
def fc_X5_init_149 : M Unit :=
  al 150 1 (gx 149 (wR 149 1 150 (al 151 1 (gx 149 (wR 149 2 151 (al 152 1 (gx 149 (wR 149 3 152 (al 153 1 (gx 149 (wR 149 4 153 (rt ()))))))))))))
set_option maxRecDepth 10000 in
set_option maxHeartbeats 4000000 in
theorem tc_X5_init_149 {X : Cx} (hX : Good X RX5 cX5_init none) (hS : Stn X { frames := 1, cells := 4, slots := 80, locals := 12 } 1) : Tr X eU 0 0 0 [(0, .ref (cxAd X 149))] [] (fc_X5_init_149) := by
  unfold fc_X5_init_149
  refine tr_aload_n 0 hX dX5_init_0 rfl rfl ?_
  refine tr_oinit hX dX5_init_1 k_5_19 k_1_11 k_1_12 (by rw [hS.2.2.2.2.1]; exact Nat.le_of_ble_eq_true rfl) (by rw [hS.2.2.2.2.1]; exact Nat.le_of_ble_eq_true rfl) ?_
  refine tr_aload_n 0 hX dX5_init_4 rfl rfl ?_
  refine tr_bipush 20 hX dX5_init_5 (by decide) ?_
  refine tr_newi hX dX5_init_7 sh_150 k_2_20 (by decide) (by decide) (by decide) (by decide) (by rw [hS.2.2.2.2.1]; exact Nat.le_of_ble_eq_true rfl) (by rw [hS.2.2.2.2.1]; exact Nat.le_of_ble_eq_true rfl) ?_
  refine tr_putF hX dX5_init_9 sh_149 (by decide) rfl inlX5 tyX5 tyX5_ok nmX5 (by decide) rfl k_5_20 rfl hS.2.2.2.2.2.1 rfl rfl rfl rfl (by decide) hS.no ?_
  refine tr_aload_n 0 hX dX5_init_12 rfl rfl ?_
  refine tr_bipush 20 hX dX5_init_13 (by decide) ?_
  refine tr_newi hX dX5_init_15 sh_151 k_2_20 (by decide) (by decide) (by decide) (by decide) (by rw [hS.2.2.2.2.1]; exact Nat.le_of_ble_eq_true rfl) (by rw [hS.2.2.2.2.1]; exact Nat.le_of_ble_eq_true rfl) ?_
  refine tr_putF hX dX5_init_17 sh_149 (by decide) rfl inlX5 tyX5 tyX5_ok nmX5 (by decide) rfl k_5_21 rfl hS.2.2.2.2.2.1 rfl rfl rfl rfl (by decide) hS.no ?_
  refine tr_aload_n 0 hX dX5_init_20 rfl rfl ?_
  refine tr_bipush 20 hX dX5_init_21 (by decide) ?_
  refine tr_newi hX dX5_init_23 sh_152 k_2_20 (by decide) (by decide) (by decide) (by decide) (by rw [hS.2.2.2.2.1]; exact Nat.le_of_ble_eq_true rfl) (by rw [hS.2.2.2.2.1]; exact Nat.le_of_ble_eq_true rfl) ?_
  refine tr_putF hX dX5_init_25 sh_149 (by decide) rfl inlX5 tyX5 tyX5_ok nmX5 (by decide) rfl k_5_22 rfl hS.2.2.2.2.2.1 rfl rfl rfl rfl (by decide) hS.no ?_
  refine tr_aload_n 0 hX dX5_init_28 rfl rfl ?_
  refine tr_bipush 20 hX dX5_init_29 (by decide) ?_
  refine tr_newi hX dX5_init_31 sh_153 k_2_20 (by decide) (by decide) (by decide) (by decide) (by rw [hS.2.2.2.2.1]; exact Nat.le_of_ble_eq_true rfl) (by rw [hS.2.2.2.2.1]; exact Nat.le_of_ble_eq_true rfl) ?_
  refine tr_putF hX dX5_init_33 sh_149 (by decide) rfl inlX5 tyX5 tyX5_ok nmX5 (by decide) rfl k_5_23 rfl hS.2.2.2.2.2.1 rfl rfl rfl rfl (by decide) hS.no ?_
  exact tr_vretN hX hS dX5_init_36 rfl rfl
theorem okc_X5_init_149 {l : Launch} {E : Ev} : Ok l E Gno yX5_init cX5_init 1 none { frames := 1, cells := 4, slots := 80, locals := 12 } eU [.ref (E.2.1 149)] (fc_X5_init_149) := by
  refine ok_ofN (by decide) rfl (Nat.le_of_ble_eq_true rfl) (fun X hX hV hS => ?_)
  subst hV
  exact tc_X5_init_149 hX hS
def fc_X2_init_154 : M Unit :=
  al 155 1 (gx 154 (wR 154 1 155 (al 156 1 (gx 154 (wR 154 2 156 (al 157 1 (gx 154 (wR 154 3 157 (al 158 1 (gx 154 (wR 154 4 158 (rt ()))))))))))))
set_option maxRecDepth 10000 in
set_option maxHeartbeats 4000000 in
theorem tc_X2_init_154 {X : Cx} (hX : Good X RX2 cX2_init none) (hS : Stn X { frames := 1, cells := 4, slots := 64, locals := 12 } 1) : Tr X eU 0 0 0 [(0, .ref (cxAd X 154))] [] (fc_X2_init_154) := by
  unfold fc_X2_init_154
  refine tr_aload_n 0 hX dX2_init_0 rfl rfl ?_
  refine tr_oinit hX dX2_init_1 k_6_2 k_1_11 k_1_12 (by rw [hS.2.2.2.2.1]; exact Nat.le_of_ble_eq_true rfl) (by rw [hS.2.2.2.2.1]; exact Nat.le_of_ble_eq_true rfl) ?_
  refine tr_aload_n 0 hX dX2_init_4 rfl rfl ?_
  refine tr_bipush 16 hX dX2_init_5 (by decide) ?_
  refine tr_newz hX dX2_init_7 sh_155 k_4_8 (by decide) (by decide) (by decide) (by decide) (by rw [hS.2.2.2.2.1]; exact Nat.le_of_ble_eq_true rfl) (by rw [hS.2.2.2.2.1]; exact Nat.le_of_ble_eq_true rfl) ?_
  refine tr_putF hX dX2_init_9 sh_154 (by decide) rfl inlX2 tyX2 tyX2_ok nmX2 (by decide) rfl k_6_3 rfl hS.2.2.2.2.2.1 rfl rfl rfl rfl (by decide) hS.no ?_
  refine tr_aload_n 0 hX dX2_init_12 rfl rfl ?_
  refine tr_bipush 16 hX dX2_init_13 (by decide) ?_
  refine tr_newi hX dX2_init_15 sh_156 k_2_20 (by decide) (by decide) (by decide) (by decide) (by rw [hS.2.2.2.2.1]; exact Nat.le_of_ble_eq_true rfl) (by rw [hS.2.2.2.2.1]; exact Nat.le_of_ble_eq_true rfl) ?_
  refine tr_putF hX dX2_init_17 sh_154 (by decide) rfl inlX2 tyX2 tyX2_ok nmX2 (by decide) rfl k_6_4 rfl hS.2.2.2.2.2.1 rfl rfl rfl rfl (by decide) hS.no ?_
  refine tr_aload_n 0 hX dX2_init_20 rfl rfl ?_
  refine tr_bipush 16 hX dX2_init_21 (by decide) ?_
  refine tr_newi hX dX2_init_23 sh_157 k_2_20 (by decide) (by decide) (by decide) (by decide) (by rw [hS.2.2.2.2.1]; exact Nat.le_of_ble_eq_true rfl) (by rw [hS.2.2.2.2.1]; exact Nat.le_of_ble_eq_true rfl) ?_
  refine tr_putF hX dX2_init_25 sh_154 (by decide) rfl inlX2 tyX2 tyX2_ok nmX2 (by decide) rfl k_6_5 rfl hS.2.2.2.2.2.1 rfl rfl rfl rfl (by decide) hS.no ?_
  refine tr_aload_n 0 hX dX2_init_28 rfl rfl ?_
  refine tr_bipush 16 hX dX2_init_29 (by decide) ?_
  refine tr_newi hX dX2_init_31 sh_158 k_2_20 (by decide) (by decide) (by decide) (by decide) (by rw [hS.2.2.2.2.1]; exact Nat.le_of_ble_eq_true rfl) (by rw [hS.2.2.2.2.1]; exact Nat.le_of_ble_eq_true rfl) ?_
  refine tr_putF hX dX2_init_33 sh_154 (by decide) rfl inlX2 tyX2 tyX2_ok nmX2 (by decide) rfl k_6_6 rfl hS.2.2.2.2.2.1 rfl rfl rfl rfl (by decide) hS.no ?_
  exact tr_vretN hX hS dX2_init_36 rfl rfl
theorem okc_X2_init_154 {l : Launch} {E : Ev} : Ok l E Gno yX2_init cX2_init 1 none { frames := 1, cells := 4, slots := 64, locals := 12 } eU [.ref (E.2.1 154)] (fc_X2_init_154) := by
  refine ok_ofN (by decide) rfl (Nat.le_of_ble_eq_true rfl) (fun X hX hV hS => ?_)
  subst hV
  exact tc_X2_init_154 hX hS
def fc_X8_init_0 : M Unit :=
  al 1 1 (bnd (fc_X4_init_1) (fun _ => gx 0 (wR 0 0 1 (al 4 1 (bnd (fc_X6_init_4) (fun _ => gx 0 (wR 0 1 4 (al 12 1 (bnd (fc_X6_init_12) (fun _ => gx 0 (wR 0 2 12 (al 20 1 (bnd (fc_X0_init_20) (fun _ => gx 0 (wR 0 3 20 (al 30 1 (bnd (fc_X0_init_30) (fun _ => gx 0 (wR 0 4 30 (al 40 1 (bnd (fc_X0_init_40) (fun _ => gx 0 (wR 0 5 40 (al 50 1 (bnd (fc_X1_init_50) (fun _ => gx 0 (wR 0 7 50 (al 53 1 (gx 0 (rT 0 1 (fun t1 => bnd (fc_X3_init_53 t1) (fun _ => gx 0 (wR 0 8 53 (al 149 1 (bnd (fc_X5_init_149) (fun _ => gx 0 (wR 0 9 149 (al 154 1 (bnd (fc_X2_init_154) (fun _ => gx 0 (wR 0 10 154 (al 159 1 (gx 0 (wR 0 11 159 (al 160 1 (gx 0 (wR 0 12 160 (rt ()))))))))))))))))))))))))))))))))))))))))))))))))
set_option maxRecDepth 10000 in
set_option maxHeartbeats 4000000 in
theorem tc_X8_init_0 {X : Cx} (hX : Good X RX8 cX8_init none) (hS : Stn X { frames := 3, cells := 160, slots := 5416, locals := 54 } 1) : Tr X eU 0 0 0 [(0, .ref (cxAd X 0))] [] (fc_X8_init_0) := by
  unfold fc_X8_init_0
  refine tr_aload_n 0 hX dX8_init_0 rfl rfl ?_
  refine tr_oinit hX dX8_init_1 k_1_10 k_1_11 k_1_12 (by rw [hS.2.2.2.2.1]; exact Nat.le_of_ble_eq_true rfl) (by rw [hS.2.2.2.2.1]; exact Nat.le_of_ble_eq_true rfl) ?_
  refine tr_aload_n 0 hX dX8_init_4 rfl rfl ?_
  refine tr_new hX dX8_init_5 sh_1 (by decide) rfl inlX4 tyX4 tyX4_ok df_X4 k_1_13 k_1_14 k_1_15 (by decide) (by rw [hS.2.2.2.2.1]; exact Nat.le_of_ble_eq_true rfl) (by rw [hS.2.2.2.2.1]; exact Nat.le_of_ble_eq_true rfl) ?_
  refine tr_dup hX dX8_init_8 rfl ?_
  refine tr_callIN (st := [.ref (cxAd X 1), .ref (cxAd X 0)]) (As := []) (q := 1) (host := "SaidWoven") 0 hX dX8_init_9 (by rw [hS.1]; exact (okc_X4_init_1  )) (by decide +kernel) k_2_23 k_1_15 k_3_0 rfl hy_X4_init.2 rfl (by rw [hS.2.2.2.2.1]; exact ⟨Nat.le_of_ble_eq_true rfl, Nat.le_of_ble_eq_true rfl⟩) (by rw [hS.2.2.2.2.1]; exact ⟨Nat.le_of_ble_eq_true rfl, Nat.le_of_ble_eq_true rfl⟩) (Nat.le_of_ble_eq_true rfl) rfl ?_
  refine tr_putF hX dX8_init_12 sh_0 (by decide) rfl inlX8 tyX8 tyX8_ok nmX8 (by decide) rfl k_1_16 rfl hS.2.2.2.2.2.1 rfl rfl rfl rfl (by decide) hS.no ?_
  refine tr_aload_n 0 hX dX8_init_15 rfl rfl ?_
  refine tr_new hX dX8_init_16 sh_4 (by decide) rfl inlX6 tyX6 tyX6_ok df_X6 k_1_17 k_1_18 k_1_19 (by decide) (by rw [hS.2.2.2.2.1]; exact Nat.le_of_ble_eq_true rfl) (by rw [hS.2.2.2.2.1]; exact Nat.le_of_ble_eq_true rfl) ?_
  refine tr_dup hX dX8_init_19 rfl ?_
  refine tr_callI (st := [.ref (cxAd X 4), .ref (cxAd X 0)]) (As := []) (q := 4) 0 hX dX8_init_20 (by rw [hS.1]; exact (okc_X6_init_4  )) k_3_5 k_3_6 k_1_19 k_3_7 rfl hy_X6_init.2 rfl (by rw [hS.2.2.2.2.1]; exact ⟨Nat.le_of_ble_eq_true rfl, Nat.le_of_ble_eq_true rfl⟩) (by rw [hS.2.2.2.2.1]; exact ⟨Nat.le_of_ble_eq_true rfl, Nat.le_of_ble_eq_true rfl⟩) (Nat.le_of_ble_eq_true rfl) rfl ?_
  refine tr_putTX hX dX8_init_23 sh_0 (by decide) rfl inlX8 tyX8 tyX8_ok nmX8 (by decide) rfl k_1_20 rfl rfl rfl rfl (by decide) hS.no ?_
  refine tr_aload_n 0 hX dX8_init_26 rfl rfl ?_
  refine tr_new hX dX8_init_27 sh_12 (by decide) rfl inlX6 tyX6 tyX6_ok df_X6 k_1_17 k_1_18 k_1_19 (by decide) (by rw [hS.2.2.2.2.1]; exact Nat.le_of_ble_eq_true rfl) (by rw [hS.2.2.2.2.1]; exact Nat.le_of_ble_eq_true rfl) ?_
  refine tr_dup hX dX8_init_30 rfl ?_
  refine tr_callI (st := [.ref (cxAd X 12), .ref (cxAd X 0)]) (As := []) (q := 12) 0 hX dX8_init_31 (by rw [hS.1]; exact (okc_X6_init_12  )) k_3_5 k_3_6 k_1_19 k_3_7 rfl hy_X6_init.2 rfl (by rw [hS.2.2.2.2.1]; exact ⟨Nat.le_of_ble_eq_true rfl, Nat.le_of_ble_eq_true rfl⟩) (by rw [hS.2.2.2.2.1]; exact ⟨Nat.le_of_ble_eq_true rfl, Nat.le_of_ble_eq_true rfl⟩) (Nat.le_of_ble_eq_true rfl) rfl ?_
  refine tr_putTX hX dX8_init_34 sh_0 (by decide) rfl inlX8 tyX8 tyX8_ok nmX8 (by decide) rfl k_1_21 rfl rfl rfl rfl (by decide) hS.no ?_
  refine tr_aload_n 0 hX dX8_init_37 rfl rfl ?_
  refine tr_new hX dX8_init_38 sh_20 (by decide) rfl inlX0 tyX0 tyX0_ok df_X0 k_1_22 k_1_23 k_2_0 (by decide) (by rw [hS.2.2.2.2.1]; exact Nat.le_of_ble_eq_true rfl) (by rw [hS.2.2.2.2.1]; exact Nat.le_of_ble_eq_true rfl) ?_
  refine tr_dup hX dX8_init_41 rfl ?_
  refine tr_callIN (st := [.ref (cxAd X 20), .ref (cxAd X 0)]) (As := []) (q := 20) (host := "SaidWoven") 0 hX dX8_init_42 (by rw [hS.1]; exact (okc_X0_init_20  )) (by decide +kernel) k_3_21 k_2_0 k_3_22 rfl hy_X0_init.2 rfl (by rw [hS.2.2.2.2.1]; exact ⟨Nat.le_of_ble_eq_true rfl, Nat.le_of_ble_eq_true rfl⟩) (by rw [hS.2.2.2.2.1]; exact ⟨Nat.le_of_ble_eq_true rfl, Nat.le_of_ble_eq_true rfl⟩) (Nat.le_of_ble_eq_true rfl) rfl ?_
  refine tr_putF hX dX8_init_45 sh_0 (by decide) rfl inlX8 tyX8 tyX8_ok nmX8 (by decide) rfl k_2_1 rfl hS.2.2.2.2.2.1 rfl rfl rfl rfl (by decide) hS.no ?_
  refine tr_aload_n 0 hX dX8_init_48 rfl rfl ?_
  refine tr_new hX dX8_init_49 sh_30 (by decide) rfl inlX0 tyX0 tyX0_ok df_X0 k_1_22 k_1_23 k_2_0 (by decide) (by rw [hS.2.2.2.2.1]; exact Nat.le_of_ble_eq_true rfl) (by rw [hS.2.2.2.2.1]; exact Nat.le_of_ble_eq_true rfl) ?_
  refine tr_dup hX dX8_init_52 rfl ?_
  refine tr_callIN (st := [.ref (cxAd X 30), .ref (cxAd X 0)]) (As := []) (q := 30) (host := "SaidWoven") 0 hX dX8_init_53 (by rw [hS.1]; exact (okc_X0_init_30  )) (by decide +kernel) k_3_21 k_2_0 k_3_22 rfl hy_X0_init.2 rfl (by rw [hS.2.2.2.2.1]; exact ⟨Nat.le_of_ble_eq_true rfl, Nat.le_of_ble_eq_true rfl⟩) (by rw [hS.2.2.2.2.1]; exact ⟨Nat.le_of_ble_eq_true rfl, Nat.le_of_ble_eq_true rfl⟩) (Nat.le_of_ble_eq_true rfl) rfl ?_
  refine tr_putF hX dX8_init_56 sh_0 (by decide) rfl inlX8 tyX8 tyX8_ok nmX8 (by decide) rfl k_2_2 rfl hS.2.2.2.2.2.1 rfl rfl rfl rfl (by decide) hS.no ?_
  refine tr_aload_n 0 hX dX8_init_59 rfl rfl ?_
  refine tr_new hX dX8_init_60 sh_40 (by decide) rfl inlX0 tyX0 tyX0_ok df_X0 k_1_22 k_1_23 k_2_0 (by decide) (by rw [hS.2.2.2.2.1]; exact Nat.le_of_ble_eq_true rfl) (by rw [hS.2.2.2.2.1]; exact Nat.le_of_ble_eq_true rfl) ?_
  refine tr_dup hX dX8_init_63 rfl ?_
  refine tr_callIN (st := [.ref (cxAd X 40), .ref (cxAd X 0)]) (As := []) (q := 40) (host := "SaidWoven") 0 hX dX8_init_64 (by rw [hS.1]; exact (okc_X0_init_40  )) (by decide +kernel) k_3_21 k_2_0 k_3_22 rfl hy_X0_init.2 rfl (by rw [hS.2.2.2.2.1]; exact ⟨Nat.le_of_ble_eq_true rfl, Nat.le_of_ble_eq_true rfl⟩) (by rw [hS.2.2.2.2.1]; exact ⟨Nat.le_of_ble_eq_true rfl, Nat.le_of_ble_eq_true rfl⟩) (Nat.le_of_ble_eq_true rfl) rfl ?_
  refine tr_putF hX dX8_init_67 sh_0 (by decide) rfl inlX8 tyX8 tyX8_ok nmX8 (by decide) rfl k_2_3 rfl hS.2.2.2.2.2.1 rfl rfl rfl rfl (by decide) hS.no ?_
  refine tr_aload_n 0 hX dX8_init_70 rfl rfl ?_
  refine tr_new hX dX8_init_71 sh_50 (by decide) rfl inlX1 tyX1 tyX1_ok df_X1 k_2_4 k_2_5 k_2_6 (by decide) (by rw [hS.2.2.2.2.1]; exact Nat.le_of_ble_eq_true rfl) (by rw [hS.2.2.2.2.1]; exact Nat.le_of_ble_eq_true rfl) ?_
  refine tr_dup hX dX8_init_74 rfl ?_
  refine tr_callIN (st := [.ref (cxAd X 50), .ref (cxAd X 0)]) (As := []) (q := 50) (host := "SaidWoven") 0 hX dX8_init_75 (by rw [hS.1]; exact (okc_X1_init_50  )) (by decide +kernel) k_4_4 k_2_6 k_4_5 rfl hy_X1_init.2 rfl (by rw [hS.2.2.2.2.1]; exact ⟨Nat.le_of_ble_eq_true rfl, Nat.le_of_ble_eq_true rfl⟩) (by rw [hS.2.2.2.2.1]; exact ⟨Nat.le_of_ble_eq_true rfl, Nat.le_of_ble_eq_true rfl⟩) (Nat.le_of_ble_eq_true rfl) rfl ?_
  refine tr_putF hX dX8_init_78 sh_0 (by decide) rfl inlX8 tyX8 tyX8_ok nmX8 (by decide) rfl k_2_7 rfl hS.2.2.2.2.2.1 rfl rfl rfl rfl (by decide) hS.no ?_
  refine tr_aload_n 0 hX dX8_init_81 rfl rfl ?_
  refine tr_new hX dX8_init_82 sh_53 (by decide) rfl inlX3 tyX3 tyX3_ok df_X3 k_2_8 k_2_9 k_2_10 (by decide) (by rw [hS.2.2.2.2.1]; exact Nat.le_of_ble_eq_true rfl) (by rw [hS.2.2.2.2.1]; exact Nat.le_of_ble_eq_true rfl) ?_
  refine tr_dup hX dX8_init_85 rfl ?_
  refine tr_aload_n 0 hX dX8_init_86 rfl rfl ?_
  refine tr_getTX hX dX8_init_87 sh_0 (by decide) rfl inlX8 (by decide) rfl (by decide) k_1_20 (fun t1 ht1 => ?_)
  refine tr_callI (st := [.ref (cxAd X 53), .ref (cxAd X 0)]) (As := [.ref (cxAd X t1)]) (q := 53) 1 hX dX8_init_90 (by rw [hS.1]; exact (okc_X3_init_53 t1 ht1)) k_4_10 k_4_11 k_2_10 k_4_12 rfl hy_X3_init.2 rfl (by rw [hS.2.2.2.2.1]; exact ⟨Nat.le_of_ble_eq_true rfl, Nat.le_of_ble_eq_true rfl⟩) (by rw [hS.2.2.2.2.1]; exact ⟨Nat.le_of_ble_eq_true rfl, Nat.le_of_ble_eq_true rfl⟩) (Nat.le_of_ble_eq_true rfl) rfl ?_
  refine tr_putF hX dX8_init_93 sh_0 (by decide) rfl inlX8 tyX8 tyX8_ok nmX8 (by decide) rfl k_2_11 rfl hS.2.2.2.2.2.1 rfl rfl rfl rfl (by decide) hS.no ?_
  refine tr_aload_n 0 hX dX8_init_96 rfl rfl ?_
  refine tr_new hX dX8_init_97 sh_149 (by decide) rfl inlX5 tyX5 tyX5_ok df_X5 k_2_12 k_2_13 k_2_14 (by decide) (by rw [hS.2.2.2.2.1]; exact Nat.le_of_ble_eq_true rfl) (by rw [hS.2.2.2.2.1]; exact Nat.le_of_ble_eq_true rfl) ?_
  refine tr_dup hX dX8_init_100 rfl ?_
  refine tr_callIN (st := [.ref (cxAd X 149), .ref (cxAd X 0)]) (As := []) (q := 149) (host := "SaidWoven") 0 hX dX8_init_101 (by rw [hS.1]; exact (okc_X5_init_149  )) (by decide +kernel) k_5_17 k_2_14 k_5_18 rfl hy_X5_init.2 rfl (by rw [hS.2.2.2.2.1]; exact ⟨Nat.le_of_ble_eq_true rfl, Nat.le_of_ble_eq_true rfl⟩) (by rw [hS.2.2.2.2.1]; exact ⟨Nat.le_of_ble_eq_true rfl, Nat.le_of_ble_eq_true rfl⟩) (Nat.le_of_ble_eq_true rfl) rfl ?_
  refine tr_putF hX dX8_init_104 sh_0 (by decide) rfl inlX8 tyX8 tyX8_ok nmX8 (by decide) rfl k_2_15 rfl hS.2.2.2.2.2.1 rfl rfl rfl rfl (by decide) hS.no ?_
  refine tr_aload_n 0 hX dX8_init_107 rfl rfl ?_
  refine tr_new hX dX8_init_108 sh_154 (by decide) rfl inlX2 tyX2 tyX2_ok df_X2 k_2_16 k_2_17 k_2_18 (by decide) (by rw [hS.2.2.2.2.1]; exact Nat.le_of_ble_eq_true rfl) (by rw [hS.2.2.2.2.1]; exact Nat.le_of_ble_eq_true rfl) ?_
  refine tr_dup hX dX8_init_111 rfl ?_
  refine tr_callIN (st := [.ref (cxAd X 154), .ref (cxAd X 0)]) (As := []) (q := 154) (host := "SaidWoven") 0 hX dX8_init_112 (by rw [hS.1]; exact (okc_X2_init_154  )) (by decide +kernel) k_6_0 k_2_18 k_6_1 rfl hy_X2_init.2 rfl (by rw [hS.2.2.2.2.1]; exact ⟨Nat.le_of_ble_eq_true rfl, Nat.le_of_ble_eq_true rfl⟩) (by rw [hS.2.2.2.2.1]; exact ⟨Nat.le_of_ble_eq_true rfl, Nat.le_of_ble_eq_true rfl⟩) (Nat.le_of_ble_eq_true rfl) rfl ?_
  refine tr_putF hX dX8_init_115 sh_0 (by decide) rfl inlX8 tyX8 tyX8_ok nmX8 (by decide) rfl k_2_19 rfl hS.2.2.2.2.2.1 rfl rfl rfl rfl (by decide) hS.no ?_
  refine tr_aload_n 0 hX dX8_init_118 rfl rfl ?_
  refine tr_bipush 8 hX dX8_init_119 (by decide) ?_
  refine tr_newi hX dX8_init_121 sh_159 k_2_20 (by decide) (by decide) (by decide) (by decide) (by rw [hS.2.2.2.2.1]; exact Nat.le_of_ble_eq_true rfl) (by rw [hS.2.2.2.2.1]; exact Nat.le_of_ble_eq_true rfl) ?_
  refine tr_putF hX dX8_init_123 sh_0 (by decide) rfl inlX8 tyX8 tyX8_ok nmX8 (by decide) rfl k_2_21 rfl hS.2.2.2.2.2.1 rfl rfl rfl rfl (by decide) hS.no ?_
  refine tr_aload_n 0 hX dX8_init_126 rfl rfl ?_
  refine tr_bipush 32 hX dX8_init_127 (by decide) ?_
  refine tr_newi hX dX8_init_129 sh_160 k_2_20 (by decide) (by decide) (by decide) (by decide) (by rw [hS.2.2.2.2.1]; exact Nat.le_of_ble_eq_true rfl) (by rw [hS.2.2.2.2.1]; exact Nat.le_of_ble_eq_true rfl) ?_
  refine tr_putF hX dX8_init_131 sh_0 (by decide) rfl inlX8 tyX8 tyX8_ok nmX8 (by decide) rfl k_2_22 rfl hS.2.2.2.2.2.1 rfl rfl rfl rfl (by decide) hS.no ?_
  exact tr_vretN hX hS dX8_init_134 rfl rfl
theorem okc_X8_init_0 {l : Launch} {E : Ev} : Ok l E Gno yX8_init cX8_init 1 none { frames := 3, cells := 160, slots := 5416, locals := 54 } eU [.ref (E.2.1 0)] (fc_X8_init_0) := by
  refine ok_ofN (by decide) rfl (Nat.le_of_ble_eq_true rfl) (fun X hX hV hS => ?_)
  subst hV
  exact tc_X8_init_0 hX hS
def fc_X9_init_161 : M Unit :=
  al 162 1 (gx 161 (wR 161 1 162 (al 163 1 (gx 161 (wR 161 2 163 (al 164 1 (gx 161 (wR 161 3 164 (al 165 1 (gx 161 (wR 161 4 165 (al 166 1 (gx 161 (wR 161 5 166 (al 167 1 (gx 161 (wR 161 6 167 (al 168 1 (gx 161 (wR 161 7 168 (al 169 1 (gx 161 (wR 161 8 169 (al 170 1 (gx 161 (wR 161 9 170 (al 171 1 (gx 161 (wR 161 10 171 (al 172 1 (gx 161 (wR 161 11 172 (al 173 1 (gx 161 (wR 161 14 173 (al 174 1 (gx 161 (wR 161 16 174 (al 175 1 (gx 161 (wR 161 18 175 (al 176 1 (gx 161 (wR 161 20 176 (al 177 1 (gx 161 (wR 161 21 177 (al 178 1 (gx 161 (wR 161 22 178 (al 179 1 (gx 161 (wR 161 24 179 (al 180 1 (gx 161 (wR 161 25 180 (al 181 1 (gx 161 (wR 161 26 181 (al 182 1 (gx 161 (wR 161 27 182 (al 183 1 (gx 161 (wR 161 28 183 (al 184 1 (gx 161 (wR 161 29 184 (al 185 1 (gx 161 (wR 161 30 185 (al 186 1 (gx 161 (wR 161 31 186 (gw 161 (bnd (f_X9_noItems 0) (fun _ => rt ())))))))))))))))))))))))))))))))))))))))))))))))))))))))))))))))))))))))))))))
set_option maxRecDepth 10000 in
set_option maxHeartbeats 4000000 in
theorem tc_X9_init_161 {X : Cx} (hX : Good X RX9 cX9_init none) (hS : Stn X { frames := 1, cells := 25, slots := 8875, locals := 22 } 1) : Tr X eU 0 0 0 [(0, .ref (cxAd X 161))] [] (fc_X9_init_161) := by
  unfold fc_X9_init_161
  refine tr_aload_n 0 hX dX9_init_0 rfl rfl ?_
  refine tr_oinit hX dX9_init_1 k_6_10 k_1_11 k_1_12 (by rw [hS.2.2.2.2.1]; exact Nat.le_of_ble_eq_true rfl) (by rw [hS.2.2.2.2.1]; exact Nat.le_of_ble_eq_true rfl) ?_
  refine tr_aload_n 0 hX dX9_init_4 rfl rfl ?_
  refine tr_sipush 300 hX dX9_init_5 (by decide) ?_
  refine tr_newi hX dX9_init_8 sh_162 k_2_20 (by decide) (by decide) (by decide) (by decide) (by rw [hS.2.2.2.2.1]; exact Nat.le_of_ble_eq_true rfl) (by rw [hS.2.2.2.2.1]; exact Nat.le_of_ble_eq_true rfl) ?_
  refine tr_putF hX dX9_init_10 sh_161 (by decide) rfl inlX9 tyX9 tyX9_ok nmX9 (by decide) rfl k_6_11 rfl hS.2.2.2.2.2.1 rfl rfl rfl rfl (by decide) hS.no ?_
  refine tr_aload_n 0 hX dX9_init_13 rfl rfl ?_
  refine tr_iconst 2 hX dX9_init_14 (by decide) ?_
  refine tr_newi hX dX9_init_15 sh_163 k_2_20 (by decide) (by decide) (by decide) (by decide) (by rw [hS.2.2.2.2.1]; exact Nat.le_of_ble_eq_true rfl) (by rw [hS.2.2.2.2.1]; exact Nat.le_of_ble_eq_true rfl) ?_
  refine tr_putF hX dX9_init_17 sh_161 (by decide) rfl inlX9 tyX9 tyX9_ok nmX9 (by decide) rfl k_6_12 rfl hS.2.2.2.2.2.1 rfl rfl rfl rfl (by decide) hS.no ?_
  refine tr_aload_n 0 hX dX9_init_20 rfl rfl ?_
  refine tr_bipush 96 hX dX9_init_21 (by decide) ?_
  refine tr_newi hX dX9_init_23 sh_164 k_2_20 (by decide) (by decide) (by decide) (by decide) (by rw [hS.2.2.2.2.1]; exact Nat.le_of_ble_eq_true rfl) (by rw [hS.2.2.2.2.1]; exact Nat.le_of_ble_eq_true rfl) ?_
  refine tr_putF hX dX9_init_25 sh_161 (by decide) rfl inlX9 tyX9 tyX9_ok nmX9 (by decide) rfl k_6_13 rfl hS.2.2.2.2.2.1 rfl rfl rfl rfl (by decide) hS.no ?_
  refine tr_aload_n 0 hX dX9_init_28 rfl rfl ?_
  refine tr_sipush 128 hX dX9_init_29 (by decide) ?_
  refine tr_newi hX dX9_init_32 sh_165 k_2_20 (by decide) (by decide) (by decide) (by decide) (by rw [hS.2.2.2.2.1]; exact Nat.le_of_ble_eq_true rfl) (by rw [hS.2.2.2.2.1]; exact Nat.le_of_ble_eq_true rfl) ?_
  refine tr_putF hX dX9_init_34 sh_161 (by decide) rfl inlX9 tyX9 tyX9_ok nmX9 (by decide) rfl k_6_14 rfl hS.2.2.2.2.2.1 rfl rfl rfl rfl (by decide) hS.no ?_
  refine tr_aload_n 0 hX dX9_init_37 rfl rfl ?_
  refine tr_bipush 10 hX dX9_init_38 (by decide) ?_
  refine tr_newi hX dX9_init_40 sh_166 k_2_20 (by decide) (by decide) (by decide) (by decide) (by rw [hS.2.2.2.2.1]; exact Nat.le_of_ble_eq_true rfl) (by rw [hS.2.2.2.2.1]; exact Nat.le_of_ble_eq_true rfl) ?_
  refine tr_putF hX dX9_init_42 sh_161 (by decide) rfl inlX9 tyX9 tyX9_ok nmX9 (by decide) rfl k_6_15 rfl hS.2.2.2.2.2.1 rfl rfl rfl rfl (by decide) hS.no ?_
  refine tr_aload_n 0 hX dX9_init_45 rfl rfl ?_
  refine tr_bipush 18 hX dX9_init_46 (by decide) ?_
  refine tr_newi hX dX9_init_48 sh_167 k_2_20 (by decide) (by decide) (by decide) (by decide) (by rw [hS.2.2.2.2.1]; exact Nat.le_of_ble_eq_true rfl) (by rw [hS.2.2.2.2.1]; exact Nat.le_of_ble_eq_true rfl) ?_
  refine tr_putF hX dX9_init_50 sh_161 (by decide) rfl inlX9 tyX9 tyX9_ok nmX9 (by decide) rfl k_6_16 rfl hS.2.2.2.2.2.1 rfl rfl rfl rfl (by decide) hS.no ?_
  refine tr_aload_n 0 hX dX9_init_53 rfl rfl ?_
  refine tr_sipush 144 hX dX9_init_54 (by decide) ?_
  refine tr_newi hX dX9_init_57 sh_168 k_2_20 (by decide) (by decide) (by decide) (by decide) (by rw [hS.2.2.2.2.1]; exact Nat.le_of_ble_eq_true rfl) (by rw [hS.2.2.2.2.1]; exact Nat.le_of_ble_eq_true rfl) ?_
  refine tr_putF hX dX9_init_59 sh_161 (by decide) rfl inlX9 tyX9 tyX9_ok nmX9 (by decide) rfl k_6_17 rfl hS.2.2.2.2.2.1 rfl rfl rfl rfl (by decide) hS.no ?_
  refine tr_aload_n 0 hX dX9_init_62 rfl rfl ?_
  refine tr_iconst 3 hX dX9_init_63 (by decide) ?_
  refine tr_newi hX dX9_init_64 sh_169 k_2_20 (by decide) (by decide) (by decide) (by decide) (by rw [hS.2.2.2.2.1]; exact Nat.le_of_ble_eq_true rfl) (by rw [hS.2.2.2.2.1]; exact Nat.le_of_ble_eq_true rfl) ?_
  refine tr_putF hX dX9_init_66 sh_161 (by decide) rfl inlX9 tyX9 tyX9_ok nmX9 (by decide) rfl k_6_18 rfl hS.2.2.2.2.2.1 rfl rfl rfl rfl (by decide) hS.no ?_
  refine tr_aload_n 0 hX dX9_init_69 rfl rfl ?_
  refine tr_iconst 3 hX dX9_init_70 (by decide) ?_
  refine tr_newi hX dX9_init_71 sh_170 k_2_20 (by decide) (by decide) (by decide) (by decide) (by rw [hS.2.2.2.2.1]; exact Nat.le_of_ble_eq_true rfl) (by rw [hS.2.2.2.2.1]; exact Nat.le_of_ble_eq_true rfl) ?_
  refine tr_putF hX dX9_init_73 sh_161 (by decide) rfl inlX9 tyX9 tyX9_ok nmX9 (by decide) rfl k_6_19 rfl hS.2.2.2.2.2.1 rfl rfl rfl rfl (by decide) hS.no ?_
  refine tr_aload_n 0 hX dX9_init_76 rfl rfl ?_
  refine tr_iconst 3 hX dX9_init_77 (by decide) ?_
  refine tr_newi hX dX9_init_78 sh_171 k_2_20 (by decide) (by decide) (by decide) (by decide) (by rw [hS.2.2.2.2.1]; exact Nat.le_of_ble_eq_true rfl) (by rw [hS.2.2.2.2.1]; exact Nat.le_of_ble_eq_true rfl) ?_
  refine tr_putF hX dX9_init_80 sh_161 (by decide) rfl inlX9 tyX9 tyX9_ok nmX9 (by decide) rfl k_6_20 rfl hS.2.2.2.2.2.1 rfl rfl rfl rfl (by decide) hS.no ?_
  refine tr_aload_n 0 hX dX9_init_83 rfl rfl ?_
  refine tr_sipush 252 hX dX9_init_84 (by decide) ?_
  refine tr_newi hX dX9_init_87 sh_172 k_2_20 (by decide) (by decide) (by decide) (by decide) (by rw [hS.2.2.2.2.1]; exact Nat.le_of_ble_eq_true rfl) (by rw [hS.2.2.2.2.1]; exact Nat.le_of_ble_eq_true rfl) ?_
  refine tr_putF hX dX9_init_89 sh_161 (by decide) rfl inlX9 tyX9 tyX9_ok nmX9 (by decide) rfl k_6_21 rfl hS.2.2.2.2.2.1 rfl rfl rfl rfl (by decide) hS.no ?_
  refine tr_aload_n 0 hX dX9_init_92 rfl rfl ?_
  refine tr_bipush 60 hX dX9_init_93 (by decide) ?_
  refine tr_newi hX dX9_init_95 sh_173 k_2_20 (by decide) (by decide) (by decide) (by decide) (by rw [hS.2.2.2.2.1]; exact Nat.le_of_ble_eq_true rfl) (by rw [hS.2.2.2.2.1]; exact Nat.le_of_ble_eq_true rfl) ?_
  refine tr_putF hX dX9_init_97 sh_161 (by decide) rfl inlX9 tyX9 tyX9_ok nmX9 (by decide) rfl k_6_22 rfl hS.2.2.2.2.2.1 rfl rfl rfl rfl (by decide) hS.no ?_
  refine tr_aload_n 0 hX dX9_init_100 rfl rfl ?_
  refine tr_bipush 64 hX dX9_init_101 (by decide) ?_
  refine tr_newi hX dX9_init_103 sh_174 k_2_20 (by decide) (by decide) (by decide) (by decide) (by rw [hS.2.2.2.2.1]; exact Nat.le_of_ble_eq_true rfl) (by rw [hS.2.2.2.2.1]; exact Nat.le_of_ble_eq_true rfl) ?_
  refine tr_putF hX dX9_init_105 sh_161 (by decide) rfl inlX9 tyX9 tyX9_ok nmX9 (by decide) rfl k_6_23 rfl hS.2.2.2.2.2.1 rfl rfl rfl rfl (by decide) hS.no ?_
  refine tr_aload_n 0 hX dX9_init_108 rfl rfl ?_
  refine tr_iconst 4 hX dX9_init_109 (by decide) ?_
  refine tr_newi hX dX9_init_110 sh_175 k_2_20 (by decide) (by decide) (by decide) (by decide) (by rw [hS.2.2.2.2.1]; exact Nat.le_of_ble_eq_true rfl) (by rw [hS.2.2.2.2.1]; exact Nat.le_of_ble_eq_true rfl) ?_
  refine tr_putF hX dX9_init_112 sh_161 (by decide) rfl inlX9 tyX9 tyX9_ok nmX9 (by decide) rfl k_7_0 rfl hS.2.2.2.2.2.1 rfl rfl rfl rfl (by decide) hS.no ?_
  refine tr_aload_n 0 hX dX9_init_115 rfl rfl ?_
  refine tr_sipush 168 hX dX9_init_116 (by decide) ?_
  refine tr_newi hX dX9_init_119 sh_176 k_2_20 (by decide) (by decide) (by decide) (by decide) (by rw [hS.2.2.2.2.1]; exact Nat.le_of_ble_eq_true rfl) (by rw [hS.2.2.2.2.1]; exact Nat.le_of_ble_eq_true rfl) ?_
  refine tr_putF hX dX9_init_121 sh_161 (by decide) rfl inlX9 tyX9 tyX9_ok nmX9 (by decide) rfl k_7_1 rfl hS.2.2.2.2.2.1 rfl rfl rfl rfl (by decide) hS.no ?_
  refine tr_aload_n 0 hX dX9_init_124 rfl rfl ?_
  refine tr_sipush 168 hX dX9_init_125 (by decide) ?_
  refine tr_newi hX dX9_init_128 sh_177 k_2_20 (by decide) (by decide) (by decide) (by decide) (by rw [hS.2.2.2.2.1]; exact Nat.le_of_ble_eq_true rfl) (by rw [hS.2.2.2.2.1]; exact Nat.le_of_ble_eq_true rfl) ?_
  refine tr_putF hX dX9_init_130 sh_161 (by decide) rfl inlX9 tyX9 tyX9_ok nmX9 (by decide) rfl k_7_2 rfl hS.2.2.2.2.2.1 rfl rfl rfl rfl (by decide) hS.no ?_
  refine tr_aload_n 0 hX dX9_init_133 rfl rfl ?_
  refine tr_sipush 168 hX dX9_init_134 (by decide) ?_
  refine tr_newi hX dX9_init_137 sh_178 k_2_20 (by decide) (by decide) (by decide) (by decide) (by rw [hS.2.2.2.2.1]; exact Nat.le_of_ble_eq_true rfl) (by rw [hS.2.2.2.2.1]; exact Nat.le_of_ble_eq_true rfl) ?_
  refine tr_putF hX dX9_init_139 sh_161 (by decide) rfl inlX9 tyX9 tyX9_ok nmX9 (by decide) rfl k_7_3 rfl hS.2.2.2.2.2.1 rfl rfl rfl rfl (by decide) hS.no ?_
  refine tr_aload_n 0 hX dX9_init_142 rfl rfl ?_
  refine tr_bipush 8 hX dX9_init_143 (by decide) ?_
  refine tr_newi hX dX9_init_145 sh_179 k_2_20 (by decide) (by decide) (by decide) (by decide) (by rw [hS.2.2.2.2.1]; exact Nat.le_of_ble_eq_true rfl) (by rw [hS.2.2.2.2.1]; exact Nat.le_of_ble_eq_true rfl) ?_
  refine tr_putF hX dX9_init_147 sh_161 (by decide) rfl inlX9 tyX9 tyX9_ok nmX9 (by decide) rfl k_7_4 rfl hS.2.2.2.2.2.1 rfl rfl rfl rfl (by decide) hS.no ?_
  refine tr_aload_n 0 hX dX9_init_150 rfl rfl ?_
  refine tr_sipush 168 hX dX9_init_151 (by decide) ?_
  refine tr_newi hX dX9_init_154 sh_180 k_2_20 (by decide) (by decide) (by decide) (by decide) (by rw [hS.2.2.2.2.1]; exact Nat.le_of_ble_eq_true rfl) (by rw [hS.2.2.2.2.1]; exact Nat.le_of_ble_eq_true rfl) ?_
  refine tr_putF hX dX9_init_156 sh_161 (by decide) rfl inlX9 tyX9 tyX9_ok nmX9 (by decide) rfl k_7_5 rfl hS.2.2.2.2.2.1 rfl rfl rfl rfl (by decide) hS.no ?_
  refine tr_aload_n 0 hX dX9_init_159 rfl rfl ?_
  refine tr_bipush 8 hX dX9_init_160 (by decide) ?_
  refine tr_newi hX dX9_init_162 sh_181 k_2_20 (by decide) (by decide) (by decide) (by decide) (by rw [hS.2.2.2.2.1]; exact Nat.le_of_ble_eq_true rfl) (by rw [hS.2.2.2.2.1]; exact Nat.le_of_ble_eq_true rfl) ?_
  refine tr_putF hX dX9_init_164 sh_161 (by decide) rfl inlX9 tyX9 tyX9_ok nmX9 (by decide) rfl k_7_6 rfl hS.2.2.2.2.2.1 rfl rfl rfl rfl (by decide) hS.no ?_
  refine tr_aload_n 0 hX dX9_init_167 rfl rfl ?_
  refine tr_sipush 168 hX dX9_init_168 (by decide) ?_
  refine tr_newi hX dX9_init_171 sh_182 k_2_20 (by decide) (by decide) (by decide) (by decide) (by rw [hS.2.2.2.2.1]; exact Nat.le_of_ble_eq_true rfl) (by rw [hS.2.2.2.2.1]; exact Nat.le_of_ble_eq_true rfl) ?_
  refine tr_putF hX dX9_init_173 sh_161 (by decide) rfl inlX9 tyX9 tyX9_ok nmX9 (by decide) rfl k_7_7 rfl hS.2.2.2.2.2.1 rfl rfl rfl rfl (by decide) hS.no ?_
  refine tr_aload_n 0 hX dX9_init_176 rfl rfl ?_
  refine tr_sipush 2304 hX dX9_init_177 (by decide) ?_
  refine tr_newi hX dX9_init_180 sh_183 k_2_20 (by decide) (by decide) (by decide) (by decide) (by rw [hS.2.2.2.2.1]; exact Nat.le_of_ble_eq_true rfl) (by rw [hS.2.2.2.2.1]; exact Nat.le_of_ble_eq_true rfl) ?_
  refine tr_putF hX dX9_init_182 sh_161 (by decide) rfl inlX9 tyX9 tyX9_ok nmX9 (by decide) rfl k_7_8 rfl hS.2.2.2.2.2.1 rfl rfl rfl rfl (by decide) hS.no ?_
  refine tr_aload_n 0 hX dX9_init_185 rfl rfl ?_
  refine tr_sipush 2304 hX dX9_init_186 (by decide) ?_
  refine tr_newl hX dX9_init_189 sh_184 k_4_17 (by decide) (by decide) (by decide) (by decide) (by rw [hS.2.2.2.2.1]; exact Nat.le_of_ble_eq_true rfl) (by rw [hS.2.2.2.2.1]; exact Nat.le_of_ble_eq_true rfl) ?_
  refine tr_putF hX dX9_init_191 sh_161 (by decide) rfl inlX9 tyX9 tyX9_ok nmX9 (by decide) rfl k_7_9 rfl hS.2.2.2.2.2.1 rfl rfl rfl rfl (by decide) hS.no ?_
  refine tr_aload_n 0 hX dX9_init_194 rfl rfl ?_
  refine tr_sipush 2304 hX dX9_init_195 (by decide) ?_
  refine tr_newl hX dX9_init_198 sh_185 k_4_17 (by decide) (by decide) (by decide) (by decide) (by rw [hS.2.2.2.2.1]; exact Nat.le_of_ble_eq_true rfl) (by rw [hS.2.2.2.2.1]; exact Nat.le_of_ble_eq_true rfl) ?_
  refine tr_putF hX dX9_init_200 sh_161 (by decide) rfl inlX9 tyX9 tyX9_ok nmX9 (by decide) rfl k_7_10 rfl hS.2.2.2.2.2.1 rfl rfl rfl rfl (by decide) hS.no ?_
  refine tr_aload_n 0 hX dX9_init_203 rfl rfl ?_
  refine tr_bipush 20 hX dX9_init_204 (by decide) ?_
  refine tr_newi hX dX9_init_206 sh_186 k_2_20 (by decide) (by decide) (by decide) (by decide) (by rw [hS.2.2.2.2.1]; exact Nat.le_of_ble_eq_true rfl) (by rw [hS.2.2.2.2.1]; exact Nat.le_of_ble_eq_true rfl) ?_
  refine tr_putF hX dX9_init_208 sh_161 (by decide) rfl inlX9 tyX9 tyX9_ok nmX9 (by decide) rfl k_7_11 rfl hS.2.2.2.2.2.1 rfl rfl rfl rfl (by decide) hS.no ?_
  refine tr_aload_n 0 hX dX9_init_211 rfl rfl ?_
  refine tr_iconst 0 hX dX9_init_212 (by decide) ?_
  refine tr_callVW (st := []) (As := [.int 0]) (q := 161) 1 hX hS.no dX9_init_213 (okg_X9_noItems 0) sh_161 (by decide) rfl (by decide) k_7_12 k_7_13 k_7_14 k_1_5 k_7_15 hy_X9_noItems rfl (by rw [hS.2.2.2.2.1]; exact ⟨Nat.le_of_ble_eq_true rfl, Nat.le_of_ble_eq_true rfl⟩) (by rw [hS.2.2.2.2.1]; exact ⟨Nat.le_of_ble_eq_true rfl, Nat.le_of_ble_eq_true rfl⟩) (Nat.le_of_ble_eq_true rfl) rfl ?_
  exact tr_vretN hX hS dX9_init_216 rfl rfl
theorem okc_X9_init_161 {l : Launch} {E : Ev} : Ok l E Gno yX9_init cX9_init 1 none { frames := 1, cells := 25, slots := 8875, locals := 22 } eU [.ref (E.2.1 161)] (fc_X9_init_161) := by
  refine ok_ofN (by decide) rfl (Nat.le_of_ble_eq_true rfl) (fun X hX hV hS => ?_)
  subst hV
  exact tc_X9_init_161 hX hS
