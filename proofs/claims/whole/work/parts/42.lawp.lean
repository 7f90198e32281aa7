/-! THE LAW, if each call answers alike on both sides -/
def AllPairs : Prop := ∀ w, Inv w → (∀ x0 : Int32, ∀ x1 : Int64, Pair (f_X8_write x0 x1) (f_X9_write x0 x1) w) ∧ (Pair (f_X8_wipe) (f_X9_wipe) w) ∧ (Pair (f_X8_fault) (f_X9_fault) w) ∧ (Pair (f_X8_lay) (f_X9_lay) w) ∧ (∀ x0 : Int32, ∀ x1 : Int32, Pair (f_X8_joined x0 x1) (f_X9_joined x0 x1) w) ∧ (∀ x0 : Int32, ∀ x1 : Int32, Pair (f_X8_add x0 x1) (f_X9_add x0 x1) w) ∧ (∀ x0 : Int32, Pair (f_X8_clear x0) (f_X9_clear x0) w) ∧ (∀ x0 : Int32, ∀ x1 : Int32, Pair (f_X8_word x0 x1) (f_X9_word x0 x1) w) ∧ (∀ x0 : Int32, ∀ x1 : Int32, ∀ x2 : Int32, Pair (f_X8_said x0 x1 x2) (f_X9_said x0 x1 x2) w) ∧ (∀ x0 : Int32, ∀ x1 : Int32, Pair (f_X8_say x0 x1) (f_X9_say x0 x1) w) ∧ (∀ x0 : Int32, ∀ x1 : Int32, Pair (f_X8_alter x0 x1) (f_X9_alter x0 x1) w) ∧ (Pair (f_X8_soundSo) (f_X9_soundSo) w) ∧ (∀ x0 : Int32, Pair (f_X8_nearest x0) (f_X9_nearest x0) w) ∧ (Pair (f_X8_rivals) (f_X9_rivals) w) ∧ (∀ x0 : Int32, ∀ x1 : Int32, ∀ x2 : Int32, Pair (f_X8_far x0 x1 x2) (f_X9_far x0 x1 x2) w) ∧ (∀ x0 : Int32, ∀ x1 : Int32, ∀ x2 : Int32, Pair (f_X8_best x0 x1 x2) (f_X9_best x0 x1 x2) w) ∧ (∀ x0 : Int32, ∀ x1 : Int32, ∀ x2 : Int32, Pair (f_X8_learnt x0 x1 x2) (f_X9_learnt x0 x1 x2) w) ∧ (∀ x0 : Int32, ∀ x1 : Int32, ∀ x2 : Int32, Pair (f_X8_slip x0 x1 x2) (f_X9_slip x0 x1 x2) w) ∧ (Pair (f_X8_noSlips) (f_X9_noSlips) w) ∧ (∀ x0 : Int32, Pair (f_X8_slips x0) (f_X9_slips x0) w) ∧ (∀ x0 : Int32, ∀ x1 : Int32, Pair (f_X8_list x0 x1) (f_X9_list x0 x1) w) ∧ (∀ x0 : Int32, ∀ x1 : Int32, ∀ x2 : Int32, Pair (f_X8_head x0 x1 x2) (f_X9_head x0 x1 x2) w) ∧ (∀ x0 : Int32, ∀ x1 : Int32, (x1 = 0 ∨ x1 = 1) → Pair (f_X8_alive x0 x1) (f_X9_alive x0 x1) w) ∧ (∀ x0 : Int32, Pair (f_X8_same x0) (f_X9_same x0) w) ∧ (∀ x0 : Int32, ∀ x1 : Int32, Pair (f_X8_since x0 x1) (f_X9_since x0 x1) w) ∧ (∀ x0 : Int32, Pair (f_X8_lost x0) (f_X9_lost x0) w) ∧ (∀ x0 : Int32, ∀ x1 : Int32, Pair (f_X8_from x0 x1) (f_X9_from x0 x1) w) ∧ (∀ x0 : Int32, ∀ x1 : Int32, ∀ x2 : Int32, ∀ x3 : Int32, Pair (f_X8_odds x0 x1 x2 x3) (f_X9_odds x0 x1 x2 x3) w) ∧ (Pair (f_X8_keep) (f_X9_keep) w) ∧ (Pair (f_X8_back) (f_X9_back) w) ∧ (∀ x0 : Int32, Pair (f_X8_count x0) (f_X9_count x0) w)
theorem aS_in {R : Type} {xs : Nat → Int32} {L : Nat} {i : Int32} {K : Int32 → M R} (h : inb i L) : aS xs L i K = K (xs i.toNatClampNeg) := by
  funext w
  unfold aS gd
  rw [if_pos h]
theorem wp_if {R : Type} {P : Prop} [Decidable P] {a b : M R} {w : Wd} {Q : R → Wd → Prop} (h1 : P → wp a w Q) (h2 : ¬ P → wp b w Q) : wp (if P then a else b) w Q := by
  by_cases h : P
  · rw [if_pos h]; exact h1 h
  · rw [if_neg h]; exact h2 h
section LAW
variable {w : Wd} {Q : Int32 → Wd → Prop} {xs : Nat → Int32} {L : Nat} {self : Int32 → M Int32} {x : Int32}
theorem law_I {f g : M Int32} (hp : Pair f g w) (hs : ∀ w2, Inv w2 → wp (self (x + 5)) w2 Q) : wp (bnd f (fun a => bnd g (fun b => if a = b then (f_L_law_1104 xs L self x) else (rt 0)))) w Q := by
  rw [wp_bnd]
  refine wp_mono hp (fun a w1 h => ?_)
  rw [wp_bnd]
  refine wp_mono h (fun b w2 h2 => ?_)
  rw [if_pos h2.1.symm]
  exact hs w2 h2.2
theorem law_L {f g : M Int64} (hp : Pair f g w) (hs : ∀ w2, Inv w2 → wp (self (x + 5)) w2 Q) : wp (bnd f (fun a => bnd g (fun b => if (lg_cmp a b) = 0 then (f_L_law_1104 xs L self x) else (rt 0)))) w Q := by
  rw [wp_bnd]
  refine wp_mono hp (fun a w1 h => ?_)
  rw [wp_bnd]
  refine wp_mono h (fun b w2 h2 => ?_)
  rw [h2.1, if_pos (by unfold lg_cmp; simp)]
  exact hs w2 h2.2
theorem law_body (H : AllPairs) {i : Nat} (hi : i + 5 ≤ L) (hL : L ≤ 2560) (hw : Inv w) (hs : ∀ w2, Inv w2 → wp (self (nI (i + 5))) w2 Q) : wp (f_L_law_18 xs L self (nI i)) w Q := by
  have hs : ∀ w2, Inv w2 → wp (self (nI i + 5)) w2 Q := by
    rw [show nI i + 5 = nI (i + 5) from nI_add i 5]
    exact hs
  have i0 : inb (nI i) L := inb_nI (by omega) (by omega)
  have i1 : inb (nI i + 1) L := by rw [show nI i + 1 = nI (i + 1) from nI_add i 1]; exact inb_nI (by omega) (by omega)
  have i2 : inb (nI i + 2) L := by rw [show nI i + 2 = nI (i + 2) from nI_add i 2]; exact inb_nI (by omega) (by omega)
  have i3 : inb (nI i + 3) L := by rw [show nI i + 3 = nI (i + 3) from nI_add i 3]; exact inb_nI (by omega) (by omega)
  have i4 : inb (nI i + 4) L := by rw [show nI i + 4 = nI (i + 4) from nI_add i 4]; exact inb_nI (by omega) (by omega)
  obtain ⟨p0, p1, p2, p3, p4, p5, p6, p7, p8, p9, p10, p11, p12, p13, p14, p15, p16, p17, p18, p19, p20, p21, p22, p23, p24, p25, p26, p27, p28, p29, p30⟩ := H w hw
  unfold f_L_law_18
  rw [if_neg (by
    intro h
    have h1 := Int32.lt_iff_toInt_lt.mp h
    have h2 : (Int32.ofNat L - 5).toInt = (L : Int) - 5 := pk_sub_toInt (a := L) (b := 5) (by omega) (by omega)
    rw [h2, nI_toInt (by omega)] at h1
    omega)]
  simp only [aS_in i0, aS_in i1, aS_in i2, aS_in i3, aS_in i4]
  refine wp_if (fun _ => ?_) (fun _ => ?_)
  · exact law_I (p0 _ _) hs
  refine wp_if (fun _ => ?_) (fun _ => ?_)
  · exact law_I p1 hs
  refine wp_if (fun _ => ?_) (fun _ => ?_)
  · exact law_I p2 hs
  refine wp_if (fun _ => ?_) (fun _ => ?_)
  · exact law_I p3 hs
  refine wp_if (fun _ => ?_) (fun _ => ?_)
  · exact law_I (p4 _ _) hs
  refine wp_if (fun _ => ?_) (fun _ => ?_)
  · exact law_I (p5 _ _) hs
  refine wp_if (fun _ => ?_) (fun _ => ?_)
  · exact law_I (p6 _) hs
  refine wp_if (fun _ => ?_) (fun _ => ?_)
  · exact law_I (p7 _ _) hs
  refine wp_if (fun _ => ?_) (fun _ => ?_)
  · exact law_I (p8 _ _ _) hs
  refine wp_if (fun _ => ?_) (fun _ => ?_)
  · exact law_I (p9 _ _) hs
  refine wp_if (fun _ => ?_) (fun _ => ?_)
  · exact law_I (p10 _ _) hs
  refine wp_if (fun _ => ?_) (fun _ => ?_)
  · exact law_L p11 hs
  refine wp_if (fun _ => ?_) (fun _ => ?_)
  · exact law_I (p12 _) hs
  refine wp_if (fun _ => ?_) (fun _ => ?_)
  · exact law_L p13 hs
  refine wp_if (fun _ => ?_) (fun _ => ?_)
  · exact law_I (p14 _ _ _) hs
  refine wp_if (fun _ => ?_) (fun _ => ?_)
  · exact law_I (p15 _ _ _) hs
  refine wp_if (fun _ => ?_) (fun _ => ?_)
  · exact law_I (p16 _ _ _) hs
  refine wp_if (fun _ => ?_) (fun _ => ?_)
  · exact law_I (p17 _ _ _) hs
  refine wp_if (fun _ => ?_) (fun _ => ?_)
  · exact law_I p18 hs
  refine wp_if (fun _ => ?_) (fun _ => ?_)
  · exact law_I (p19 _) hs
  refine wp_if (fun _ => ?_) (fun _ => ?_)
  · exact law_I (p20 _ _) hs
  refine wp_if (fun _ => ?_) (fun _ => ?_)
  · exact law_I (p21 _ _ _) hs
  refine wp_if (fun _ => ?_) (fun _ => ?_)
  · refine wp_if (fun hz => ?_) (fun hz => ?_)
    · unfold f_L_law_859 f_L_law_881
      simp only [aS_in i0, aS_in i1, aS_in i2, if_pos hz]
      exact law_I (p22 _ 0 (Or.inl rfl)) hs
    · unfold f_L_law_859 f_L_law_881
      simp only [aS_in i0, aS_in i1, aS_in i2, if_neg hz]
      exact law_I (p22 _ 1 (Or.inr rfl)) hs
  refine wp_if (fun _ => ?_) (fun _ => ?_)
  · exact law_I (p23 _) hs
  refine wp_if (fun _ => ?_) (fun _ => ?_)
  · exact law_I (p24 _ _) hs
  refine wp_if (fun _ => ?_) (fun _ => ?_)
  · exact law_I (p25 _) hs
  refine wp_if (fun _ => ?_) (fun _ => ?_)
  · exact law_I (p26 _ _) hs
  refine wp_if (fun _ => ?_) (fun _ => ?_)
  · exact law_L (p27 _ _ _ _) hs
  refine wp_if (fun _ => ?_) (fun _ => ?_)
  · exact law_I p28 hs
  refine wp_if (fun _ => ?_) (fun _ => ?_)
  · exact law_I p29 hs
  refine wp_if (fun _ => ?_) (fun _ => ?_)
  · exact law_I (p30 _) hs
  exact hs w hw
theorem law_loop (H : AllPairs) (hL : L ≤ 2560) (hw : Inv w) : wp (fix1 FU (f_L_law_18 xs L) 0) w (fun r _ => r = 1) := by
  refine wp_fix1 (fun n a w => ∃ i, a = nI i ∧ i ≤ L + 5 ∧ n = L + 5 - i ∧ Inv w) (fun n a w self hI hs => ?_) FU (L + 5) 0 w (by have := FU_big; omega) ⟨0, rfl, by omega, by omega, hw⟩
  obtain ⟨i, rfl, hi, hn, hv⟩ := hI
  by_cases h : i + 5 ≤ L
  · exact law_body H h hL hv (fun w2 h2 => hs (L + 5 - (i + 5)) _ w2 (by omega) ⟨i + 5, rfl, by omega, rfl, h2⟩)
  · unfold f_L_law_18
    rw [if_pos (by
      rw [Int32.lt_iff_toInt_lt]
      have h2 : (Int32.ofNat L - 5).toInt = (L : Int) - 5 := pk_sub_toInt (a := L) (b := 5) (by omega) (by omega)
      rw [h2, nI_toInt (by omega)]
      omega)]
    exact wp_rt.mpr rfl
end LAW
