/-! the easy calls -/
section EASY
variable {w : Wd}
theorem IVs.z {W : Nat} (h : IVs W 0 w) {v : Nat} (hv : v < 6) : ∃ s, s ≤ 8 ∧ gi w 28 v = nI s ∧ gi w 167 v = nI s ∧ ∀ p, p < s → ∃ x, x < W ∧ gi w (22 + v) p = nI x ∧ gi w 168 (8 * v + p) = nI x := by
  obtain ⟨s, a, b, c, d⟩ := h v hv
  refine ⟨s, a, b, ?_, fun p hp => ?_⟩
  · rw [← c]; congr 1; omega
  · obtain ⟨x, e1, e2, e3⟩ := d p hp
    refine ⟨x, e1, e2, ?_⟩
    rw [← e3]; congr 1; omega
theorem IVs.mk {W : Nat} (h : ∀ v, v < 6 → ∃ s, s ≤ 8 ∧ gi w 28 v = nI s ∧ gi w 167 v = nI s ∧ ∀ p, p < s → ∃ x, x < W ∧ gi w (22 + v) p = nI x ∧ gi w 168 (8 * v + p) = nI x) : IVs W 0 w := by
  intro v hv
  obtain ⟨s, a, b, c, d⟩ := h v hv
  refine ⟨s, a, b, ?_, fun p hp => ?_⟩
  · rw [← c]; congr 1; omega
  · obtain ⟨x, e1, e2, e3⟩ := d p hp
    refine ⟨x, e1, e2, ?_⟩
    rw [← e3]; congr 1; omega
theorem pr_wipe (hw : Inv w) : Pair f_X8_wipe f_X9_wipe w := by
  obtain ⟨t, W, hR, hT, hTo, hJ, hV, hS, hK, hL, hH⟩ := hw
  obtain ⟨n, h1, h2, h3, h4⟩ := id hT
  have ht := hR.1
  unfold Pair f_X8_wipe f_X9_wipe
  simp only [wp_rI, wp_wI, wp_rt]
  refine ⟨by rw [gi_si_n (by omega), h2, h3], ?_⟩
  refine inv_txt hR hTo hJ hV hS hK hL hH rfl ((Eqo.rf.si (by unfold oTxt cTon cBk cSl cHd; omega)).si (by unfold oTxt cTon cBk cSl cHd; omega)) ⟨0, by omega, ?_, ?_, fun k hk => absurd hk (Nat.not_lt_zero _)⟩
  · rw [gi_si_n (by omega), gi_si_s]; rfl
  · rw [gi_si_s]; rfl
theorem pr_noSlips (hw : Inv w) : Pair f_X8_noSlips f_X9_noSlips w := by
  obtain ⟨t, W, hR, hT, hTo, hJ, hV, hS, hK, hL, hH⟩ := hw
  obtain ⟨n, h1, h2, h3, h4⟩ := id hL
  have ht := hR.1
  unfold Pair f_X8_noSlips f_X9_noSlips
  simp only [wp_rI, wp_wI, wp_rt]
  refine ⟨by rw [gi_si_n (by omega), h2, h3], ?_⟩
  refine inv_sl hR hT hTo hJ hV hS hK hH rfl ((Eqo.rf.si (by unfold oSl cTxt cTon cBk cHd; omega)).si (by unfold oSl cTxt cTon cBk cHd; omega)) ⟨0, by omega, ?_, ?_, fun k hk => absurd hk (Nat.not_lt_zero _)⟩
  · rw [gi_si_n (by omega), gi_si_s]; rfl
  · rw [gi_si_s]; rfl
theorem wp_tongue {R : Type} {Q : R → Wd → Prop} {t : Nat} {K : Nat → M R} (hR : IRef t w) : wp (rT 0 1 K) w Q ↔ wp (K t) w Q := by
  rw [wp_rT, hR.2.1]
  have ht := hR.1
  constructor
  · exact fun h => h.2
  · exact fun h => ⟨by omega, h⟩
theorem pr_joined (hw : Inv w) (x1 x2 : Int32) : Pair (f_X8_joined x1 x2) (f_X9_joined x1 x2) w := by
  obtain ⟨t, W, hR, hT, hTo, hJ, hV, hS, hK, hL, hH⟩ := id hw
  unfold Pair f_X8_joined f_X9_joined
  rw [wp_bnd]
  rcases ix_cases x1 8 (by omega) with ⟨a, ha, rfl⟩ | h1
  · refine (wp_bel (n := 8) ha (by omega)).mpr ?_
    rw [if_neg (by decide), wp_bnd]
    rcases ix_cases x2 8 (by omega) with ⟨b, hb, rfl⟩ | h2
    · refine (wp_bel (n := 8) hb (by omega)).mpr ?_
      have e : 8 * nI a + nI b = nI (8 * a + b) := by rw [show (8 : Int32) = nI 8 from rfl, pk_mul, nI_add]
      rw [if_neg (by decide), wp_tongue hR, e, wp_aIn (by omega) (by omega), wp_rt]
      rw [wp_bnd, wp_edg ha, if_neg (by decide), wp_bnd, wp_edg hb, if_neg (by decide), wp_aIn (by omega) (by omega)]
      unfold f_X9_joined_29
      rw [wp_rt]
      exact ⟨(hTo.2.2.2.2.1 (8 * a + b) (by omega)).1.symm, hw⟩
    · refine (wp_beo (n := 8) h2).mpr ?_
      rw [if_pos rfl]
      unfold f_X8_joined_18
      rw [wp_rt, wp_bnd, wp_edg ha, if_neg (by decide), wp_bnd, wp_edgo h2, if_pos rfl]
      exact wp_rt.mpr ⟨rfl, hw⟩
  · refine (wp_beo (n := 8) h1).mpr ?_
    rw [if_pos rfl]
    unfold f_X8_joined_18
    rw [wp_rt, wp_bnd, wp_edgo h1, if_pos rfl]
    exact wp_rt.mpr ⟨rfl, hw⟩
theorem pr_clear (hw : Inv w) (x1 : Int32) : Pair (f_X8_clear x1) (f_X9_clear x1) w := by
  obtain ⟨t, W, hR, hT, hTo, hJ, hV, hS, hK, hL, hH⟩ := id hw
  have ht := hR.1
  unfold Pair f_X8_clear f_X9_clear
  rw [wp_bnd]
  rcases ix_cases x1 6 (by omega) with ⟨a, ha, rfl⟩ | h1
  · refine (wp_bel (n := 6) ha (by omega)).mpr ?_
    obtain ⟨s, s1, s2, s3, s4⟩ := hV.z ha
    rw [if_neg (by decide), wp_aIn (by omega) (by omega), wp_sIn (by omega) (by omega), wp_rt]
    rw [wp_bnd, wp_ver ha, if_neg (by decide), wp_aIn (by omega) (by omega), wp_sIn (by omega) (by omega), wp_rt]
    refine ⟨by rw [gi_si_n (by omega), s2, s3], ?_⟩
    refine inv_v hR hT hTo hJ hS hK hL hH rfl ((Eqo.rf.si (by unfold oP cV0; omega)).si (by unfold oP cV0; omega)) (IVs.mk fun v hv => ?_)
    by_cases hva : v = a
    · subst hva
      refine ⟨0, by omega, ?_, ?_, fun p hp => absurd hp (Nat.not_lt_zero _)⟩
      · rw [gi_si_n (by omega), gi_si_s]; rfl
      · rw [gi_si_s]; rfl
    · obtain ⟨s', a1, a2, a3, a4⟩ := hV.z hv
      refine ⟨s', a1, ?_, ?_, fun p hp => ?_⟩
      · rw [gi_si_n (by omega), gi_si_n (by omega)]; exact a2
      · rw [gi_si_n (by omega), gi_si_n (by omega)]; exact a3
      · rw [gi_si_n (by omega), gi_si_n (by omega), gi_si_n (by omega), gi_si_n (by omega)]; exact a4 p hp
  · refine (wp_beo (n := 6) h1).mpr ?_
    rw [if_pos rfl, wp_rt, wp_bnd, wp_vero h1, if_pos rfl]
    exact wp_rt.mpr ⟨rfl, hw⟩
theorem pr_word (hw : Inv w) (x1 x2 : Int32) : Pair (f_X8_word x1 x2) (f_X9_word x1 x2) w := by
  obtain ⟨t, W, hR, hT, hTo, hJ, hV, hS, hK, hL, hH⟩ := id hw
  unfold Pair f_X8_word f_X9_word
  rw [wp_bnd]
  rcases ix_cases x1 6 (by omega) with ⟨a, ha, rfl⟩ | h1
  · refine (wp_bel (n := 6) ha (by omega)).mpr ?_
    rw [if_neg (by decide), wp_bnd]
    rcases ix_cases x2 8 (by omega) with ⟨b, hb, rfl⟩ | h2
    · refine (wp_bel (n := 8) hb (by omega)).mpr ?_
      obtain ⟨s, s1, s2, s3, s4⟩ := hV.z ha
      rw [if_neg (by decide), wp_aIn (by omega) (by omega), s2]
      by_cases hsb : s ≤ b
      · rw [if_pos (nI_le hsb (by omega))]
        unfold f_X8_word_49
        rw [wp_rt, wp_bnd, wp_ver ha, if_neg (by decide), wp_bnd, wp_pla hb, if_neg (by decide), wp_aIn (by omega) (by omega), s3, if_pos (nI_le hsb (by omega))]
        exact wp_rt.mpr ⟨rfl, hw⟩
      · obtain ⟨x, e1, e2, e3⟩ := s4 b (by omega)
        rw [if_neg (nI_ge (by omega) (by omega)), wp_gdn (by omega) (by omega), cl_nI (by omega), wp_aIn (by omega) (by omega)]
        unfold f_X8_word_49
        have e : 8 * nI a + nI b = nI (8 * a + b) := by rw [show (8 : Int32) = nI 8 from rfl, pk_mul, nI_add]
        rw [wp_rt, wp_bnd, wp_ver ha, if_neg (by decide), wp_bnd, wp_pla hb, if_neg (by decide), wp_aIn (by omega) (by omega), s3, if_neg (nI_ge (by omega) (by omega)), e, wp_aIn (by omega) (by omega), e3]
        exact wp_rt.mpr ⟨e2.symm, hw⟩
    · refine (wp_beo (n := 8) h2).mpr ?_
      rw [if_pos rfl]
      unfold f_X8_word_18
      rw [wp_rt, wp_bnd, wp_ver ha, if_neg (by decide), wp_bnd, wp_plao h2, if_pos rfl]
      exact wp_rt.mpr ⟨rfl, hw⟩
  · refine (wp_beo (n := 6) h1).mpr ?_
    rw [if_pos rfl]
    unfold f_X8_word_18
    rw [wp_rt, wp_bnd, wp_vero h1, if_pos rfl]
    exact wp_rt.mpr ⟨rfl, hw⟩
theorem pr_add (hw : Inv w) (x1 x2 : Int32) : Pair (f_X8_add x1 x2) (f_X9_add x1 x2) w := by
  obtain ⟨t, W, hR, hT, hTo, hJ, hV, hS, hK, hL, hH⟩ := id hw
  obtain ⟨W16, W1, W2, -⟩ := id hTo
  have ht := hR.1
  unfold Pair f_X8_add f_X9_add
  rw [wp_bnd]
  rcases ix_cases x1 6 (by omega) with ⟨a, ha, rfl⟩ | h1
  · refine (wp_bel (n := 6) ha (by omega)).mpr ?_
    rw [if_neg (by decide), wp_tongue hR, wp_rI, W1, wp_bnd]
    rcases ix_cases x2 W (by omega) with ⟨b, hb, rfl⟩ | h2
    · refine (wp_bel hb (by omega)).mpr ?_
      obtain ⟨s, s1, s2, s3, s4⟩ := hV.z ha
      rw [if_neg (by decide), wp_aIn (by omega) (by omega), s2]
      by_cases hs8 : s < 8
      · have e1 : nI s + 1 = nI (s + 1) := nI_add s 1
        rw [if_pos (lt_l 8 hs8 (by omega)), wp_gdn (by omega) (by omega), cl_nI (by omega), wp_sIn (by omega) (by omega), wp_sIn (by omega) (by omega), wp_rt, e1]
        generalize hw1 : si (si w (21 + 1 + a) s (nI b)) 28 a (nI (s + 1)) = w1
        have g163 : gi w1 163 0 = nI W := by rw [← hw1, gi_si_n (by omega), gi_si_n (by omega)]; exact W2
        have g167 : gi w1 167 a = nI s := by rw [← hw1, gi_si_n (by omega), gi_si_n (by omega)]; exact s3
        have e : 8 * nI a + nI s = nI (8 * a + s) := by rw [mul_nI, nI_add]
        rw [wp_bnd, wp_ver ha, if_neg (by decide), wp_bnd, wp_wor g163 W16 hb, if_neg (by decide), wp_aIn (by omega) (by omega), g167, if_neg (ne_l 8 (by omega) (by omega) (by omega)), wp_aIn (by omega) (by omega), g167, e, wp_sIn (by omega) (by omega), wp_aIn (by omega) (by omega), gi_si_n (by omega), g167, e1, wp_sIn (by omega) (by omega), wp_aIn (by omega) (by omega), gi_si_s, wp_rt]
        refine ⟨rfl, ?_⟩
        rw [← hw1]
        refine inv_v hR hT hTo hJ hS hK hL hH rfl ((((Eqo.rf.si (by unfold oP cV0; omega)).si (by unfold oP cV0; omega)).si (by unfold oP cV0; omega)).si (by unfold oP cV0; omega)) (IVs.mk fun v hv => ?_)
        by_cases hva : v = a
        · subst hva
          refine ⟨s + 1, by omega, ?_, gi_si_s _ _ _ _, fun p hp => ?_⟩
          · rw [gi_si_n (by omega), gi_si_n (by omega), gi_si_s]
          · by_cases hps : p = s
            · subst hps
              refine ⟨b, hb, ?_, ?_⟩
              · rw [gi_si_n (by omega), gi_si_n (by omega), gi_si_n (by omega), show 22 + v = 21 + 1 + v by omega, gi_si_s]
              · rw [gi_si_n (by omega), gi_si_s]
            · obtain ⟨x, f1, f2, f3⟩ := s4 p (by omega)
              refine ⟨x, f1, ?_, ?_⟩
              · rw [gi_si_n (by omega), gi_si_n (by omega), gi_si_n (by omega), gi_si_n (by omega)]; exact f2
              · rw [gi_si_n (by omega), gi_si_n (by omega), gi_si_n (by omega), gi_si_n (by omega)]; exact f3
        · obtain ⟨s', a1, a2, a3, a4⟩ := hV.z hv
          refine ⟨s', a1, ?_, ?_, fun p hp => ?_⟩
          · rw [gi_si_n (by omega), gi_si_n (by omega), gi_si_n (by omega), gi_si_n (by omega)]; exact a2
          · rw [gi_si_n (by omega), gi_si_n (by omega), gi_si_n (by omega), gi_si_n (by omega)]; exact a3
          · obtain ⟨x, f1, f2, f3⟩ := a4 p hp
            refine ⟨x, f1, ?_, ?_⟩
            · rw [gi_si_n (by omega), gi_si_n (by omega), gi_si_n (by omega), gi_si_n (by omega)]; exact f2
            · rw [gi_si_n (by omega), gi_si_n (by omega), gi_si_n (by omega), gi_si_n (by omega)]; exact f3
      · rw [if_neg (nlt_l 8 (by omega) (by omega)), wp_rt, wp_bnd, wp_ver ha, if_neg (by decide), wp_bnd, wp_wor W2 W16 hb, if_neg (by decide), wp_aIn (by omega) (by omega), s3, if_pos (eq_l 8 (by omega))]
        exact wp_rt.mpr ⟨rfl, hw⟩
    · refine (wp_beo h2).mpr ?_
      rw [if_pos rfl]
      unfold f_X8_add_23
      rw [wp_rt, wp_bnd, wp_ver ha, if_neg (by decide), wp_bnd, wp_woro W2 W16 h2, if_pos rfl]
      exact wp_rt.mpr ⟨rfl, hw⟩
  · refine (wp_beo (n := 6) h1).mpr ?_
    rw [if_pos rfl]
    unfold f_X8_add_23
    rw [wp_rt, wp_bnd, wp_vero h1, if_pos rfl]
    exact wp_rt.mpr ⟨rfl, hw⟩
end EASY
