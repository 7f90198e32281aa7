/-! far, best: the pairs -/
section BEST
variable {w w' w0 w1 w2 : Wd} {t W m : Nat}
theorem wp_inN {Q : Int32 → Wd → Prop} {j n : Nat} {H : Int64} (hH : H.toInt = (n : Int) - 1) (h : j < n) (hj : j < 2 ^ 31) : wp (f_X9_in (nI j).toInt64 0 H) w Q ↔ Q 1 w :=
  wp_in (by
    rw [i2l_toInt, nI_toInt hj, hH]
    exact ⟨by show (0 : Int) ≤ j; omega, by omega⟩)
theorem wp_inoN {Q : Int32 → Wd → Prop} {x : Int32} {n : Nat} {H : Int64} (hH : H.toInt = (n : Int) - 1) (h : x < 0 ∨ nI n ≤ x) (hn : n < 2 ^ 31) : wp (f_X9_in x.toInt64 0 H) w Q ↔ Q 0 w :=
  wp_ino (by
    have h2 := out_toInt h hn
    rw [i2l_toInt, hH]
    rcases h2 with h2 | h2
    · left; show x.toInt < 0; exact h2
    · right; omega)
theorem rd_refuse (hR : IRef t w) (hTo : ITon t W w) (hV : IVs W 0 w) {a : Nat} (ha : a < 6) : Rd (f_X8_refusalToCompare (nI a)) w (if vs w a = 0 then -2 else if 2 ≤ W then 0 else -4) := by
  have hW := hTo.1
  obtain ⟨s1, s2, s3, s4⟩ := hV.g hW ha
  unfold Rd f_X8_refusalToCompare f_X8_refusalToCompare_32
  rw [wp_aIn (by omega) (by omega), s2]
  by_cases h0 : vs w a = 0
  · rw [if_pos (eq_l 0 h0), wp_rt, if_pos h0]; exact ⟨rfl, rfl⟩
  · rw [if_neg (ne_l 0 h0 (by omega) (by omega)), if_neg h0, wp_tongue hR, wp_rI, hTo.2.1]
    by_cases h2 : 2 ≤ W
    · rw [if_pos (ge_l 2 h2 (by omega)), wp_rt, if_pos h2]; exact ⟨rfl, rfl⟩
    · rw [if_neg (nge_l 2 (by omega) (by omega)), wp_rt, if_neg h2]; exact ⟨rfl, rfl⟩
theorem pr_far (hw : Inv w) (x1 x2 x3 : Int32) : Pair (f_X8_far x1 x2 x3) (f_X9_far x1 x2 x3) w := by
  obtain ⟨t, W, hR, hT, hTo, hJ, hV, hS, hK, hL, hH⟩ := id hw
  have ht := hR.1
  have hW := hTo.1
  unfold Pair f_X8_far f_X9_far f_X8_far_26 f_X9_far_31 f_X8_far_82 f_X9_far_98 f_X9_far_70
  rw [wp_bnd]
  rcases ix_cases x1 6 (by omega) with ⟨a, ha, rfl⟩ | h1
  · refine (wp_bel (n := 6) ha (by omega)).mpr ?_
    rw [if_neg (by decide), wp_bnd]
    rcases ix_cases x2 32 (by omega) with ⟨S, hS32, rfl⟩ | h2
    · refine (wp_bel (n := 32) hS32 (by omega)).mpr ?_
      rw [if_neg (by decide), wp_bnd]
      rcases ix_cases x3 3 (by omega) with ⟨z, hz, rfl⟩ | h3
      · refine (wp_bel (n := 3) hz (by omega)).mpr ?_
        obtain ⟨s1, s2, s3, s4⟩ := hV.g hW ha
        rw [if_neg (by decide), wp_bnd, (rd_refuse hR hTo hV ha).wp]
        have ref : ∀ (w1 : Wd) (v : Int32), (gi w1 167 a = nI (vs w a)) → wp (aI 167 18 (nI a) (fun v4 => if v4 = 0 then (rt (-2)) else (bnd (f_X9_farOf (nI a) (nI S)) (fun v6 => if 1 ≤ v6 then (if nI z = 0 then (rt v6) else (if nI z = 1 then (rt (v6 - 1)) else (gd (¬ (2 : Int32) = 0) (rt ((v6 - 1) / 2))))) else (if 0 ≤ v6 then (rt 0) else (rt (-4)))))) : M Int32) w1 (fun b w2 => b = v ∧ Inv w2) → wp (bnd (f_X9_isVerse (nI a)) (fun v1 => if v1 = 0 then (rt (-1)) else (bnd (f_X9_in (nI S).toInt64 0 31) (fun v2 => if v2 = 0 then (rt (-1)) else (bnd (f_X9_in (nI z).toInt64 0 2) (fun v3 => if v3 = 0 then (rt (-1)) else (aI 167 18 (nI a) (fun v4 => if v4 = 0 then (rt (-2)) else (bnd (f_X9_farOf (nI a) (nI S)) (fun v6 => if 1 ≤ v6 then (if nI z = 0 then (rt v6) else (if nI z = 1 then (rt (v6 - 1)) else (gd (¬ (2 : Int32) = 0) (rt ((v6 - 1) / 2))))) else (if 0 ≤ v6 then (rt 0) else (rt (-4)))))))))))) : M Int32) w1 (fun b w2 => b = v ∧ Inv w2) := by
          intro w1 v _ h
          rw [wp_bnd, wp_ver ha, if_neg (by decide), wp_bnd, wp_inN (n := 32) (by decide) hS32 (by omega), if_neg (by decide), wp_bnd, wp_inN (n := 3) (by decide) hz (by omega), if_neg (by decide)]
          exact h
        by_cases h0 : vs w a = 0
        · rw [if_pos h0, if_neg (by decide), wp_rt]
          refine ref w _ s3 ?_
          rw [wp_aIn (by omega) (by omega), s3, if_pos (eq_l 0 h0), wp_rt]
          exact ⟨rfl, hw⟩
        · rw [if_neg h0]
          by_cases hW2 : 2 ≤ W
          · rw [if_pos hW2, if_pos rfl, wp_bnd]
            have hfl := farN_le (w := w) (W := W) (r := vw w a) hS32 hW2 (show 0 < vs w a by omega) s1
            refine wp_mono (wp_farBy hR hTo hJ hV ha hS32 hW2 (by omega)) (fun v w1 h1 => ?_)
            obtain ⟨rfl, f1, h73⟩ := h1
            have V1 : IVs W 0 w1 := hV.to0 (fun q k hq => f1.2 q k (by unfold cV0 at hq; unfold cK8; omega))
            have v1 : vs w1 a = vs w a := by unfold vs; rw [f1.2 _ _ (by unfold cK8; omega)]
            have u1 : vw w1 a = vw w a := by funext p; unfold vw; rw [f1.2 _ _ (by unfold cK8; omega)]
            have s3' : gi w1 167 a = nI (vs w a) := by rw [f1.2 _ _ (by unfold cK8; omega)]; exact s3
            have rfar := wp_farOf (w := w1) (S := S) ht (hTo.to (f1.eT ht)) V1 ha hS32 hW2 (by rw [v1]; omega)
            rw [v1, u1, farN_fr (r' := vw w a) f1.e164] at rfar
            have fin : ∀ v : Int32, v = (if z = 0 then nI (farN w W (vs w a) (vw w a) S) else if z = 1 then nI (farN w W (vs w a) (vw w a) S - 1) else nI ((farN w W (vs w a) (vw w a) S - 1) / 2)) → wp (aI 167 18 (nI a) (fun v4 => if v4 = 0 then (rt (-2)) else (bnd (f_X9_farOf (nI a) (nI S)) (fun v6 => if 1 ≤ v6 then (if nI z = 0 then (rt v6) else (if nI z = 1 then (rt (v6 - 1)) else (gd (¬ (2 : Int32) = 0) (rt ((v6 - 1) / 2))))) else (if 0 ≤ v6 then (rt 0) else (rt (-4)))))) : M Int32) w1 (fun b w2 => b = v ∧ Inv w2) := by
              intro v hv
              rw [wp_aIn (by omega) (by omega), s3', if_neg (ne_l 0 h0 (by omega) (by omega)), wp_bnd]
              refine wp_mono rfar (fun u w2 h2 => ?_)
              obtain ⟨rfl, f2⟩ := h2
              have hinv : Inv w2 := Same.inv hR hT hTo hJ hV hS hK hL hH (same_KN hR ht f1 h73 f2)
              generalize farN w W (vs w a) (vw w a) S = F at hfl hv
              by_cases F0 : F = 0
              · rw [if_neg (nge_l 1 (by omega) (by omega)), if_pos (ge_l 0 (by omega) (by omega)), wp_rt]
                refine ⟨?_, hinv⟩
                rw [hv, F0]
                rcases (by omega : z = 0 ∨ z = 1 ∨ z = 2) with rfl | rfl | rfl <;> rfl
              · rw [if_pos (ge_l 1 (by omega) (by omega)), show nI F - 1 = nI (F - 1) from pk_sub (b := 1) (by omega)]
                rcases (by omega : z = 0 ∨ z = 1 ∨ z = 2) with rfl | rfl | rfl
                · rw [if_pos (by rfl), wp_rt]; exact ⟨by rw [hv]; rfl, hinv⟩
                · rw [if_neg (by decide), if_pos (by rfl), wp_rt]; exact ⟨by rw [hv]; rfl, hinv⟩
                · rw [if_neg (by decide), if_neg (by decide), wp_gd]
                  refine ⟨by decide, ?_⟩
                  rw [show nI (F - 1) / 2 = nI ((F - 1) / 2) from pk_div (d := 2) (by omega) (by omega) (by omega), wp_rt]
                  exact ⟨by rw [hv]; rfl, hinv⟩
            generalize farN w W (vs w a) (vw w a) S = F at hfl fin
            have e6 : (if 0 < nI F - 1 then nI F - 1 else 0) = nI (F - 1) := by
              by_cases F0 : F = 0
              · subst F0; decide
              · rw [show nI F - 1 = nI (F - 1) from pk_sub (b := 1) (by omega)]
                by_cases F1 : F = 1
                · subst F1; decide
                · rw [if_pos (gt_l 0 (by omega) (by omega))]
            rw [wp_nm, e6]
            rcases (by omega : z = 0 ∨ z = 1 ∨ z = 2) with rfl | rfl | rfl
            · rw [if_pos (by rfl), wp_rt]
              exact ref w1 _ s3' (fin _ rfl)
            · rw [if_neg (by decide), if_pos (by rfl), wp_rt]
              exact ref w1 _ s3' (fin _ rfl)
            · rw [if_neg (by decide), if_neg (by decide), wp_gd]
              refine ⟨by decide, ?_⟩
              rw [show nI (F - 1) / 2 = nI ((F - 1) / 2) from pk_div (d := 2) (by omega) (by omega) (by omega), wp_rt]
              exact ref w1 _ s3' (fin _ rfl)
          · rw [if_neg hW2, if_neg (by decide), wp_rt]
            refine ref w _ s3 ?_
            rw [wp_aIn (by omega) (by omega), s3, if_neg (ne_l 0 h0 (by omega) (by omega)), wp_bnd]
            unfold f_X9_farOf
            rw [wp_aIn (by omega) (by omega), wp_a0 (by omega) (by omega), hTo.2.2.1, if_neg (nge_l 2 (by omega) (by omega)), wp_rt, if_neg (by decide), if_neg (by decide), wp_rt]
            exact ⟨rfl, hw⟩
      · refine (wp_beo (n := 3) h3).mpr ?_
        rw [if_pos rfl, wp_rt, wp_bnd, wp_ver ha, if_neg (by decide), wp_bnd, wp_inN (n := 32) (by decide) hS32 (by omega), if_neg (by decide), wp_bnd, wp_inoN (n := 3) (by decide) h3 (by omega), if_pos rfl]
        exact wp_rt.mpr ⟨rfl, hw⟩
    · refine (wp_beo (n := 32) h2).mpr ?_
      rw [if_pos rfl, wp_rt, wp_bnd, wp_ver ha, if_neg (by decide), wp_bnd, wp_inoN (n := 32) (by decide) h2 (by omega), if_pos rfl]
      exact wp_rt.mpr ⟨rfl, hw⟩
  · refine (wp_beo (n := 6) h1).mpr ?_
    rw [if_pos rfl, wp_rt, wp_bnd, wp_vero h1, if_pos rfl]
    exact wp_rt.mpr ⟨rfl, hw⟩
end BEST
