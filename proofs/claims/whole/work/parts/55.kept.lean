/-! keep, back -/
theorem mu6 (a : Nat) : 6 * nI a = nI (6 * a) := pk_mul 6 a
theorem mu48 (a : Nat) : 48 * nI a = nI (48 * a) := pk_mul 48 a
theorem mu84 (a : Nat) : 84 * nI a = nI (84 * a) := pk_mul 84 a
section KEPT
variable {w : Wd}
/-- one book of the class is now as another was -/
def Cp8 (d s : Nat) (w w' : Wd) : Prop := gr w' = gr w ∧ (∀ v, v < 6 → ∀ p, p < 8 → gi w' (d + 2 + v) p = gi w (s + 2 + v) p) ∧ (∀ v, v < 6 → gi w' (d + 8) v = gi w (s + 8) v) ∧ (∀ z, z < 84 → gi w' (d + 9) z = gi w (s + 9) z) ∧ gi w' d 3 = gi w s 3 ∧ gi w' d 4 = gi w s 4 ∧ gi w' d 5 = gi w s 5
theorem wp_copy8 {d s : Nat} (h : d + 10 ≤ s ∨ s + 10 ≤ d) : wp (f_X0_copy d s) w (fun _ w' => Cp8 d s w w' ∧ ∀ q k, (q < d ∨ d + 9 < q) → gi w' q k = gi w q k) := by
  unfold f_X0_copy
  refine wp_fix1 (fun n a w' => ∃ u, u ≤ 6 ∧ n = 6 - u ∧ a = nI u ∧ gr w' = gr w ∧ (∀ v, v < u → ∀ p, p < 8 → gi w' (d + 2 + v) p = gi w (s + 2 + v) p) ∧ ∀ q k, (q < d + 2 ∨ d + 2 + u ≤ q) → gi w' q k = gi w q k) (fun n a w' self hI hs => ?_) FU 6 _ w (by have := FU_big; omega) ⟨0, by omega, by omega, rfl, rfl, fun v hv => by omega, fun _ _ _ => rfl⟩
  obtain ⟨u, h1, h2, rfl, h3, h4, h5⟩ := hI
  unfold f_X0_copy_2
  by_cases hu : u < 6
  · rw [if_neg (nge_l 6 hu (by omega)), wp_gdn hu (by omega), wp_gdn hu (by omega), cl_nI (by omega), wp_cp, ad1]
    refine hs (6 - (u + 1)) _ _ (by omega) ⟨u + 1, by omega, rfl, rfl, h3, fun v hv p hp => ?_, fun q k hq => ?_⟩
    · rw [gi_cpi]
      by_cases e : v = u
      · subst e
        rw [if_pos ⟨by omega, by show 0 ≤ p; omega, by show p < 0 + 8; omega⟩]
        show gi w' (s + 1 + 1 + v) (0 + (p - 0)) = _
        rw [h5 _ _ (by omega), show 0 + (p - 0) = p by omega]
      · rw [if_neg (by omega)]
        exact h4 v (by omega) p hp
    · rw [gi_cpi, if_neg (by omega)]
      exact h5 q k (by omega)
  · have e : u = 6 := by omega
    subst e
    rw [if_pos (ge_l 6 (by omega) (by omega)), wp_cp, wp_cp, wp_rI, wp_wI, wp_rI, wp_wI, wp_rI, wp_wI, wp_rt]
    have c1 : ∀ q k, gi (cpi (cpi w' (s + 8) 0 (d + 8) 0 6) (s + 9) 0 (d + 9) 0 84) q k = if q = d + 9 ∧ k < 84 then gi w' (s + 9) k else if q = d + 8 ∧ k < 6 then gi w' (s + 8) k else gi w' q k := by
      intro q k
      rw [gi_cpi]
      by_cases a1 : q = d + 9 ∧ k < 84
      · rw [if_pos (by omega), if_pos a1, gi_cpi, if_neg (by omega), show 0 + (k - 0) = k by omega]
      · rw [if_neg (by omega), if_neg a1, gi_cpi]
        by_cases a2 : q = d + 8 ∧ k < 6
        · rw [if_pos (by omega), if_pos a2, show 0 + (k - 0) = k by omega]
        · rw [if_neg (by omega), if_neg a2]
    show Cp8 d s w (si (si (si (cpi (cpi w' (s + 8) 0 (d + 8) 0 6) (s + 9) 0 (d + 9) 0 84) d 3 _) d 4 _) d 5 _) ∧ ∀ q k, _ → gi (si (si (si (cpi (cpi w' (s + 8) 0 (d + 8) 0 6) (s + 9) 0 (d + 9) 0 84) d 3 _) d 4 _) d 5 _) q k = gi w q k
    refine ⟨⟨h3, fun v hv p hp => ?_, fun v hv => ?_, fun z hz => ?_, ?_, ?_, ?_⟩, fun q k hq => ?_⟩
    · rw [gi_si_n (by omega), gi_si_n (by omega), gi_si_n (by omega), c1, if_neg (by omega), if_neg (by omega)]
      exact h4 v hv p hp
    · rw [gi_si_n (by omega), gi_si_n (by omega), gi_si_n (by omega), c1, if_neg (by omega), if_pos ⟨rfl, hv⟩]
      exact h5 _ _ (by omega)
    · rw [gi_si_n (by omega), gi_si_n (by omega), gi_si_n (by omega), c1, if_pos ⟨rfl, hz⟩]
      exact h5 _ _ (by omega)
    · rw [gi_si_n (by omega), gi_si_n (by omega), gi_si_s]
      show gi (cpi (cpi w' (s + 8) 0 (d + 8) 0 6) (s + 9) 0 (d + 9) 0 84) s 3 = _
      rw [c1, if_neg (by omega), if_neg (by omega)]
      exact h5 _ _ (by omega)
    · rw [gi_si_n (by omega), gi_si_s, gi_si_n (by omega)]
      show gi (cpi (cpi w' (s + 8) 0 (d + 8) 0 6) (s + 9) 0 (d + 9) 0 84) s 4 = _
      rw [c1, if_neg (by omega), if_neg (by omega)]
      exact h5 _ _ (by omega)
    · rw [gi_si_s, gi_si_n (by omega), gi_si_n (by omega)]
      show gi (cpi (cpi w' (s + 8) 0 (d + 8) 0 6) (s + 9) 0 (d + 9) 0 84) s 5 = _
      rw [c1, if_neg (by omega), if_neg (by omega)]
      exact h5 _ _ (by omega)
    · rw [gi_si_n (by omega), gi_si_n (by omega), gi_si_n (by omega), c1, if_neg (by omega), if_neg (by omega)]
      exact h5 q k (by omega)
/-- one book of the reference is now as another was -/
def Cp9 (d s : Nat) (w w' : Wd) : Prop := gr w' = gr w ∧ (∀ k, k < 6 → gi w' 167 (6 * d + k) = gi w 167 (6 * s + k)) ∧ (∀ k, k < 48 → gi w' 168 (48 * d + k) = gi w 168 (48 * s + k)) ∧ (∀ k, k < 84 → gi w' 172 (84 * d + k) = gi w 172 (84 * s + k)) ∧ gi w' 169 d = gi w 169 s ∧ gi w' 170 d = gi w 170 s ∧ gi w' 171 d = gi w 171 s
theorem wp_copy9 {d s : Nat} (hd : d < 3) (hs3 : s < 3) (hne : d ≠ s) : wp (f_X9_copy (nI s) (nI d)) w (fun _ w' => Cp9 d s w w' ∧ ∀ q k, ¬ (q = 167 ∧ 6 * d ≤ k ∧ k < 6 * d + 6) → ¬ (q = 168 ∧ 48 * d ≤ k ∧ k < 48 * d + 48) → ¬ (q = 172 ∧ 84 * d ≤ k ∧ k < 84 * d + 84) → ¬ (q = 169 ∧ k = d) → ¬ (q = 170 ∧ k = d) → ¬ (q = 171 ∧ k = d) → gi w' q k = gi w q k) := by
  unfold f_X9_copy
  refine wp_fix1 (fun n a w' => ∃ u, u ≤ 6 ∧ n = 6 - u ∧ a = nI u ∧ gr w' = gr w ∧ (∀ k, k < u → gi w' 167 (6 * d + k) = gi w 167 (6 * s + k)) ∧ ∀ q k, ¬ (q = 167 ∧ 6 * d ≤ k ∧ k < 6 * d + 6) → gi w' q k = gi w q k) (fun n a w' self hI hs => ?_) FU 6 _ w (by have := FU_big; omega) ⟨0, by omega, by omega, rfl, rfl, fun v hv => by omega, fun _ _ _ => rfl⟩
  obtain ⟨u, h1, h2, rfl, h3, h4, h5⟩ := hI
  unfold f_X9_copy_2
  by_cases hu : u < 6
  · rw [if_neg (nge_l 6 hu (by omega)), mu6, mu6, nI_add, nI_add, wp_aIn (by omega) (by omega), wp_sIn (by omega) (by omega), ad1]
    refine hs (6 - (u + 1)) _ _ (by omega) ⟨u + 1, by omega, rfl, rfl, h3, fun k hk => ?_, fun q k hq => ?_⟩
    · by_cases e : k = u
      · subst e
        rw [gi_si_s]
        exact h5 _ _ (by omega)
      · rw [gi_si_n (by omega)]
        exact h4 k (by omega)
    · rw [gi_si_n (by omega)]
      exact h5 q k hq
  · have e : u = 6 := by omega
    subst e
    rw [if_pos (ge_l 6 (by omega) (by omega))]
    refine wp_fix1 (fun n a w'' => ∃ u, u ≤ 48 ∧ n = 48 - u ∧ a = nI u ∧ gr w'' = gr w ∧ (∀ k, k < u → gi w'' 168 (48 * d + k) = gi w 168 (48 * s + k)) ∧ ∀ q k, ¬ (q = 168 ∧ 48 * d ≤ k ∧ k < 48 * d + 48) → gi w'' q k = gi w' q k) (fun n a w'' self hI hs => ?_) FU 48 _ w' (by have := FU_big; omega) ⟨0, by omega, by omega, rfl, h3, fun v hv => by omega, fun _ _ _ => rfl⟩
    obtain ⟨u, g1, g2, rfl, g3, g4, g5⟩ := hI
    unfold f_X9_copy_38
    by_cases hu : u < 48
    · rw [if_neg (nge_l 48 hu (by omega)), mu48, mu48, nI_add, nI_add, wp_aIn (by omega) (by omega), wp_sIn (by omega) (by omega), ad1]
      refine hs (48 - (u + 1)) _ _ (by omega) ⟨u + 1, by omega, rfl, rfl, g3, fun k hk => ?_, fun q k hq => ?_⟩
      · by_cases e : k = u
        · subst e
          rw [gi_si_s, g5 _ _ (by omega)]
          exact h5 _ _ (by omega)
        · rw [gi_si_n (by omega)]
          exact g4 k (by omega)
      · rw [gi_si_n (by omega)]
        exact g5 q k hq
    · have e : u = 48 := by omega
      subst e
      rw [if_pos (ge_l 48 (by omega) (by omega)), wp_aIn (by omega) (by omega), wp_sIn (by omega) (by omega), wp_aIn (by omega) (by omega), wp_sIn (by omega) (by omega), wp_aIn (by omega) (by omega), wp_sIn (by omega) (by omega)]
      generalize hw3 : si (si (si w'' 169 d _) 170 d _) 171 d _ = w3
      have k1 : gi w3 169 d = gi w 169 s := by rw [← hw3, gi_si_n (by omega), gi_si_n (by omega), gi_si_s, g5 _ _ (by omega), h5 _ _ (by omega)]
      have k2 : gi w3 170 d = gi w 170 s := by rw [← hw3, gi_si_n (by omega), gi_si_s, gi_si_n (by omega), g5 _ _ (by omega), h5 _ _ (by omega)]
      have k3 : gi w3 171 d = gi w 171 s := by rw [← hw3, gi_si_s, gi_si_n (by omega), gi_si_n (by omega), g5 _ _ (by omega), h5 _ _ (by omega)]
      have k4 : ∀ q k, ¬ (q = 169 ∧ k = d) → ¬ (q = 170 ∧ k = d) → ¬ (q = 171 ∧ k = d) → gi w3 q k = gi w'' q k := by
        intro q k z1 z2 z3
        rw [← hw3, gi_si_n (by omega), gi_si_n (by omega), gi_si_n (by omega)]
      have k5 : gr w3 = gr w := by rw [← hw3]; exact g3
      refine wp_fix1 (fun n a w4 => ∃ u, u ≤ 84 ∧ n = 84 - u ∧ a = nI u ∧ gr w4 = gr w ∧ (∀ k, k < u → gi w4 172 (84 * d + k) = gi w 172 (84 * s + k)) ∧ ∀ q k, ¬ (q = 172 ∧ 84 * d ≤ k ∧ k < 84 * d + 84) → gi w4 q k = gi w3 q k) (fun n a w4 self hI hs => ?_) FU 84 _ w3 (by have := FU_big; omega) ⟨0, by omega, by omega, rfl, k5, fun v hv => by omega, fun _ _ _ => rfl⟩
      obtain ⟨u, f1, f2, rfl, f3, f4, f5⟩ := hI
      unfold f_X9_copy_110
      by_cases hu : u < 84
      · rw [if_neg (nge_l 84 hu (by omega)), mu84, mu84, nI_add, nI_add, wp_aIn (by omega) (by omega), wp_sIn (by omega) (by omega), ad1]
        refine hs (84 - (u + 1)) _ _ (by omega) ⟨u + 1, by omega, rfl, rfl, f3, fun k hk => ?_, fun q k hq => ?_⟩
        · by_cases e : k = u
          · subst e
            rw [gi_si_s, f5 _ _ (by omega), k4 _ _ (by omega) (by omega) (by omega), g5 _ _ (by omega)]
            exact h5 _ _ (by omega)
          · rw [gi_si_n (by omega)]
            exact f4 k (by omega)
        · rw [gi_si_n (by omega)]
          exact f5 q k hq
      · have e : u = 84 := by omega
        subst e
        rw [if_pos (ge_l 84 (by omega) (by omega)), wp_rt]
        refine ⟨⟨f3, fun k hk => ?_, fun k hk => ?_, f4, ?_, ?_, ?_⟩, fun q k z1 z2 z3 z4 z5 z6 => ?_⟩
        · rw [f5 _ _ (by omega), k4 _ _ (by omega) (by omega) (by omega), g5 _ _ (by omega)]; exact h4 k hk
        · rw [f5 _ _ (by omega), k4 _ _ (by omega) (by omega) (by omega)]; exact g4 k hk
        · rw [f5 _ _ (by omega)]; exact k1
        · rw [f5 _ _ (by omega)]; exact k2
        · rw [f5 _ _ (by omega)]; exact k3
        · rw [f5 q k z3, k4 q k z4 z5 z6, g5 q k z2, h5 q k z1]
theorem IVs.cp {W c c' : Nat} {w1 w2 : Wd} (h : IVs W c w) (a : Cp8 (20 + 10 * c') (20 + 10 * c) w w1) (b : Cp9 c' c w1 w2) (e8 : ∀ q k, (20 ≤ q ∧ q ≤ 49) → gi w2 q k = gi w1 q k) (e9 : ∀ q k, 167 ≤ q → gi w1 q k = gi w q k) (hc' : c' < 3) : IVs W c' w2 := by
  intro v hv
  obtain ⟨s, s1, s2, s3, s4⟩ := h v hv
  refine ⟨s, s1, ?_, ?_, fun p hp => ?_⟩
  · rw [e8 _ _ (by omega), show 28 + 10 * c' = 20 + 10 * c' + 8 by omega, a.2.2.1 v hv]
    rw [← s2]; congr 1; omega
  · rw [b.2.1 v hv, e9 _ _ (by omega)]; exact s3
  · obtain ⟨x, x1, x2, x3⟩ := s4 p hp
    refine ⟨x, x1, ?_, ?_⟩
    · rw [e8 _ _ (by omega), show 22 + 10 * c' + v = 20 + 10 * c' + 2 + v by omega, a.2.1 v hv p (by omega)]
      rw [← x2]; congr 1; omega
    · rw [show 48 * c' + 8 * v + p = 48 * c' + (8 * v + p) by omega, b.2.2.1 _ (by omega), e9 _ _ (by omega)]
      rw [← x3]; congr 1; omega
theorem ISy.cp {W c c' : Nat} {w1 w2 : Wd} (h : ISy W c w) (a : Cp8 (20 + 10 * c') (20 + 10 * c) w w1) (b : Cp9 c' c w1 w2) (e8 : ∀ q k, (20 ≤ q ∧ q ≤ 49) → gi w2 q k = gi w1 q k) (e9 : ∀ q k, 167 ≤ q → gi w1 q k = gi w q k) (hc' : c' < 3) : ISy W c' w2 := by
  obtain ⟨n, n1, n2, n3, n4⟩ := h
  refine ⟨n, n1, ?_, ?_, fun h0 => ?_⟩
  · rw [e8 _ _ (by omega), a.2.2.2.2.1]; exact n2
  · rw [b.2.2.2.2.1, e9 _ _ (by omega)]; exact n3
  · obtain ⟨hW, y, m, k1, k2, k3, k4, k5, k6, k7, k8, k9⟩ := n4 h0
    refine ⟨hW, y, m, k1, k2, k3, k4, ?_, ?_, ?_, ?_, fun z hz => ?_⟩
    · rw [e8 _ _ (by omega), a.2.2.2.2.2.1]; exact k5
    · rw [b.2.2.2.2.2.1, e9 _ _ (by omega)]; exact k6
    · rw [e8 _ _ (by omega), a.2.2.2.2.2.2]; exact k7
    · rw [b.2.2.2.2.2.2, e9 _ _ (by omega)]; exact k8
    · obtain ⟨k, f1, f2, f3⟩ := k9 z hz
      refine ⟨k, f1, ?_, ?_⟩
      · rw [e8 _ _ (by omega), show 29 + 10 * c' = 20 + 10 * c' + 9 by omega, a.2.2.2.1 z (by omega)]
        rw [← f2]; congr 1; omega
      · rw [b.2.2.2.1 z (by omega), e9 _ _ (by omega)]; exact f3
theorem rd_keptAt {k : Nat} (hk : k < 2) : Rd (f_X8_keptAt (nI k)) w (30 + 10 * k) := by
  unfold f_X8_keptAt f_X8_keptAt_15
  rcases (by omega : k = 0 ∨ k = 1) with rfl | rfl
  · rw [if_pos (eq_l 0 rfl)]; exact rd_rt
  · rw [if_neg (by decide)]; exact rd_rt
theorem Cp9.to {d s : Nat} {w1 w2 w3 w4 : Wd} (h : Cp9 d s w2 w3) (f : ∀ q k, 167 ≤ q → gi w2 q k = gi w1 q k) (f' : ∀ q k, 167 ≤ q → gi w4 q k = gi w3 q k) (g1 : gr w2 = gr w1) (g2 : gr w4 = gr w3) : Cp9 d s w1 w4 := by
  obtain ⟨c1, c2, c3, c4, c5, c6, c7⟩ := h
  refine ⟨by rw [g2, c1, g1], fun k hk => ?_, fun k hk => ?_, fun k hk => ?_, ?_, ?_, ?_⟩
  · rw [f' _ _ (by omega), c2 k hk, f _ _ (by omega)]
  · rw [f' _ _ (by omega), c3 k hk, f _ _ (by omega)]
  · rw [f' _ _ (by omega), c4 k hk, f _ _ (by omega)]
  · rw [f' _ _ (by omega), c5, f _ _ (by omega)]
  · rw [f' _ _ (by omega), c6, f _ _ (by omega)]
  · rw [f' _ _ (by omega), c7, f _ _ (by omega)]
theorem pr_keep (hw : Inv w) : Pair f_X8_keep f_X9_keep w := by
  obtain ⟨t, W, hR, hT, hTo, hJ, hV, hS, hK, hL, hH⟩ := id hw
  obtain ⟨kc, k1, k2, k3, k4⟩ := id hK
  have ht := hR.1
  unfold Pair f_X8_keep f_X9_keep
  rw [wp_rI, k2]
  by_cases hk : kc < 2
  · rw [if_pos (lt_l 2 hk (by omega)), wp_rI, k2, wp_bnd, (rd_keptAt hk).wp, wp_gd]
    refine ⟨by unfold isB; omega, ?_⟩
    rw [wp_bnd]
    refine wp_mono (wp_copy8 (by omega)) (fun _ w1 h => ?_)
    obtain ⟨g8, a8⟩ := h
    have a1 := g8.1
    have z1 : gi w1 0 6 = nI kc := by rw [a8 _ _ (by omega)]; exact k2
    rw [wp_rI, z1, wp_wI, wp_rI, gi_si_s, wp_rt, ad1]
    generalize hw2 : si w1 0 6 (nI (kc + 1)) = w2
    have b8 : ∀ q k, ¬ (q = 0 ∧ k = 6) → gi w2 q k = gi w1 q k := fun q k hq => by rw [← hw2, gi_si_n (by omega)]
    have b6 : gi w2 0 6 = nI (kc + 1) := by rw [← hw2, gi_si_s]
    have b7 : gr w2 = gr w1 := by rw [← hw2]; rfl
    have z2 : gi w2 161 12 = nI kc := by rw [b8 _ _ (by omega), a8 _ _ (by omega)]; exact k3
    rw [wp_rI, z2, if_neg (ne_l 2 (by omega) (by omega) (by omega)), wp_rI, z2, wp_bnd, show 1 + nI kc = nI (1 + kc) from nI_add 1 kc]
    refine wp_mono (wp_copy9 (d := 1 + kc) (s := 0) (by omega) (by omega) (by omega)) (fun _ w3 h => ?_)
    obtain ⟨g9, c8⟩ := h
    have z3 : gi w3 161 12 = nI kc := by rw [c8 _ _ (by omega) (by omega) (by omega) (by omega) (by omega) (by omega)]; exact z2
    rw [wp_rI, z3, wp_wI, wp_rI, gi_si_s, wp_rt, ad1]
    refine ⟨rfl, ?_⟩
    generalize hw4 : si w3 161 12 (nI (kc + 1)) = w4
    have d8 : ∀ q k, ¬ (q = 161 ∧ k = 12) → gi w4 q k = gi w3 q k := fun q k hq => by rw [← hw4, gi_si_n (by omega)]
    have d6 : gi w4 161 12 = nI (kc + 1) := by rw [← hw4, gi_si_s]
    have d7 : gr w4 = gr w3 := by rw [← hw4]; rfl
    have e8 : ∀ q k, (20 ≤ q ∧ q ≤ 49) → gi w4 q k = gi w1 q k := fun q k hq => by
      rw [d8 _ _ (by omega), c8 _ _ (by omega) (by omega) (by omega) (by omega) (by omega) (by omega), b8 _ _ (by omega)]
    have e9 : ∀ q k, 167 ≤ q → gi w1 q k = gi w q k := fun q k hq => a8 _ _ (by omega)
    have g9' : Cp9 (1 + kc) 0 w1 w4 := g9.to (fun q k hq => b8 _ _ (by omega)) (fun q k hq => d8 _ _ (by omega)) b7 d7
    have g8' : Cp8 (20 + 10 * (1 + kc)) (20 + 10 * 0) w w1 := by rw [show 20 + 10 * (1 + kc) = 30 + 10 * kc by omega]; exact g8
    have old : ∀ q k, ¬ (30 + 10 * kc ≤ q ∧ q ≤ 39 + 10 * kc) → ¬ (q = 0 ∧ k = 6) → ¬ (q = 161 ∧ k = 12) → ¬ (q = 167 ∧ 6 * (1 + kc) ≤ k ∧ k < 6 * (1 + kc) + 6) → ¬ (q = 168 ∧ 48 * (1 + kc) ≤ k ∧ k < 48 * (1 + kc) + 48) → ¬ (q = 172 ∧ 84 * (1 + kc) ≤ k ∧ k < 84 * (1 + kc) + 84) → ¬ (q = 169 ∧ k = 1 + kc) → ¬ (q = 170 ∧ k = 1 + kc) → ¬ (q = 171 ∧ k = 1 + kc) → gi w4 q k = gi w q k := by
      intro q k y1 y2 y3 y4 y5 y6 y7 y8 y9
      rw [d8 _ _ y3, c8 _ _ y4 y5 y6 y7 y8 y9, b8 _ _ y2, a8 _ _ (by omega)]
    have hr : gr w4 = gr w := by rw [d7, g9.1, b7, a1]
    refine inv_book cK (fun q k h => by unfold cK at h; unfold cBk; omega) hR hT hTo hJ hL hH hr (fun q k hc => ?_) (hV.to0 fun q k hc => ?_) (hS.to0 fun q k hc => ?_) ⟨kc + 1, by omega, ?_, d6, fun c hc1 hc2 => ?_⟩
    · obtain ⟨o1, o2⟩ := hc
      unfold cK at o2
      refine old q k ?_ ?_ ?_ ?_ ?_ ?_ ?_ ?_ ?_ <;> omega
    · unfold cV0 at hc
      refine old q k ?_ ?_ ?_ ?_ ?_ ?_ ?_ ?_ ?_ <;> omega
    · unfold cS0 at hc
      refine old q k ?_ ?_ ?_ ?_ ?_ ?_ ?_ ?_ ?_ <;> omega
    · rw [d8 _ _ (by omega), c8 _ _ (by omega) (by omega) (by omega) (by omega) (by omega) (by omega)]; exact b6
    · by_cases e : c = 1 + kc
      · subst e
        exact ⟨hV.cp g8' g9' e8 e9 (by omega), hS.cp g8' g9' e8 e9 (by omega)⟩
      · obtain ⟨q1, q2⟩ := k4 c hc1 (by omega)
        refine ⟨fun v hv => ?_, ?_⟩
        · obtain ⟨s, s1, s2, s3, s4⟩ := q1 v hv
          refine ⟨s, s1, ?_, ?_, fun p hp => ?_⟩
          · rw [old _ _ (by omega) (by omega) (by omega) (by omega) (by omega) (by omega) (by omega) (by omega) (by omega)]; exact s2
          · rw [old _ _ (by omega) (by omega) (by omega) (by omega) (by omega) (by omega) (by omega) (by omega) (by omega)]; exact s3
          · rw [old _ _ (by omega) (by omega) (by omega) (by omega) (by omega) (by omega) (by omega) (by omega) (by omega), old _ _ (by omega) (by omega) (by omega) (by omega) (by omega) (by omega) (by omega) (by omega) (by omega)]; exact s4 p hp
        · obtain ⟨n, n1, n2, n3, n4⟩ := q2
          refine ⟨n, n1, ?_, ?_, fun h0 => ?_⟩
          · rw [old _ _ (by omega) (by omega) (by omega) (by omega) (by omega) (by omega) (by omega) (by omega) (by omega)]; exact n2
          · rw [old _ _ (by omega) (by omega) (by omega) (by omega) (by omega) (by omega) (by omega) (by omega) (by omega)]; exact n3
          · obtain ⟨hW, y, m, f1, f2, f3, f4, f5, f6, f7, f8, f9⟩ := n4 h0
            refine ⟨hW, y, m, f1, f2, f3, f4, ?_, ?_, ?_, ?_, fun z hz => ?_⟩
            · rw [old _ _ (by omega) (by omega) (by omega) (by omega) (by omega) (by omega) (by omega) (by omega) (by omega)]; exact f5
            · rw [old _ _ (by omega) (by omega) (by omega) (by omega) (by omega) (by omega) (by omega) (by omega) (by omega)]; exact f6
            · rw [old _ _ (by omega) (by omega) (by omega) (by omega) (by omega) (by omega) (by omega) (by omega) (by omega)]; exact f7
            · rw [old _ _ (by omega) (by omega) (by omega) (by omega) (by omega) (by omega) (by omega) (by omega) (by omega)]; exact f8
            · rw [old _ _ (by omega) (by omega) (by omega) (by omega) (by omega) (by omega) (by omega) (by omega) (by omega), old _ _ (by omega) (by omega) (by omega) (by omega) (by omega) (by omega) (by omega) (by omega) (by omega)]; exact f9 z hz
  · rw [if_neg (nlt_l 2 (by omega) (by omega)), wp_rt, wp_rI, k3, if_pos (eq_l 2 (by omega))]
    exact wp_rt.mpr ⟨rfl, hw⟩
theorem pr_back (hw : Inv w) : Pair f_X8_back f_X9_back w := by
  obtain ⟨t, W, hR, hT, hTo, hJ, hV, hS, hK, hL, hH⟩ := id hw
  obtain ⟨kc, k1, k2, k3, k4⟩ := id hK
  have ht := hR.1
  unfold Pair f_X8_back f_X9_back
  rw [wp_rI, k2]
  by_cases hk : 0 < kc
  · obtain ⟨c, rfl⟩ : ∃ c, kc = c + 1 := ⟨kc - 1, by omega⟩
    rw [if_pos (gt_l 0 hk (by omega)), wp_rI, k2, wp_wI, sb1, wp_rI, gi_si_s, wp_bnd, (rd_keptAt (by omega)).wp, wp_gd]
    refine ⟨by unfold isB; omega, ?_⟩
    rw [wp_bnd]
    generalize hw0 : si w 0 6 (nI c) = w0
    have b8 : ∀ q k, ¬ (q = 0 ∧ k = 6) → gi w0 q k = gi w q k := fun q k hq => by rw [← hw0, gi_si_n (by omega)]
    have b6 : gi w0 0 6 = nI c := by rw [← hw0, gi_si_s]
    have b7 : gr w0 = gr w := by rw [← hw0]; rfl
    refine wp_mono (wp_copy8 (by omega)) (fun _ w1 h => ?_)
    obtain ⟨⟨a1, a2, a3, a4, a5, a6, a7⟩, a8⟩ := h
    have g8 : Cp8 (20 + 10 * 0) (20 + 10 * (c + 1)) w w1 := by
      rw [show 20 + 10 * (c + 1) = 30 + 10 * c by omega]
      refine ⟨a1.trans b7, fun v hv p hp => ?_, fun v hv => ?_, fun z hz => ?_, ?_, ?_, ?_⟩
      · rw [a2 v hv p hp, b8 _ _ (by omega)]
      · rw [a3 v hv, b8 _ _ (by omega)]
      · rw [a4 z hz, b8 _ _ (by omega)]
      · rw [a5, b8 _ _ (by omega)]
      · rw [a6, b8 _ _ (by omega)]
      · rw [a7, b8 _ _ (by omega)]
    have z1 : gi w1 0 6 = nI c := by rw [a8 _ _ (by omega)]; exact b6
    have z2 : gi w1 161 12 = nI (c + 1) := by rw [a8 _ _ (by omega), b8 _ _ (by omega)]; exact k3
    rw [wp_rI, z1, wp_rt, wp_rI, z2, if_neg (ne_l 0 (by omega) (by omega) (by omega)), wp_rI, z2, wp_wI, sb1, wp_rI, gi_si_s, wp_bnd, show 1 + nI c = nI (1 + c) from nI_add 1 c]
    generalize hw2 : si w1 161 12 (nI c) = w2
    have c8 : ∀ q k, ¬ (q = 161 ∧ k = 12) → gi w2 q k = gi w1 q k := fun q k hq => by rw [← hw2, gi_si_n (by omega)]
    have c6 : gi w2 161 12 = nI c := by rw [← hw2, gi_si_s]
    have c7 : gr w2 = gr w1 := by rw [← hw2]; rfl
    refine wp_mono (wp_copy9 (d := 0) (s := 1 + c) (by omega) (by omega) (by omega)) (fun _ w4 h => ?_)
    obtain ⟨g9, d8⟩ := h
    have d6 : gi w4 161 12 = nI c := by rw [d8 _ _ (by omega) (by omega) (by omega) (by omega) (by omega) (by omega)]; exact c6
    rw [wp_rI, d6, wp_rt]
    refine ⟨rfl, ?_⟩
    have e8 : ∀ q k, (20 ≤ q ∧ q ≤ 49) → gi w4 q k = gi w1 q k := fun q k hq => by
      rw [d8 _ _ (by omega) (by omega) (by omega) (by omega) (by omega) (by omega), c8 _ _ (by omega)]
    have e9 : ∀ q k, 167 ≤ q → gi w1 q k = gi w q k := fun q k hq => by rw [a8 _ _ (by omega), b8 _ _ (by omega)]
    have g9' : Cp9 0 (c + 1) w1 w4 := by
      rw [show c + 1 = 1 + c by omega]
      exact g9.to (fun q k hq => c8 _ _ (by omega)) (fun q k hq => rfl) c7 rfl
    have old : ∀ q k, ¬ (20 ≤ q ∧ q ≤ 29) → ¬ (q = 0 ∧ k = 6) → ¬ (q = 161 ∧ k = 12) → ¬ (q = 167 ∧ k < 6) → ¬ (q = 168 ∧ k < 48) → ¬ (q = 172 ∧ k < 84) → ¬ (q = 169 ∧ k = 0) → ¬ (q = 170 ∧ k = 0) → ¬ (q = 171 ∧ k = 0) → gi w4 q k = gi w q k := by
      intro q k y1 y2 y3 y4 y5 y6 y7 y8 y9
      rw [d8 _ _ (by omega) (by omega) (by omega) y7 y8 y9, c8 _ _ y3, a8 _ _ (by omega), b8 _ _ y2]
    have hr : gr w4 = gr w := by rw [g9.1, c7, a1, b7]
    obtain ⟨q1, q2⟩ := k4 (c + 1) (by omega) (by omega)
    refine inv_bk hR hT hTo hJ hL hH hr (fun q k hc => ?_) (q1.cp g8 g9' e8 e9 (by omega)) (q2.cp g8 g9' e8 e9 (by omega)) ⟨c, by omega, ?_, d6, fun c' hc1 hc2 => ?_⟩
    · unfold oBk cTxt cTon cSl cHd at hc
      refine old q k ?_ ?_ ?_ ?_ ?_ ?_ ?_ ?_ ?_ <;> omega
    · rw [d8 _ _ (by omega) (by omega) (by omega) (by omega) (by omega) (by omega), c8 _ _ (by omega)]; exact z1
    · obtain ⟨q1, q2⟩ := k4 c' hc1 (by omega)
      refine ⟨fun v hv => ?_, ?_⟩
      · obtain ⟨s, s1, s2, s3, s4⟩ := q1 v hv
        refine ⟨s, s1, ?_, ?_, fun p hp => ?_⟩
        · rw [old _ _ (by omega) (by omega) (by omega) (by omega) (by omega) (by omega) (by omega) (by omega) (by omega)]; exact s2
        · rw [old _ _ (by omega) (by omega) (by omega) (by omega) (by omega) (by omega) (by omega) (by omega) (by omega)]; exact s3
        · rw [old _ _ (by omega) (by omega) (by omega) (by omega) (by omega) (by omega) (by omega) (by omega) (by omega), old _ _ (by omega) (by omega) (by omega) (by omega) (by omega) (by omega) (by omega) (by omega) (by omega)]; exact s4 p hp
      · obtain ⟨n, n1, n2, n3, n4⟩ := q2
        refine ⟨n, n1, ?_, ?_, fun h0 => ?_⟩
        · rw [old _ _ (by omega) (by omega) (by omega) (by omega) (by omega) (by omega) (by omega) (by omega) (by omega)]; exact n2
        · rw [old _ _ (by omega) (by omega) (by omega) (by omega) (by omega) (by omega) (by omega) (by omega) (by omega)]; exact n3
        · obtain ⟨hW, y, m, f1, f2, f3, f4, f5, f6, f7, f8, f9⟩ := n4 h0
          refine ⟨hW, y, m, f1, f2, f3, f4, ?_, ?_, ?_, ?_, fun z hz => ?_⟩
          · rw [old _ _ (by omega) (by omega) (by omega) (by omega) (by omega) (by omega) (by omega) (by omega) (by omega)]; exact f5
          · rw [old _ _ (by omega) (by omega) (by omega) (by omega) (by omega) (by omega) (by omega) (by omega) (by omega)]; exact f6
          · rw [old _ _ (by omega) (by omega) (by omega) (by omega) (by omega) (by omega) (by omega) (by omega) (by omega)]; exact f7
          · rw [old _ _ (by omega) (by omega) (by omega) (by omega) (by omega) (by omega) (by omega) (by omega) (by omega)]; exact f8
          · rw [old _ _ (by omega) (by omega) (by omega) (by omega) (by omega) (by omega) (by omega) (by omega) (by omega), old _ _ (by omega) (by omega) (by omega) (by omega) (by omega) (by omega) (by omega) (by omega) (by omega)]; exact f9 z hz
  · rw [if_neg (ngt_l 0 (by omega) (by omega)), wp_rt, wp_rI, k3, if_pos (eq_l 0 (by omega))]
    exact wp_rt.mpr ⟨rfl, hw⟩
end KEPT
