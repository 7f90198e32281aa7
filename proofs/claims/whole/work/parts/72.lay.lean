/-! lay -/
section LAY
variable {w : Wd} {d n : Nat} {s : St}
def JF (d : Nat) (s : St) (i o : Nat) (w : Wd) : Prop := gi w (d + 6) (17 * o + i) = nI (128 * (s.2.2.1 (8 * s.2.1 (3 * o + 2) + s.2.1 (3 * i)) % 8) + 8 * s.2.1 (3 * i + 1)) ∧ gi w (d + 7) (17 * o + i) = nI (s.2.2.1 (8 * s.2.1 (3 * i + 2) + s.2.1 (3 * o)) / 8)
def J1 (d : Nat) (s : St) (i : Nat) (w : Wd) : Prop := gi w (d + 6) (272 + i) = nI (128 * s.2.1 (3 * i) + 8 * s.2.1 (3 * i + 1)) ∧ gi w (d + 7) (272 + i) = nI (s.2.1 (3 * i + 2))
def cJ (d q _k : Nat) : Prop := q = d + 6 ∨ q = d + 7
theorem D8.toJ {w' : Wd} (h : D8 d s w) (f : Fr (cJ d) w w') : D8 d s w' := h.to (fun q k hq => f.2.2 q k (by unfold cJ; omega))
theorem wp_joinAll (hd : isT d) (hD : D8 d s w) (hO : SOk s) : wp (f_X6_joinAll d) w (fun _ w' => Fr (cJ d) w w' ∧ ∀ i, i < s.1 → J1 d s i w' ∧ ∀ o, o < s.1 → JF d s i o w') := by
  have hd' : d = 4 ∨ d = 12 := hd
  obtain ⟨o1, o2, o3, o4⟩ := id hO
  unfold f_X6_joinAll
  refine wp_fix1 (fun m x w' => ∃ i, i ≤ s.1 ∧ m = s.1 - i ∧ x = nI i ∧ Fr (cJ d) w w' ∧ ∀ i', i' < i → J1 d s i' w' ∧ ∀ o, o < s.1 → JF d s i' o w') (fun m x w' self hI hs => ?_) FU s.1 0 w (by have := FU_big; omega) ⟨0, by omega, by omega, rfl, Fr.rf, fun i hi => by omega⟩
  obtain ⟨i, i1, i2, rfl, i3, i4⟩ := hI
  obtain ⟨g1, g2, g3, g4⟩ := hD.toJ i3
  unfold f_X6_joinAll_2
  rw [wp_rI, g1]
  by_cases hi : s.1 ≤ i
  · rw [if_pos (nI_le hi (by omega)), wp_rt]
    exact ⟨i3, fun j hj => i4 j (by omega)⟩
  · obtain ⟨y1, y2, y3⟩ := g2 i (by omega)
    obtain ⟨r1, r2, r3⟩ := o2 i (by omega)
    rw [if_neg (nI_ge (by omega) (by omega)), wp_aIn (by omega) (by omega), y1, wp_aIn (by omega) (by omega), y2, show 272 + nI i = nI (272 + i) from nI_add 272 i, mu128, mu8, nI_add, wp_sIn (by omega) (by omega), wp_aIn (by omega) (by omega), gi_si_n (by omega), y3, wp_sIn (by omega) (by omega)]
    refine wp_fix1 (fun m x w2 => ∃ o, o ≤ s.1 ∧ m = s.1 - o ∧ x = nI o ∧ Fr (cJ d) w w2 ∧ (∀ i', i' < i → J1 d s i' w2 ∧ ∀ o, o < s.1 → JF d s i' o w2) ∧ J1 d s i w2 ∧ ∀ o', o' < o → JF d s i o' w2) (fun m x w2 self2 hI hs2 => ?_) FU s.1 0 _ (by have := FU_big; omega) ⟨0, by omega, by omega, rfl, (i3.si (Or.inl rfl)).si (Or.inr rfl), fun i' hi' => ?_, ?_, fun o ho => by omega⟩
    · obtain ⟨o, q1, q2, rfl, q3, q4, q5, q6⟩ := hI
      obtain ⟨G1, G2, G3, G4⟩ := hD.toJ q3
      unfold f_X6_joinAll_58
      rw [wp_rI, G1]
      by_cases ho : s.1 ≤ o
      · rw [if_pos (nI_le ho (by omega)), ad1]
        refine hs (s.1 - (i + 1)) _ _ (by omega) ⟨i + 1, by omega, rfl, rfl, q3, fun i' hi' => ?_⟩
        by_cases e : i' = i
        · rw [e]; exact ⟨q5, fun o' ho' => q6 o' (by omega)⟩
        · exact q4 i' (by omega)
      · obtain ⟨Y1, Y2, Y3⟩ := G2 i (by omega)
        obtain ⟨Z1, Z2, Z3⟩ := G2 o (by omega)
        obtain ⟨S1, S2, S3⟩ := o2 o (by omega)
        have j1 := o3 (8 * s.2.1 (3 * o + 2) + s.2.1 (3 * i)) (by omega)
        have j2 := o3 (8 * s.2.1 (3 * i + 2) + s.2.1 (3 * o)) (by omega)
        rw [if_neg (nI_ge (by omega) (by omega)), wp_aIn (by omega) (by omega), Z3, wp_aIn (by omega) (by omega), Y1, mu8, nI_add, wp_aIn (by omega) (by omega), G3 _ (by omega), wp_aIn (by omega) (by omega), Y3, wp_aIn (by omega) (by omega), Z1, mu8, nI_add, wp_aIn (by omega) (by omega), G3 _ (by omega), wp_gd]
        refine ⟨by decide, ?_⟩
        rw [wp_aIn (by omega) (by omega), Y2, mu17, nI_add, rem8 (by omega), mu128, mu8, nI_add, wp_sIn (by omega) (by omega), wp_gd]
        refine ⟨by decide, ?_⟩
        rw [div8 (by omega), wp_sIn (by omega) (by omega), ad1]
        refine hs2 (s.1 - (o + 1)) _ _ (by omega) ⟨o + 1, by omega, rfl, rfl, (q3.si (Or.inl rfl)).si (Or.inr rfl), fun i' hi' => ⟨?_, fun o' ho' => ?_⟩, ?_, fun o' ho' => ?_⟩
        · unfold J1
          rw [gi_si_n (by omega), gi_si_n (by omega), gi_si_n (by omega), gi_si_n (by omega)]
          exact (q4 i' hi').1
        · unfold JF
          rw [gi_si_n (by omega), gi_si_n (by omega), gi_si_n (by omega), gi_si_n (by omega)]
          exact (q4 i' hi').2 o' ho'
        · unfold J1
          rw [gi_si_n (by omega), gi_si_n (by omega), gi_si_n (by omega), gi_si_n (by omega)]
          exact q5
        · unfold JF
          by_cases e : o' = o
          · subst e
            rw [gi_si_n (by omega), gi_si_s, gi_si_s]
            exact ⟨rfl, rfl⟩
          · rw [gi_si_n (by omega), gi_si_n (by omega), gi_si_n (by omega), gi_si_n (by omega)]
            exact q6 o' (by omega)
    · refine ⟨?_, fun o ho => ?_⟩
      · unfold J1
        rw [gi_si_n (by omega), gi_si_n (by omega), gi_si_n (by omega), gi_si_n (by omega)]
        exact (i4 i' hi').1
      · unfold JF
        rw [gi_si_n (by omega), gi_si_n (by omega), gi_si_n (by omega), gi_si_n (by omega)]
        exact (i4 i' hi').2 o ho
    · unfold J1
      rw [gi_si_n (by omega), gi_si_s, gi_si_s]
      exact ⟨rfl, rfl⟩
theorem wp_empty8 : wp (f_X0_empty 20) w (fun _ w' => (∀ v, v < 6 → gi w' 28 v = nI 0) ∧ gi w' 20 3 = nI 0 ∧ Fr (fun q k => q = 28 ∨ (q = 20 ∧ k = 3)) w w') := by
  unfold f_X0_empty
  refine wp_fix1 (fun m x w' => ∃ v, v ≤ 6 ∧ m = 6 - v ∧ x = nI v ∧ (∀ v', v' < v → gi w' 28 v' = nI 0) ∧ Fr (fun q k => q = 28 ∨ (q = 20 ∧ k = 3)) w w') (fun m x w' self hI hs => ?_) FU 6 0 w (by have := FU_big; omega) ⟨0, by omega, by omega, rfl, fun v hv => by omega, Fr.rf⟩
  obtain ⟨v, v1, v2, rfl, v3, v4⟩ := hI
  unfold f_X0_empty_2
  by_cases hv : v < 6
  · rw [if_neg (nge_l 6 hv (by omega)), wp_sIn (by omega) (by omega), ad1]
    refine hs (6 - (v + 1)) _ _ (by omega) ⟨v + 1, by omega, rfl, rfl, fun v' hv' => ?_, v4.si (Or.inl rfl)⟩
    by_cases e : v' = v
    · rw [e, show 20 + 8 = 28 from rfl, gi_si_s]; rfl
    · rw [gi_si_n (by omega)]; exact v3 v' (by omega)
  · rw [if_pos (ge_l 6 (by omega) (by omega)), wp_wI, wp_rt]
    refine ⟨fun v' hv' => ?_, by rw [gi_si_s]; rfl, v4.si (Or.inr ⟨rfl, rfl⟩)⟩
    rw [gi_si_n (by omega)]; exact v3 v' (by omega)
/-- a run of cells is carried over -/
theorem wp_carry {N off q : Nat} {F : (Int32 → M Int32) → Int32 → M Int32} {Q : Int32 → Wd → Prop} (hN : N ≤ 100) (hle : N ≤ off)
    (hF : ∀ self i, i < N → ∀ w, wp (self (nI (i + 1))) (si w q i (gi w q (off + i))) Q → wp (F self (nI i)) w Q)
    (hend : ∀ self w', (∀ i, i < N → gi w' q i = gi w q (off + i)) → Fr (fun a k => a = q ∧ k < N) w w' → wp (F self (nI N)) w' Q) : wp (fix1 FU F 0) w Q := by
  refine wp_fix1 (fun m x w' => ∃ i, i ≤ N ∧ m = N - i ∧ x = nI i ∧ (∀ j, j < i → gi w' q j = gi w q (off + j)) ∧ Fr (fun a k => a = q ∧ k < N) w w') (fun m x w' self hI hs => ?_) FU N 0 w (by have := FU_big; omega) ⟨0, by omega, by omega, rfl, fun j hj => by omega, Fr.rf⟩
  obtain ⟨i, i1, i2, rfl, i3, i4⟩ := hI
  by_cases hi : i < N
  · refine hF self i hi w' (hs (N - (i + 1)) _ _ (by omega) ⟨i + 1, by omega, rfl, rfl, fun j hj => ?_, i4.si ⟨rfl, hi⟩⟩)
    by_cases e : j = i
    · rw [e, gi_si_s, i4.2.2 _ _ (by omega)]
    · rw [gi_si_n (by omega)]; exact i3 j (by omega)
  · have e : i = N := by omega
    subst e
    exact hend self w' i3 i4
/-- what the reference has when it has laid -/
def L9 (s : St) (w : Wd) : Prop := gi w 163 0 = nI s.1 ∧ (∀ i, i < s.1 → gi w 164 (3 * i) = nI (s.2.1 (3 * i)) ∧ gi w 164 (3 * i + 1) = nI (s.2.1 (3 * i + 1)) ∧ gi w 164 (3 * i + 2) = nI (s.2.1 (3 * i + 2))) ∧ (∀ k, k < 64 → gi w 165 k = nI (s.2.2.1 k)) ∧ (∀ k, k < 5 → gi w 166 k = nI (s.2.2.2 k)) ∧ (∀ v, v < 6 → gi w 167 v = nI 0) ∧ gi w 169 0 = nI 0 ∧ gi w 161 12 = nI 0 ∧ gi w 161 13 = nI 0 ∧ gi w 161 15 = nI 0
def cL9 (q k : Nat) : Prop := q = 163 ∨ q = 164 ∨ q = 165 ∨ q = 166 ∨ q = 167 ∨ q = 169 ∨ (q = 161 ∧ (k = 12 ∨ k = 13 ∨ k = 15))
theorem wp_laid (hD : D9 s w) (hO : SOk s) : wp (aI 163 2 1 (fun v2 => sI 163 2 0 v2 (fix1 FU (f_X9_lay_26) 0))) w (fun r w' => r = nI s.1 ∧ L9 s w' ∧ Fr cL9 w w') := by
  obtain ⟨g1, g2, g3, g4⟩ := hD
  show wp (aI 163 2 (nI 1) (fun v2 => sI 163 2 (nI 0) v2 (fix1 FU (f_X9_lay_26) 0))) w _
  rw [wp_aIn (by omega) (by omega), g1, wp_sIn (by omega) (by omega)]
  generalize hw1 : si w 163 0 (nI s.1) = w1
  have f1 : Fr cL9 w w1 := by rw [← hw1]; exact Fr.rf.si (Or.inl rfl)
  have e1 : ∀ q k, q ≠ 163 → gi w1 q k = gi w q k := fun q k hq => by rw [← hw1, gi_si_n (by omega)]
  have c1 : gi w1 163 0 = nI s.1 := by rw [← hw1, gi_si_s]
  refine wp_carry (N := 48) (off := 48) (q := 164) (by omega) (by omega) (fun self i hi w' h => ?_) (fun self w2 h2 f2 => ?_)
  · unfold f_X9_lay_26
    rw [if_neg (nge_l 48 hi (by omega)), show 48 + nI i = nI (48 + i) from nI_add 48 i, wp_aIn (by omega) (by omega), wp_sIn (by omega) (by omega), ad1]
    exact h
  unfold f_X9_lay_26
  rw [if_pos (ge_l 48 (by omega) (by omega))]
  refine wp_carry (N := 64) (off := 64) (q := 165) (by omega) (by omega) (fun self i hi w' h => ?_) (fun self w3 h3 f3 => ?_)
  · unfold f_X9_lay_55
    rw [if_neg (nge_l 64 hi (by omega)), show 64 + nI i = nI (64 + i) from nI_add 64 i, wp_aIn (by omega) (by omega), wp_sIn (by omega) (by omega), ad1]
    exact h
  unfold f_X9_lay_55
  rw [if_pos (ge_l 64 (by omega) (by omega))]
  refine wp_carry (N := 5) (off := 5) (q := 166) (by omega) (by omega) (fun self i hi w' h => ?_) (fun self w4 h4 f4 => ?_)
  · unfold f_X9_lay_84
    rw [if_neg (nge_l 5 hi (by omega)), show 5 + nI i = nI (5 + i) from nI_add 5 i, wp_aIn (by omega) (by omega), wp_sIn (by omega) (by omega), ad1]
    exact h
  unfold f_X9_lay_84
  rw [if_pos (ge_l 5 (by omega) (by omega))]
  refine wp_fix1 (fun m x w5 => ∃ v, v ≤ 6 ∧ m = 6 - v ∧ x = nI v ∧ (∀ v', v' < v → gi w5 167 v' = nI 0) ∧ Fr (fun q k => q = 167) w4 w5) (fun m x w5 self hI hs => ?_) FU 6 0 w4 (by have := FU_big; omega) ⟨0, by omega, by omega, rfl, fun v hv => by omega, Fr.rf⟩
  obtain ⟨v, v1, v2, rfl, v3, v4⟩ := hI
  unfold f_X9_lay_111
  by_cases hv : v < 6
  · rw [if_neg (nge_l 6 hv (by omega)), wp_sIn (by omega) (by omega), ad1]
    refine hs (6 - (v + 1)) _ _ (by omega) ⟨v + 1, by omega, rfl, rfl, fun v' hv' => ?_, v4.si rfl⟩
    by_cases e : v' = v
    · rw [e, gi_si_s]; rfl
    · rw [gi_si_n (by omega)]; exact v3 v' (by omega)
  · rw [if_pos (ge_l 6 (by omega) (by omega))]
    show wp (sI 169 3 (nI 0) 0 (wI 161 12 0 (wI 161 13 0 (wI 161 15 0 (aI 163 2 (nI 0) (fun v1 => rt v1)))))) w5 _
    rw [wp_sIn (by omega) (by omega), wp_wI, wp_wI, wp_wI, wp_aIn (by omega) (by omega), wp_rt, gi_si_n (by omega), gi_si_n (by omega), gi_si_n (by omega), gi_si_n (by omega)]
    have z4 : ∀ q k, q ≠ 167 → gi w5 q k = gi w4 q k := fun q k hq => v4.2.2 q k hq
    have z3 : ∀ q k, q ≠ 166 → gi w4 q k = gi w3 q k := fun q k hq => f4.2.2 q k (fun z => hq z.1)
    have z2 : ∀ q k, q ≠ 165 → gi w3 q k = gi w2 q k := fun q k hq => f3.2.2 q k (fun z => hq z.1)
    have z1 : ∀ q k, q ≠ 164 → gi w2 q k = gi w1 q k := fun q k hq => f2.2.2 q k (fun z => hq z.1)
    have y163 : gi w5 163 0 = nI s.1 := by rw [z4 _ _ (by omega), z3 _ _ (by omega), z2 _ _ (by omega), z1 _ _ (by omega)]; exact c1
    have y164 : ∀ k, k < 48 → gi w5 164 k = gi w 164 (48 + k) := fun k hk => by rw [z4 _ _ (by omega), z3 _ _ (by omega), z2 _ _ (by omega), h2 k hk, e1 _ _ (by omega)]
    have y165 : ∀ k, k < 64 → gi w5 165 k = gi w 165 (64 + k) := fun k hk => by rw [z4 _ _ (by omega), z3 _ _ (by omega), h3 k hk, z1 _ _ (by omega), e1 _ _ (by omega)]
    have y166 : ∀ k, k < 5 → gi w5 166 k = gi w 166 (5 + k) := fun k hk => by rw [z4 _ _ (by omega), h4 k hk, z2 _ _ (by omega), z1 _ _ (by omega), e1 _ _ (by omega)]
    have hc := hO.1
    refine ⟨y163, ⟨?_, fun i hi => ⟨?_, ?_, ?_⟩, fun k hk => ?_, fun k hk => ?_, fun v' hv' => ?_, ?_, ?_, ?_, ?_⟩, ?_⟩
    · rw [gi_si_n (by omega), gi_si_n (by omega), gi_si_n (by omega), gi_si_n (by omega)]; exact y163
    · rw [gi_si_n (by omega), gi_si_n (by omega), gi_si_n (by omega), gi_si_n (by omega), y164 _ (by omega)]; exact (g2 i hi).1
    · rw [gi_si_n (by omega), gi_si_n (by omega), gi_si_n (by omega), gi_si_n (by omega), y164 _ (by omega)]; exact (g2 i hi).2.1
    · rw [gi_si_n (by omega), gi_si_n (by omega), gi_si_n (by omega), gi_si_n (by omega), y164 _ (by omega)]; exact (g2 i hi).2.2
    · rw [gi_si_n (by omega), gi_si_n (by omega), gi_si_n (by omega), gi_si_n (by omega), y165 k hk]; exact g3 k hk
    · rw [gi_si_n (by omega), gi_si_n (by omega), gi_si_n (by omega), gi_si_n (by omega), y166 k hk]; exact g4 k hk
    · rw [gi_si_n (by omega), gi_si_n (by omega), gi_si_n (by omega), gi_si_n (by omega)]; exact v3 v' (by omega)
    · rw [gi_si_n (by omega), gi_si_n (by omega), gi_si_n (by omega), gi_si_s]; rfl
    · rw [gi_si_n (by omega), gi_si_n (by omega), gi_si_s]; rfl
    · rw [gi_si_n (by omega), gi_si_s]; rfl
    · rw [gi_si_s]; rfl
    · have F : Fr cL9 w w5 := (((f1.tr (f2.sub (fun q k hq => by unfold cL9; omega))).tr (f3.sub (fun q k hq => by unfold cL9; omega))).tr (f4.sub (fun q k hq => by unfold cL9; omega))).tr (v4.sub (fun q k hq => by unfold cL9; omega))
      exact (((F.si (by unfold cL9; omega)).si (by unfold cL9; omega)).si (by unfold cL9; omega)).si (by unfold cL9; omega)
theorem pr_lay (hw : Inv w) : Pair f_X8_lay f_X9_lay w := by
  obtain ⟨t, W, hR, hT, hTo, hJ, hV, hS, hK, hL, hH⟩ := id hw
  have ht := hR.1
  have ht' : t = 4 ∨ t = 12 := ht
  obtain ⟨n, B, hX⟩ := hT.txt
  unfold Pair f_X8_lay f_X9_lay
  rw [wp_draft hR, wp_bnd]
  refine wp_mono (wp_read8 (isT_draft ht) hX) (fun r w1 h => ?_)
  obtain ⟨f1, h⟩ := h
  have hX1 : Txt n B w1 := hX.to (fun q k hc => f1.2.2 q k (core_cI8 ht (Or.inl hc)))
  rcases h with ⟨p, hp, e, rfl⟩ | ⟨s, e, rfl, hD, hO⟩
  · have pn : ¬ nI p = -4 := ne_m4 (by have := hX.1; omega)
    rw [if_neg pn, wp_rt, wp_bnd]
    refine wp_mono (wp_read9 hX1) (fun r' w2 h' => ?_)
    obtain ⟨f2, h'⟩ := h'
    rcases h' with ⟨p', hp', e', rfl⟩ | ⟨s', e', -⟩
    · rw [e] at e'
      cases e'
      rw [if_neg pn, wp_rt]
      refine ⟨rfl, Same.inv hR hT hTo hJ hV hS hK hL hH ⟨fun q k hq => ?_, ?_, ?_, ?_⟩⟩
      · rw [f2.2.2 q k (core_cI9 ht hq), f1.2.2 q k (core_cI8 ht hq)]
      · rw [f2.1, f1.1]
      · rw [f2.1, f1.1]
      · rw [f2.1, f1.1]; exact hR.2.2.2.1
    · rw [e] at e'; cases e'
  · rw [if_pos rfl]
    obtain ⟨d, hd⟩ : ∃ d, d = 16 - t := ⟨_, rfl⟩
    rw [← hd] at hD f1
    have hdT : isT d := by rw [hd]; exact isT_draft ht
    have hd' : d = 4 ∨ d = 12 := hdT
    have hdt : d + t = 16 := by omega
    have r1 : IRef t w1 := hR.to f1.1 (f1.2.2 _ _ (by unfold cI8 cP8; omega))
    rw [wp_draft r1, wp_tongue r1, wp_wR, wp_wR, wp_rT, ← hd, gr_sr, if_pos ⟨rfl, rfl⟩, show d + 1 - 1 = d by omega]
    refine ⟨by omega, ?_⟩
    generalize hw2 : sr (sr w1 0 2 (t + 1)) 0 1 (d + 1) = w2
    have e2 : ∀ q k, gi w2 q k = gi w1 q k := fun q k => by rw [← hw2]; rfl
    have g21 : gr w2 0 1 = d + 1 := by rw [← hw2, gr_sr, if_pos ⟨rfl, rfl⟩]
    have g22 : gr w2 0 2 = t + 1 := by rw [← hw2, gr_sr, if_neg (by omega), gr_sr, if_pos ⟨rfl, rfl⟩]
    have g23 : gr w2 73 0 = gr w1 73 0 := by rw [← hw2, gr_sr, if_neg (by omega), gr_sr, if_neg (by omega)]
    rw [wp_bnd]
    refine wp_mono (wp_joinAll hdT (hD.to (fun q k _ => e2 q k)) hO) (fun _ w3 h3 => ?_)
    obtain ⟨f3, hJF⟩ := h3
    rw [wp_bnd]
    refine wp_mono wp_empty8 (fun _ w4 h4 => ?_)
    obtain ⟨m1, m2, f4⟩ := h4
    rw [wp_wI, wp_wI, wp_wI]
    generalize hw5 : si (si (si w4 149 0 0) 154 0 0) 0 6 0 = w5
    have e5 : ∀ q k, ¬ (q = 149 ∧ k = 0) → ¬ (q = 154 ∧ k = 0) → ¬ (q = 0 ∧ k = 6) → gi w5 q k = gi w4 q k := fun q k h1 h2 h3 => by rw [← hw5, gi_si_n (by omega), gi_si_n (by omega), gi_si_n (by omega)]
    have k149 : gi w5 149 0 = nI 0 := by rw [← hw5, gi_si_n (by omega), gi_si_n (by omega), gi_si_s]; rfl
    have k154 : gi w5 154 0 = nI 0 := by rw [← hw5, gi_si_n (by omega), gi_si_s]; rfl
    have k06 : gi w5 0 6 = nI 0 := by rw [← hw5, gi_si_s]; rfl
    have gr5 : gr w5 = gr w2 := by rw [← hw5]; show gr w4 = _; rw [f4.1, f3.1]
    have o4 : ∀ q k, ¬ (q = 28 ∨ (q = 20 ∧ k = 3)) → ¬ (q = d + 6 ∨ q = d + 7) → gi w4 q k = gi w1 q k := fun q k h1 h2 => by rw [f4.2.2 q k h1, f3.2.2 q k h2, e2]
    have o5 : ∀ q k, ¬ (q = 28 ∨ (q = 20 ∧ k = 3)) → ¬ (q = d + 6 ∨ q = d + 7) → ¬ (q = 149 ∧ k = 0) → ¬ (q = 154 ∧ k = 0) → ¬ (q = 0 ∧ k = 6) → gi w5 q k = gi w1 q k := fun q k h1 h2 h3 h4 h5 => by rw [e5 q k h3 h4 h5, o4 q k h1 h2]
    have D5 : D8 d s w5 := hD.to (fun q k hq => o5 q k (by omega) (by omega) (by omega) (by omega) (by omega))
    rw [wp_rT, gr5, g21, show d + 1 - 1 = d by omega]
    refine ⟨by omega, ?_⟩
    rw [wp_rI, D5.1, wp_rt, wp_bnd]
    have hX5 : Txt n B w5 := hX1.to (fun q k hc => o5 q k (by unfold cTxt at hc; omega) (by unfold cTxt at hc; omega) (by unfold cTxt at hc; omega) (by unfold cTxt at hc; omega) (by unfold cTxt at hc; omega))
    refine wp_mono (wp_read9 hX5) (fun r' w6 h' => ?_)
    obtain ⟨f6, h'⟩ := h'
    rcases h' with ⟨p', hp', e', -⟩ | ⟨s', e', rfl, hD9, hO9⟩
    · rw [e] at e'; cases e'
    · rw [e] at e'
      cases e'
      rw [if_pos rfl]
      refine wp_mono (wp_laid hD9 hO) (fun r w7 h7 => ?_)
      obtain ⟨rfl, l9, f7⟩ := h7
      refine ⟨rfl, ?_⟩
      obtain ⟨l1, l2, l3, l4, l5, l6, l7, l8, l10⟩ := l9
      obtain ⟨q1, q2, q3, q4⟩ := id hO
      -- what of the class is left as it was
      have z : ∀ q k, q < 161 ∨ q = 162 ∨ (q = 161 ∧ k = 0) → gi w7 q k = gi w5 q k := fun q k hq => by rw [f7.2.2 q k (by unfold cL9; omega), f6.2.2 q k (by unfold cI9 cP9; omega)]
      have gr7 : gr w7 = gr w2 := by rw [f7.1, f6.1, gr5]
      obtain ⟨D1, D2, D3, D4⟩ := D5
      have ew : ∀ i, i < s.1 → wf w7 i = s.2.1 (3 * i) ∧ wb w7 i = s.2.1 (3 * i + 1) ∧ wl w7 i = s.2.1 (3 * i + 2) := fun i hi => by
        obtain ⟨a1, a2, a3⟩ := l2 i hi
        obtain ⟨b1, b2, b3⟩ := q2 i hi
        unfold wf wb wl
        rw [a1, a2, a3, cl_nI (by omega), cl_nI (by omega), cl_nI (by omega)]
        exact ⟨rfl, rfl, rfl⟩
      have ej : ∀ a b, a < 8 → b < 8 → jn w7 a b = s.2.2.1 (8 * a + b) := fun a b ha hb => by
        unfold jn
        have := q3 (8 * a + b) (by omega)
        rw [l3 _ (by omega), cl_nI (by omega)]
      refine ⟨d, s.1, ⟨hdT, by rw [gr7]; exact g21, by rw [gr7, g22]; omega, ?_, ?_⟩, ?_, ⟨q1, ?_, l1, fun i hi => ?_, fun k hk => ?_, fun k hk => ?_⟩, ⟨fun i hi => ?_, fun i o hi ho => ?_⟩, IVs.mk (fun v hv => ⟨0, by omega, ?_, l5 v hv, fun p hp => absurd hp (Nat.not_lt_zero _)⟩), ⟨0, by omega, ?_, l6, fun h0 => absurd rfl h0⟩, ⟨0, by omega, ?_, l7, fun c h1 h2 => by omega⟩, ⟨0, by omega, ?_, l8, fun i hi => absurd hi (Nat.not_lt_zero _)⟩, ⟨0, by omega, ?_, l10, fun i hi => absurd hi (Nat.not_lt_zero _)⟩⟩
      · rw [gr7, g23, f1.1]; exact hR.2.2.2.1
      · rw [z _ _ (by omega), o5 _ _ (by omega) (by omega) (by omega) (by omega) (by omega)]; exact r1.2.2.2.2
      · obtain ⟨x1, x2, x3, x4, x5⟩ := hX5
        refine ⟨n, x1, ?_, ?_, fun k hk => ⟨B k, (x4 k hk).1, ?_, ?_⟩⟩
        · rw [z _ _ (by omega)]; exact x2
        · rw [z _ _ (by omega)]; exact x3
        · rw [z _ _ (by omega)]; exact (x4 k hk).2.1
        · rw [z _ _ (by omega)]; exact (x4 k hk).2.2
      · rw [z _ _ (by omega)]; exact D1
      · obtain ⟨a1, a2, a3⟩ := l2 i hi
        obtain ⟨b1, b2, b3⟩ := D2 i hi
        obtain ⟨c1, c2, c3⟩ := q2 i hi
        rw [a1, a2, a3, z (d + 1) i (by omega), z (d + 2) i (by omega), z (d + 3) i (by omega)]
        exact ⟨b1, b2, b3, ⟨_, c1, a1⟩, ⟨_, c2, a2⟩, ⟨_, c3, a3⟩⟩
      · rw [z _ _ (by omega), l3 k hk]
        exact ⟨D3 k hk, ⟨_, q3 k hk, l3 k hk⟩⟩
      · rw [z _ _ (by omega), l4 k hk]
        exact ⟨D4 k hk, ⟨_, q4 k hk, l4 k hk⟩⟩
      · obtain ⟨a1, a2, a3⟩ := ew i hi
        obtain ⟨⟨j1, j2⟩, -⟩ := hJF i hi
        rw [z _ _ (by omega), z _ _ (by omega), e5 _ _ (by omega) (by omega) (by omega), e5 _ _ (by omega) (by omega) (by omega), f4.2.2 _ _ (by omega), f4.2.2 _ _ (by omega), a1, a2, a3]
        exact ⟨j1, j2⟩
      · obtain ⟨a1, a2, a3⟩ := ew i hi
        obtain ⟨b1, b2, b3⟩ := ew o ho
        obtain ⟨c1, c2, c3⟩ := q2 i hi
        obtain ⟨d1, d2, d3⟩ := q2 o ho
        obtain ⟨j1, j2⟩ := (hJF i hi).2 o ho
        rw [z _ _ (by omega), z _ _ (by omega), e5 _ _ (by omega) (by omega) (by omega), e5 _ _ (by omega) (by omega) (by omega), f4.2.2 _ _ (by omega), f4.2.2 _ _ (by omega), a1, a2, a3, b1, b3, ej _ _ (by omega) (by omega), ej _ _ (by omega) (by omega)]
        exact ⟨j1, j2⟩
      · rw [z _ _ (by omega), e5 _ _ (by omega) (by omega) (by omega)]; exact m1 v hv
      · show gi w7 20 3 = nI 0
        rw [z _ _ (by omega), e5 _ _ (by omega) (by omega) (by omega)]; exact m2
      · rw [z _ _ (by omega)]; exact k06
      · rw [z _ _ (by omega)]; exact k149
      · rw [z _ _ (by omega)]; exact k154
end LAY
