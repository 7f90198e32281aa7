/-! THE TEXT: all of it; fault, lay -/
def s00 : St := (0, fun _ => 0, fun k => k, fun _ => 1)
def prs (n : Nat) (B : Nat → Nat) : Nat → Nat → St → Nat ⊕ St
  | 0, _, s => .inr s
  | f + 1, p, s => if n ≤ p then .inr s else match itm B p s with
    | none => .inl p
    | some (q, s') => prs n B f q s'
section TEXT
variable {w : Wd} {d n : Nat} {B : Nat → Nat}
theorem s00_ok : SOk s00 := ⟨by show 0 ≤ 16; omega, fun i hi => absurd hi (Nat.not_lt_zero _), fun k hk => hk, fun k hk => by show 1 < 100; omega⟩
theorem prs_end {f p : Nat} {s : St} (h : n ≤ p) : prs n B f p s = .inr s := by
  cases f with
  | zero => rfl
  | succ f => unfold prs; rw [if_pos h]
theorem prs_no {f p : Nat} {s : St} (h : p < n) (e : itm B p s = none) : prs n B (f + 1) p s = .inl p := by
  unfold prs; rw [if_neg (by omega), e]
theorem prs_yes {f p q : Nat} {s s' : St} (h : p < n) (e : itm B p s = some (q, s')) : prs n B (f + 1) p s = prs n B f q s' := by
  rw [prs, if_neg (by omega), e]
theorem wp_forget8 (hd : isT d) : wp (f_X6_forget d) w (fun _ w' => D8 d s00 w' ∧ Fr (cI8 d) w w') := by
  have hd' : d = 4 ∨ d = 12 := hd
  unfold f_X6_forget
  rw [wp_wI]
  refine wp_fix1 (fun m x w' => ∃ k, k ≤ 64 ∧ m = 64 - k ∧ x = nI k ∧ gi w' d 0 = nI 0 ∧ (∀ j, j < k → gi w' (d + 4) j = nI j) ∧ Fr (cI8 d) w w') (fun m x w' self hI hs => ?_) FU 64 0 _ (by have := FU_big; omega) ⟨0, by omega, by omega, rfl, gi_si_s _ _ _ _, fun j hj => by omega, Fr.rf.si (Or.inr ⟨by omega, by omega⟩)⟩
  obtain ⟨k, k1, k2, rfl, k3, k4, k5⟩ := hI
  unfold f_X6_forget_7
  by_cases hk : k < 64
  · rw [if_neg (nge_l 64 hk (by omega)), wp_sIn (by omega) (by omega), ad1]
    refine hs (64 - (k + 1)) _ _ (by omega) ⟨k + 1, by omega, rfl, rfl, ?_, fun j hj => ?_, k5.si (Or.inr ⟨by omega, by omega⟩)⟩
    · rw [gi_si_n (by omega)]; exact k3
    · by_cases e : j = k
      · rw [e, gi_si_s]
      · rw [gi_si_n (by omega)]; exact k4 j (by omega)
  · rw [if_pos (ge_l 64 (by omega) (by omega))]
    refine wp_fix1 (fun m x w'' => ∃ i, i ≤ 5 ∧ m = 5 - i ∧ x = nI i ∧ gi w'' d 0 = nI 0 ∧ (∀ j, j < 64 → gi w'' (d + 4) j = nI j) ∧ (∀ j, j < i → gi w'' (d + 5) j = nI 1) ∧ Fr (cI8 d) w w'') (fun m x w'' self hI hs => ?_) FU 5 0 w' (by have := FU_big; omega) ⟨0, by omega, by omega, rfl, k3, fun j hj => k4 j (by omega), fun j hj => by omega, k5⟩
    obtain ⟨i, i1, i2, rfl, i3, i4, i5, i6⟩ := hI
    unfold f_X6_forget_28
    by_cases hi : i < 5
    · rw [if_neg (nge_l 5 hi (by omega)), wp_sIn (by omega) (by omega), ad1]
      refine hs (5 - (i + 1)) _ _ (by omega) ⟨i + 1, by omega, rfl, rfl, ?_, fun j hj => ?_, fun j hj => ?_, i6.si (Or.inr ⟨by omega, by omega⟩)⟩
      · rw [gi_si_n (by omega)]; exact i3
      · rw [gi_si_n (by omega)]; exact i4 j hj
      · by_cases e : j = i
        · rw [e, gi_si_s]; rfl
        · rw [gi_si_n (by omega)]; exact i5 j (by omega)
    · rw [if_pos (ge_l 5 (by omega) (by omega)), wp_rt]
      exact ⟨⟨i3, fun i hi => absurd hi (Nat.not_lt_zero _), i4, fun k hk => i5 k (by omega)⟩, i6⟩
theorem wp_forget9 : wp (f_X9_noItems 1) w (fun _ w' => D9 s00 w' ∧ Fr cI9 w w') := by
  unfold f_X9_noItems
  show wp (sI 163 2 (nI 1) 0 _) w _
  rw [wp_sIn (by omega) (by omega)]
  refine wp_fix1 (fun m x w' => ∃ k, k ≤ 64 ∧ m = 64 - k ∧ x = nI k ∧ gi w' 163 1 = nI 0 ∧ (∀ j, j < k → gi w' 165 (64 + j) = nI j) ∧ Fr cI9 w w') (fun m x w' self hI hs => ?_) FU 64 0 _ (by have := FU_big; omega) ⟨0, by omega, by omega, rfl, gi_si_s _ _ _ _, fun j hj => by omega, Fr.rf.si (by unfold cI9; omega)⟩
  obtain ⟨k, k1, k2, rfl, k3, k4, k5⟩ := hI
  unfold f_X9_noItems_9
  by_cases hk : k < 64
  · rw [if_neg (nge_l 64 hk (by omega)), show 64 * (1 : Int32) + nI k = nI (64 + k) from nI_add 64 k, wp_sIn (by omega) (by omega), ad1]
    refine hs (64 - (k + 1)) _ _ (by omega) ⟨k + 1, by omega, rfl, rfl, ?_, fun j hj => ?_, k5.si (by unfold cI9; omega)⟩
    · rw [gi_si_n (by omega)]; exact k3
    · by_cases e : j = k
      · rw [e, gi_si_s]
      · rw [gi_si_n (by omega)]; exact k4 j (by omega)
  · rw [if_pos (ge_l 64 (by omega) (by omega))]
    refine wp_fix1 (fun m x w'' => ∃ i, i ≤ 5 ∧ m = 5 - i ∧ x = nI i ∧ gi w'' 163 1 = nI 0 ∧ (∀ j, j < 64 → gi w'' 165 (64 + j) = nI j) ∧ (∀ j, j < i → gi w'' 166 (5 + j) = nI 1) ∧ Fr cI9 w w'') (fun m x w'' self hI hs => ?_) FU 5 0 w' (by have := FU_big; omega) ⟨0, by omega, by omega, rfl, k3, fun j hj => k4 j (by omega), fun j hj => by omega, k5⟩
    obtain ⟨i, i1, i2, rfl, i3, i4, i5, i6⟩ := hI
    unfold f_X9_noItems_35
    by_cases hi : i < 5
    · rw [if_neg (nge_l 5 hi (by omega)), show 5 * (1 : Int32) + nI i = nI (5 + i) from nI_add 5 i, wp_sIn (by omega) (by omega), ad1]
      refine hs (5 - (i + 1)) _ _ (by omega) ⟨i + 1, by omega, rfl, rfl, ?_, fun j hj => ?_, fun j hj => ?_, i6.si (by unfold cI9; omega)⟩
      · rw [gi_si_n (by omega)]; exact i3
      · rw [gi_si_n (by omega)]; exact i4 j hj
      · by_cases e : j = i
        · rw [e, gi_si_s]; rfl
        · rw [gi_si_n (by omega)]; exact i5 j (by omega)
    · rw [if_pos (ge_l 5 (by omega) (by omega)), wp_rt]
      exact ⟨⟨i3, fun i hi => absurd hi (Nat.not_lt_zero _), i4, fun k hk => i5 k (by omega)⟩, i6⟩
theorem wp_read8 (hd : isT d) (hT : Txt n B w) : wp (f_X4_readInto d) w (fun r w' => Fr (cI8 d) w w' ∧ ((∃ p, p < n ∧ prs n B 400 0 s00 = .inl p ∧ r = nI p) ∨ (∃ s, prs n B 400 0 s00 = .inr s ∧ r = -4 ∧ D8 d s w' ∧ SOk s))) := by
  have hd' : d = 4 ∨ d = 12 := hd
  have hn := hT.1
  unfold f_X4_readInto
  rw [wp_bnd]
  refine wp_mono (wp_forget8 hd) (fun _ w1 h => ?_)
  obtain ⟨hD1, f1⟩ := h
  rw [wp_wI]
  refine wp_fix1 (fun m x w' => ∃ p s f k, m = 301 - k ∧ k ≤ 300 ∧ k ≤ p ∧ p ≤ n ∧ n < p + f ∧ x = nI k ∧ prs n B 400 0 s00 = prs n B f p s ∧ gi w' 1 2 = nI p ∧ D8 d s w' ∧ SOk s ∧ Fr (cI8 d) w w') (fun m x w' self hI hs => ?_) FU 301 0 _ (by have := FU_big; omega) ⟨0, s00, 400, 0, by omega, by omega, by omega, by omega, by omega, rfl, rfl, gi_si_s _ _ _ _, hD1.to (fun q k hq => by rw [gi_si_n (by omega)]), s00_ok, f1.si (Or.inl (Or.inl ⟨rfl, rfl⟩))⟩
  obtain ⟨p, s, f, k, k1, k2, k3, k4, k5, rfl, k6, k7, k8, k9, k10⟩ := hI
  have hT' : Txt n B w' := hT.to (fun q k hc => k10.2.2 q k (by unfold cTxt at hc; unfold cI8 cP8; omega))
  unfold f_X4_readInto_11 f_X4_readInto_50
  have done : n ≤ p → wp (rt (-4)) w' (fun r w' => Fr (cI8 d) w w' ∧ ((∃ p, p < n ∧ prs n B 400 0 s00 = .inl p ∧ r = nI p) ∨ (∃ s, prs n B 400 0 s00 = .inr s ∧ r = -4 ∧ D8 d s w' ∧ SOk s))) := fun h => wp_rt.mpr ⟨k10, Or.inr ⟨s, by rw [k6, prs_end h], rfl, k8, k9⟩⟩
  by_cases h3 : 300 ≤ k
  · rw [if_pos (ge_l 300 h3 (by omega))]
    exact done (by omega)
  · rw [if_neg (nge_l 300 (by omega) (by omega)), wp_rI, k7, wp_rI, hT'.2.1]
    by_cases hpn : n ≤ p
    · rw [if_pos (nI_le hpn (by omega))]
      exact done hpn
    · obtain ⟨f', rfl⟩ : ∃ f', f = f' + 1 := ⟨f - 1, by omega⟩
      rw [if_neg (nI_ge (by omega) (by omega)), wp_rI, k7, wp_bnd]
      refine wp_mono (wp_item8 hd hT' k7 (by omega) k8 k9) (fun r w2 h => ?_)
      obtain ⟨f2, h⟩ := h
      rcases h with ⟨rfl, h⟩ | ⟨rfl, q, s', h, h1, h2, h3, h4, h5⟩
      · rw [if_pos rfl, wp_rt]
        exact ⟨k10.tr f2, Or.inl ⟨p, by omega, by rw [k6, prs_no (by omega) h], rfl⟩⟩
      · rw [if_neg (by decide), ad1]
        exact hs (301 - (k + 1)) _ _ (by omega) ⟨q, s', f', k + 1, rfl, by omega, by omega, h2, by omega, rfl, by rw [k6, prs_yes (by omega) h], h3, h4, h5, k10.tr f2⟩
theorem wp_read9 (hT : Txt n B w) : wp f_X9_readAll w (fun r w' => Fr cI9 w w' ∧ ((∃ p, p < n ∧ prs n B 400 0 s00 = .inl p ∧ r = nI p) ∨ (∃ s, prs n B 400 0 s00 = .inr s ∧ r = -4 ∧ D9 s w' ∧ SOk s))) := by
  have hn := hT.1
  unfold f_X9_readAll
  rw [wp_bnd]
  refine wp_mono wp_forget9 (fun _ w1 h => ?_)
  obtain ⟨hD1, f1⟩ := h
  rw [wp_wI]
  refine wp_fix0 (fun m w' => ∃ p s f, m = n - p ∧ p ≤ n ∧ n < p + f ∧ prs n B 400 0 s00 = prs n B f p s ∧ gi w' 161 17 = nI p ∧ D9 s w' ∧ SOk s ∧ Fr cI9 w w') (fun m w' self hI hs => ?_) FU n _ (by have := FU_big; omega) ⟨0, s00, 400, by omega, by omega, by omega, rfl, gi_si_s _ _ _ _, hD1.to (fun q k hq => by rw [gi_si_n (by omega)]), s00_ok, f1.si (Or.inl (Or.inl ⟨rfl, rfl⟩))⟩
  obtain ⟨p, s, f, k1, k4, k5, k6, k7, k8, k9, k10⟩ := hI
  have hT' : Txt n B w' := hT.to (fun q k hc => k10.2.2 q k (by unfold cTxt at hc; unfold cI9 cP9; omega))
  unfold f_X9_readAll_10
  rw [wp_rI, k7, wp_rI, hT'.2.2.1]
  by_cases hpn : n ≤ p
  · rw [if_pos (nI_le hpn (by omega)), wp_rt]
    exact ⟨k10, Or.inr ⟨s, by rw [k6, prs_end hpn], rfl, k8, k9⟩⟩
  · obtain ⟨f', rfl⟩ : ∃ f', f = f' + 1 := ⟨f - 1, by omega⟩
    rw [if_neg (nI_ge (by omega) (by omega)), wp_rI, k7, wp_bnd]
    refine wp_mono (wp_item9 hT' k7 (by omega) k8 k9) (fun r w2 h => ?_)
    obtain ⟨f2, h⟩ := h
    rcases h with ⟨rfl, h⟩ | ⟨rfl, q, s', h, h1, h2, h3, h4, h5⟩
    · rw [if_pos rfl, wp_rt]
      exact ⟨k10.tr f2, Or.inl ⟨p, by omega, by rw [k6, prs_no (by omega) h], rfl⟩⟩
    · rw [if_neg (by decide)]
      exact hs (n - q) _ (by omega) ⟨q, s', f', rfl, h2, by omega, by rw [k6, prs_yes (by omega) h], h3, h4, h5, k10.tr f2⟩
theorem wp_draft {R : Type} {Q : R → Wd → Prop} {t : Nat} {K : Nat → M R} (hR : IRef t w) : wp (rT 0 2 K) w Q ↔ wp (K (16 - t)) w Q := by
  have ht : t = 4 ∨ t = 12 := hR.1
  rw [wp_rT, hR.2.2.1, show 17 - t - 1 = 16 - t by omega]
  constructor
  · exact fun h => h.2
  · exact fun h => ⟨by omega, h⟩
theorem core_cI8 {t : Nat} (ht : isT t) {q k : Nat} (h : core t q k) : ¬ cI8 (16 - t) q k := by
  have ht' : t = 4 ∨ t = 12 := ht
  unfold core cTxt cTon cBk cSl cHd at h
  unfold cI8 cP8
  omega
theorem core_cI9 {t : Nat} (ht : isT t) {q k : Nat} (h : core t q k) : ¬ cI9 q k := by
  have ht' : t = 4 ∨ t = 12 := ht
  unfold core cTxt cTon cBk cSl cHd at h
  unfold cI9 cP9
  omega
theorem isT_draft {t : Nat} (ht : isT t) : isT (16 - t) := by
  have ht' : t = 4 ∨ t = 12 := ht
  rcases ht' with rfl | rfl
  · exact Or.inr rfl
  · exact Or.inl rfl
theorem pr_fault (hw : Inv w) : Pair f_X8_fault f_X9_fault w := by
  obtain ⟨t, W, hR, hT, hTo, hJ, hV, hS, hK, hL, hH⟩ := id hw
  have ht := hR.1
  obtain ⟨n, B, hX⟩ := hT.txt
  unfold Pair f_X8_fault f_X9_fault
  rw [wp_draft hR, wp_bnd]
  refine wp_mono (wp_read8 (isT_draft ht) hX) (fun r w1 h => ?_)
  obtain ⟨f1, h⟩ := h
  have hX1 : Txt n B w1 := hX.to (fun q k hc => f1.2.2 q k (core_cI8 ht (Or.inl hc)))
  rw [wp_rt, wp_bnd]
  refine wp_mono (wp_read9 hX1) (fun r' w2 h' => ?_)
  obtain ⟨f2, h'⟩ := h'
  rw [wp_rt]
  refine ⟨?_, Same.inv hR hT hTo hJ hV hS hK hL hH ⟨fun q k hq => ?_, ?_, ?_, ?_⟩⟩
  · rcases h with ⟨p, -, e, rfl⟩ | ⟨s, e, rfl, -⟩ <;> rcases h' with ⟨p', -, e', rfl⟩ | ⟨s', e', rfl, -⟩
    · rw [e] at e'; cases e'; rfl
    · rw [e] at e'; cases e'
    · rw [e] at e'; cases e'
    · rfl
  · rw [f2.2.2 q k (core_cI9 ht hq), f1.2.2 q k (core_cI8 ht hq)]
  · rw [f2.1, f1.1]
  · rw [f2.1, f1.1]
  · rw [f2.1, f1.1]; exact hR.2.2.2.1
end TEXT
