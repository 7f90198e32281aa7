/-! slips: the fewest ways; the reference's count -/
section SLIPS2
variable {w : Wd} {t W : Nat}
def pc (S : Nat) : Nat := S % 2 + S / 2 % 2 + S / 4 % 2 + S / 8 % 2 + S / 16 % 2
theorem pc_le (S : Nat) : pc S ≤ 5 := by unfold pc; omega
def bcx (x0 : Int32) : Int32 :=
  let v1 := x0 - ((((x0).toUInt32 >>> ((1 : Int32).toUInt32 &&& Int32.toUInt32 31)).toInt32) &&& 1431655765)
  let v2 := (v1 &&& 858993459) + ((((v1).toUInt32 >>> ((2 : Int32).toUInt32 &&& Int32.toUInt32 31)).toInt32) &&& 858993459)
  let v3 := (v2 + (((v2).toUInt32 >>> ((4 : Int32).toUInt32 &&& Int32.toUInt32 31)).toInt32)) &&& 252645135
  let v4 := v3 + (((v3).toUInt32 >>> ((8 : Int32).toUInt32 &&& Int32.toUInt32 31)).toInt32)
  let v5 := v4 + (((v4).toUInt32 >>> ((16 : Int32).toUInt32 &&& Int32.toUInt32 31)).toInt32)
  v5 &&& 63
theorem bcx_eq : ∀ S, S < 32 → bcx (nI S) = nI (pc S) := by decide +kernel
theorem rd_bc8 {S : Nat} (h : S < 32) : Rd (f_J6_bitCount_0f7a4 (nI S)) w (nI (pc S)) := by
  rw [← bcx_eq S h]
  unfold Rd f_J6_bitCount_0f7a4
  rw [wp_nm, wp_nm, wp_nm, wp_nm, wp_nm, wp_rt]
  exact ⟨rfl, rfl⟩
theorem dropb : ∀ S, S < 32 → 0 < S → ∃ S', S' < S ∧ nI S &&& (nI S - 1) = nI S' ∧ pc S' + 1 = pc S := by decide +kernel
theorem rd_bc9 {S : Nat} (h : S < 32) : Rd (f_X9_bits (nI S)) w (nI (pc S)) := by
  unfold f_X9_bits
  refine wp_fix2 (fun n u v w' => ∃ k, n < 32 ∧ v = nI n ∧ u = nI k ∧ k + pc n = pc S ∧ w' = w) (fun n u v w' self hI hs => ?_) FU S _ _ w (by have := FU_big; omega) ⟨0, h, rfl, rfl, by omega, rfl⟩
  obtain ⟨k, h1, rfl, rfl, h2, rfl⟩ := hI
  unfold f_X9_bits_4
  by_cases n0 : n = 0
  · subst n0
    rw [if_pos (eq_l 0 rfl), wp_rt]
    exact ⟨by rw [← h2]; rfl, rfl⟩
  · obtain ⟨S', d1, d2, d3⟩ := dropb n h1 (by omega)
    rw [if_neg (ne_l 0 n0 (by omega) (by omega)), wp_nm, d2, ad1]
    exact hs S' _ _ _ d1 ⟨k + 1, by omega, rfl, rfl, by omega, rfl⟩
/-- the ways S show all that any way shows -/
def Gs (w : Wd) (S : Nat) : Prop := ∀ i, i < ln w → Sh w i ≠ 0 → Sh w i &&& nI S ≠ 0
theorem sh_lt (w : Wd) (i : Nat) : ∃ s, s < 32 ∧ Sh w i = nI s := by
  unfold Sh
  split
  · exact shw_lt _ _ _ _
  · exact ⟨0, by omega, rfl⟩
theorem and31 : ∀ s, s < 32 → s ≠ 0 → nI s &&& nI 31 ≠ 0 := by decide +kernel
theorem Gs31 (w : Wd) : Gs w 31 := by
  intro i hi h0
  obtain ⟨s, s1, s2⟩ := sh_lt w i
  rw [s2] at h0 ⊢
  exact and31 s s1 (fun e => h0 (by rw [e]; rfl))
/-- fewest, and of those the first -/
def Lex (w : Wd) (lo hi B : Nat) : Prop := B < 32 ∧ Gs w B ∧ ∀ S, lo ≤ S → S < hi → Gs w S → pc B < pc S ∨ (pc B = pc S ∧ B ≤ S)
theorem Lex.uniq {B B' : Nat} (h : Lex w 0 32 B) (h' : Lex w 0 32 B') : B = B' := by
  have h1 := h.2.2 B' (by omega) h'.1 h'.2.1
  have h2 := h'.2.2 B (by omega) h.1 h.2.1
  omega
theorem wp_allShown {n S : Nat} (hn : n ≤ 20) (n2 : gi w 149 0 = nI n) {f : Nat → Int32} (hf : ∀ i, i < n → gi w 153 i = f i) : wp (f_X5_allShownBy (nI S)) w (fun r w' => w' = w ∧ ((r = 1 ∧ ∀ i, i < n → f i ≠ 0 → f i &&& nI S ≠ 0) ∨ (r = 0 ∧ ¬ ∀ i, i < n → f i ≠ 0 → f i &&& nI S ≠ 0))) := by
  unfold f_X5_allShownBy
  refine wp_fix1 (fun m v w' => ∃ i, i ≤ n ∧ m = n - i ∧ v = nI i ∧ (∀ j, j < i → f j ≠ 0 → f j &&& nI S ≠ 0) ∧ w' = w) (fun m v w' self hI hs => ?_) FU n 0 w (by have := FU_big; omega) ⟨0, by omega, by omega, rfl, fun j hj => by omega, rfl⟩
  obtain ⟨i, i1, i2, rfl, i3, rfl⟩ := hI
  unfold f_X5_allShownBy_2 f_X5_allShownBy_32
  rw [wp_rI, n2]
  by_cases hi : n ≤ i
  · rw [if_pos (nI_le hi (by omega)), wp_gd, wp_rt]
    exact ⟨by decide, rfl, Or.inl ⟨rfl, fun j hj => i3 j (by omega)⟩⟩
  · rw [if_neg (nI_ge (by omega) (by omega)), wp_aIn (by omega) (by omega), hf i (by omega)]
    have go : (f i ≠ 0 → f i &&& nI S ≠ 0) → wp (self (nI i + 1)) w' (fun r w'' => w'' = w' ∧ ((r = 1 ∧ ∀ i, i < n → f i ≠ 0 → f i &&& nI S ≠ 0) ∨ (r = 0 ∧ ¬ ∀ i, i < n → f i ≠ 0 → f i &&& nI S ≠ 0))) := fun hg => by
      rw [ad1]
      refine hs (n - (i + 1)) _ _ (by omega) ⟨i + 1, by omega, rfl, rfl, fun j hj => ?_, rfl⟩
      by_cases e : j = i
      · rw [e]; exact hg
      · exact i3 j (by omega)
    by_cases f0 : f i = 0
    · rw [if_pos f0]
      exact go (fun h => absurd f0 h)
    · rw [if_neg f0, wp_aIn (by omega) (by omega), hf i (by omega)]
      by_cases a0 : f i &&& nI S = 0
      · rw [if_pos a0, wp_gd, wp_rt]
        exact ⟨by decide, rfl, Or.inr ⟨rfl, fun h => h i (by omega) f0 a0⟩⟩
      · rw [if_neg a0]
        exact go (fun _ => a0)
theorem wp_fewest8 (hB : Base t W w) : wp f_X8_fewestWays w (fun r w' => (∃ B, Lex w 0 32 B ∧ r = nI B) ∧ Fr cS w w') := by
  obtain ⟨n1, n2, n3, n4⟩ := hB.s.g hB.o.1
  have ht := hB.r.1
  unfold f_X8_fewestWays
  refine wp_fix1 (fun n v w' => ∃ i, i ≤ ln w ∧ n = ln w - i ∧ v = nI i ∧ (∀ j, j < i → gi w' 153 j = Sh w j) ∧ Fr cS w w') (fun n v w' self hI hs => ?_) FU (ln w) 0 w (by have := FU_big; omega) ⟨0, by omega, by omega, rfl, fun j hj => by omega, Fr.rf⟩
  obtain ⟨i, i1, i2, rfl, i3, i4⟩ := hI
  have hB' := hB.to i4 (fun q k hq => core_cS ht hq)
  have sw := sw_cS i4
  have n2' : gi w' 149 0 = nI (ln w) := by rw [(hB'.s.g hB'.o.1).2.1, sw.eqs.1]
  unfold f_X8_fewestWays_2 f_X8_fewestWays_38
  rw [wp_rI, n2']
  by_cases hi : ln w ≤ i
  · rw [if_pos (nI_le hi (by omega))]
    refine wp_fix2 (fun n u v w'' => ∃ B, n ≤ 32 ∧ v = nI n - 1 ∧ u = nI B ∧ Lex w n 32 B ∧ w'' = w') (fun n u v w'' self hI hs => ?_) FU 32 _ _ w' (by have := FU_big; omega) ⟨31, by omega, (sb1 31).symm, rfl, ⟨by omega, Gs31 w, fun S h1 h2 => by omega⟩, rfl⟩
    obtain ⟨B, b1, rfl, rfl, b2, rfl⟩ := hI
    unfold f_X8_fewestWays_51 f_X8_fewestWays_79
    cases n with
    | zero =>
      rw [if_pos m1_lt, wp_rt]
      exact ⟨⟨B, b2, rfl⟩, i4⟩
    | succ n =>
      rw [sb1, if_neg (nI_pos (by omega)), wp_bnd]
      refine wp_mono (wp_allShown (S := n) n1 n2' (f := Sh w) (fun j hj => i3 j (by omega))) (fun r w3 h => ?_)
      obtain ⟨rfl, h⟩ := h
      rw [m1_add]
      rcases h with ⟨rfl, h⟩ | ⟨rfl, h⟩
      · rw [if_neg (by decide), wp_bnd, (rd_bc8 (by omega)).wp, wp_bnd, (rd_bc8 b2.1).wp]
        have p1 := pc_le n
        have p2 := pc_le B
        by_cases hlt : pc B < pc n
        · rw [if_pos (nI_lt hlt (by omega))]
          refine hs n _ _ _ (by omega) ⟨B, by omega, rfl, rfl, ⟨b2.1, b2.2.1, fun S h1 h2 hg => ?_⟩, rfl⟩
          by_cases e : S = n
          · rw [e]; exact Or.inl hlt
          · exact b2.2.2 S (by omega) h2 hg
        · rw [if_neg (nI_nlt (by omega) (by omega))]
          refine hs n _ _ _ (by omega) ⟨n, by omega, rfl, rfl, ⟨by omega, h, fun S h1 h2 hg => ?_⟩, rfl⟩
          by_cases e : S = n
          · rw [e]; exact Or.inr ⟨rfl, Nat.le_refl _⟩
          · have := b2.2.2 S (by omega) h2 hg
            omega
      · rw [if_pos rfl]
        refine hs n _ _ _ (by omega) ⟨B, by omega, rfl, rfl, ⟨b2.1, b2.2.1, fun S h1 h2 hg => ?_⟩, rfl⟩
        by_cases e : S = n
        · rw [e] at hg; exact absurd hg h
        · exact b2.2.2 S (by omega) h2 hg
  · have hv := (n4 i (by omega)).1
    obtain ⟨q1, q2, q3⟩ := sw.sl hv
    have go : ∀ (u : Int32) (w2 : Wd), Fr cC w' w2 → u = Sh w i → wp (sI 153 20 (nI i) u (self (nI i + 1))) w2 (fun r w' => (∃ B, Lex w 0 32 B ∧ r = nI B) ∧ Fr cS w w') := fun u w2 f hu => by
      rw [wp_sIn (by omega) (by omega), ad1]
      refine hs (ln w - (i + 1)) _ _ (by omega) ⟨i + 1, by omega, rfl, rfl, fun j hj => ?_, (i4.tr (f.sub (fun q k hq => Or.inl hq))).si (Or.inr rfl)⟩
      by_cases e : j = i
      · rw [e, gi_si_s, hu]
      · rw [gi_si_n (by omega), f.2.2 _ _ (by unfold cC c8; omega)]
        exact i3 j (by omega)
    rw [if_neg (nI_ge (by omega) (by omega)), wp_bnd, (rd_suchSlip hB' (by rw [sw.eqs.1]; omega)).wp]
    by_cases hS : Su w' i
    · rw [if_pos hS, if_neg (by decide), wp_bnd]
      refine wp_mono (wp_showSlip hB' (by rw [sw.eqs.1]; omega) hS) (fun r w2 h => ?_)
      obtain ⟨rfl, f2⟩ := h
      exact go _ w2 f2 q2
    · rw [if_neg hS, if_pos rfl]
      exact go 0 w' Fr.rf (if_neg (fun q => hS (q1.mpr q))).symm
theorem wp_fewest9 {n : Nat} (hnl : n = ln w) (hn : n ≤ 20) {w1 : Wd} (n3 : gi w1 161 13 = nI n) (hf : ∀ i, i < n → gi w1 186 i = Sh w i) : wp f_X9_fewestWays w1 (fun r w' => (∃ B, Lex w 0 32 B ∧ r = nI B) ∧ w' = w1) := by
  unfold f_X9_fewestWays
  refine wp_fix2 (fun m u v w' => ∃ k, k ≤ 32 ∧ m = 32 - k ∧ v = nI k ∧ ((u = -4 ∧ ∀ S, S < k → ¬ Gs w S) ∨ ∃ B, (Lex w 0 k B ∧ B < k) ∧ u = nI B) ∧ w' = w1) (fun m u v w' self hI hs => ?_) FU 32 _ 0 w1 (by have := FU_big; omega) ⟨0, by omega, by omega, rfl, Or.inl ⟨rfl, fun S hS => by omega⟩, rfl⟩
  obtain ⟨k, k1, k2, rfl, k3, rfl⟩ := hI
  unfold f_X9_fewestWays_5 f_X9_fewestWays_28
  by_cases hk : k < 32
  · rw [if_neg (nge_l 32 hk (by omega))]
    -- the check of one set
    have chk : ∀ x3 : Int32, ((x3 = 0 ∧ ∃ B, (Lex w 0 (k + 1) B ∧ B < k + 1) ∧ u = nI B) ∨ (x3 = 1 ∧ (Gs w k → Lex w 0 (k + 1) k) ∧ (¬ Gs w k → ((u = -4 ∧ ∀ S, S < k + 1 → ¬ Gs w S) ∨ ∃ B, (Lex w 0 (k + 1) B ∧ B < k + 1) ∧ u = nI B)))) → wp (f_X9_fewestWays_33 self u (nI k) x3) w' (fun r w'' => (∃ B, Lex w 0 32 B ∧ r = nI B) ∧ w'' = w') := by
      intro x3 h3
      unfold f_X9_fewestWays_33
      have keep : ((u = -4 ∧ ∀ S, S < k + 1 → ¬ Gs w S) ∨ ∃ B, (Lex w 0 (k + 1) B ∧ B < k + 1) ∧ u = nI B) → wp (self u (nI k + 1)) w' (fun r w'' => (∃ B, Lex w 0 32 B ∧ r = nI B) ∧ w'' = w') := fun h => by
        rw [ad1]
        exact hs (32 - (k + 1)) _ _ _ (by omega) ⟨k + 1, by omega, rfl, rfl, h, rfl⟩
      rcases h3 with ⟨rfl, h3⟩ | ⟨rfl, h4, h5⟩
      · refine wp_fix2 (fun m a b w'' => m = 0 ∧ a = 0 ∧ b = 0 ∧ w'' = w') (fun m a b w'' self2 hI hs2 => ?_) FU 0 _ _ w' (by have := FU_big; omega) ⟨rfl, rfl, rfl, rfl⟩
        obtain ⟨rfl, rfl, rfl, rfl⟩ := hI
        unfold f_X9_fewestWays_37 f_X9_fewestWays_84 f_X9_fewestWays_93
        rw [wp_rI, n3]
        refine wp_if (fun _ => ?_) (fun _ => ?_)
        · rw [if_pos rfl]; exact keep (Or.inr h3)
        · rw [if_pos rfl, if_pos rfl]; exact keep (Or.inr h3)
      · refine wp_fix2 (fun m a b w'' => ∃ i, i ≤ n ∧ m = n - i ∧ b = nI i ∧ ((a = 1 ∧ ∀ j, j < i → Sh w j ≠ 0 → Sh w j &&& nI k ≠ 0) ∨ (a = 0 ∧ ¬ Gs w k)) ∧ w'' = w') (fun m a b w'' self2 hI hs2 => ?_) FU n _ 0 w' (by have := FU_big; omega) ⟨0, by omega, by omega, rfl, Or.inl ⟨rfl, fun j hj => by omega⟩, rfl⟩
        obtain ⟨i, i1, i2, rfl, i3, rfl⟩ := hI
        unfold f_X9_fewestWays_37 f_X9_fewestWays_84 f_X9_fewestWays_93 f_X9_fewestWays_72 f_X9_fewestWays_77
        rw [wp_rI, n3]
        rcases i3 with ⟨rfl, q⟩ | ⟨rfl, q⟩
        · by_cases hi : n ≤ i
          · have hg : Gs w k := fun j hj => q j (by omega)
            rw [if_pos (nI_le hi (by omega)), if_neg (by decide), ad1]
            exact hs (32 - (k + 1)) _ _ _ (by omega) ⟨k + 1, by omega, rfl, rfl, Or.inr ⟨k, ⟨h4 hg, by omega⟩, rfl⟩, rfl⟩
          · rw [if_neg (nI_ge (by omega) (by omega)), if_neg (by decide), wp_aIn (by omega) (by omega), hf i (by omega)]
            have go : (Sh w i ≠ 0 → Sh w i &&& nI k ≠ 0) → wp (self2 1 (nI i + 1)) w'' (fun r w3 => (∃ B, Lex w 0 32 B ∧ r = nI B) ∧ w3 = w'') := fun hg => by
              rw [ad1]
              refine hs2 (n - (i + 1)) _ _ _ (by omega) ⟨i + 1, by omega, rfl, rfl, Or.inl ⟨rfl, fun j hj => ?_⟩, rfl⟩
              by_cases e : j = i
              · rw [e]; exact hg
              · exact q j (by omega)
            by_cases f0 : Sh w i = 0
            · rw [if_pos f0]
              exact go (fun h => absurd f0 h)
            · rw [if_neg f0, wp_aIn (by omega) (by omega), hf i (by omega)]
              by_cases a0 : Sh w i &&& nI k = 0
              · rw [if_pos a0, ad1]
                exact hs2 (n - (i + 1)) _ _ _ (by omega) ⟨i + 1, by omega, rfl, rfl, Or.inr ⟨rfl, fun hg => hg i (by omega) f0 a0⟩, rfl⟩
              · rw [if_neg a0]
                exact go (fun _ => a0)
        · refine wp_if (fun _ => ?_) (fun _ => ?_)
          · rw [if_pos rfl]; exact keep (h5 q)
          · rw [if_pos rfl, if_pos rfl]; exact keep (h5 q)
    rcases k3 with ⟨rfl, q⟩ | ⟨B, ⟨q, qk⟩, rfl⟩
    · rw [if_pos rfl]
      refine chk 1 (Or.inr ⟨rfl, fun hg => ⟨hk, hg, fun S h1 h2 hgS => ?_⟩, fun hg => Or.inl ⟨rfl, fun S hS => ?_⟩⟩)
      · by_cases e : S = k
        · rw [e]; exact Or.inr ⟨rfl, Nat.le_refl _⟩
        · exact absurd hgS (q S (by omega))
      · by_cases e : S = k
        · rw [e]; exact hg
        · exact q S (by omega)
    · have p1 := pc_le k
      have p2 := pc_le B
      have hB32 := q.1
      rw [if_neg (ne_m4 (by omega)), wp_bnd, (rd_bc9 hk).wp, wp_bnd, (rd_bc9 q.1).wp]
      have ext : (Gs w k → pc B < pc k ∨ (pc B = pc k ∧ B ≤ k)) → Lex w 0 (k + 1) B := fun h => ⟨q.1, q.2.1, fun S h1 h2 hg => by
        by_cases e : S = k
        · rw [e] at hg ⊢; exact h hg
        · exact q.2.2 S h1 (by omega) hg⟩
      by_cases hle : pc B ≤ pc k
      · rw [if_pos (nI_le hle (by omega))]
        exact chk 0 (Or.inl ⟨rfl, B, ⟨ext (fun _ => by omega), by omega⟩, rfl⟩)
      · rw [if_neg (nI_ge (by omega) (by omega))]
        refine chk 1 (Or.inr ⟨rfl, fun hg => ⟨hk, hg, fun S h1 h2 hgS => ?_⟩, fun hg => Or.inr ⟨B, ⟨ext (fun h => absurd h hg), by omega⟩, rfl⟩⟩)
        by_cases e : S = k
        · rw [e]; exact Or.inr ⟨rfl, Nat.le_refl _⟩
        · have := q.2.2 S h1 (by omega) hgS
          omega
  · rw [if_pos (ge_l 32 (by omega) (by omega)), wp_rt]
    refine ⟨?_, rfl⟩
    have e : k = 32 := by omega
    subst e
    rcases k3 with ⟨-, q⟩ | ⟨B, ⟨q, -⟩, rfl⟩
    · exact absurd (Gs31 w) (q 31 (by omega))
    · exact ⟨B, q, rfl⟩
/-- the reference goes through all slips once -/
theorem wp_slips9 {x1 : Int32} (hB : Base t W w) (hx : x1 = 0 ∨ x1 = 1 ∨ x1 = 2 ∨ x1 = 3) : wp (fix4 FU (f_X9_slips_24 x1) 0 0 0 0) w (fun r w' => (if x1 = 0 then r = nI (sm (hiN w) (ln w)) else if x1 = 1 then ∃ B, Lex w 0 32 B ∧ r = nI B else if x1 = 2 then r = nI (sm (liN w) (ln w)) else r = nI (sm (suN w) (ln w))) ∧ Fr cT w w') := by
  obtain ⟨n1, n2, n3, n4⟩ := hB.s.g hB.o.1
  have ht := hB.r.1
  have hW := hB.o.1
  refine wp_fix4 (fun n a b c d w' => ∃ i, i ≤ ln w ∧ n = ln w - i ∧ d = nI i ∧ a = nI (sm (hiN w) i) ∧ b = nI (sm (liN w) i) ∧ c = nI (sm (suN w) i) ∧ (∀ j, j < i → gi w' 186 j = Sh w j) ∧ Fr cT w w') (fun n a b c d w' self hI hs => ?_) FU (ln w) _ _ _ 0 w (by have := FU_big; omega) ⟨0, by omega, by omega, rfl, rfl, rfl, rfl, fun j hj => by omega, Fr.rf⟩
  obtain ⟨i, i1, i2, rfl, rfl, rfl, rfl, i3, i4⟩ := hI
  have hB' := hB.to i4 (fun q k hq => core_cT ht hq)
  have sw := sw_cT i4
  have n3' : gi w' 161 13 = nI (ln w) := by rw [i4.2.2 _ _ (by unfold cT c9; omega)]; exact n3
  unfold f_X9_slips_24
  rw [wp_rI, n3']
  by_cases hi : ln w ≤ i
  · have e : i = ln w := by omega
    subst e
    unfold f_X9_slips_231
    rw [if_pos (nI_le hi (by omega))]
    rcases hx with rfl | rfl | rfl | rfl
    · rw [if_pos rfl, wp_rt, if_pos rfl]
      exact ⟨rfl, i4⟩
    · rw [if_neg (by decide), if_pos rfl, wp_bnd]
      refine wp_mono (wp_fewest9 rfl n1 n3' i3) (fun r w2 h => ?_)
      obtain ⟨h1, rfl⟩ := h
      rw [wp_rt, if_neg (by decide), if_pos rfl]
      exact ⟨h1, i4⟩
    · rw [if_neg (by decide), if_neg (by decide), if_pos rfl, wp_rt, if_neg (by decide), if_neg (by decide), if_pos rfl]
      exact ⟨rfl, i4⟩
    · rw [if_neg (by decide), if_neg (by decide), if_neg (by decide), wp_rt, if_neg (by decide), if_neg (by decide), if_neg (by decide)]
      exact ⟨rfl, i4⟩
  · obtain ⟨h1, h2, h3, h4, h5, h6, h7, h8, h9⟩ := n4 i (by omega)
    have h5' : gi w' 173 (3 * i) = nI (lv w i) := by rw [i4.2.2 _ _ (by unfold cT c9; omega)]; exact h5
    have h7' : gi w' 173 (3 * i + 1) = nI (lp w i) := by rw [i4.2.2 _ _ (by unfold cT c9; omega)]; exact h7
    have h9' : gi w' 173 (3 * i + 2) = nI (lx w i) := by rw [i4.2.2 _ _ (by unfold cT c9; omega)]; exact h9
    obtain ⟨e0, e1, e2, e3, e4, e5⟩ := sw.eqs
    obtain ⟨e6, e7⟩ := sw.ver h1
    have hSu : Su w i ↔ isS w' (lv w i) (lp w i) (lx w i) := by unfold Su isS; rw [e6, e7]
    rw [if_neg (nI_ge (by omega) (by omega)), mu3, wp_aIn (by omega) (by omega), h5', ad1, wp_aIn (by omega) (by omega), h7', ad2, wp_aIn (by omega) (by omega), h9', wp_bnd, (rd_such9 hB'.v hW h1 h2 h3).wp]
    -- the counting behind it
    have cnt : ∀ (x9 v : Int32) (w2 : Wd), Fr cT w w2 → (∀ j, j < i → gi w2 186 j = Sh w j) → ((x9 = 1 ∧ Su w i) ∨ (x9 = 0 ∧ ¬ Su w i)) → v = Sh w i → wp (f_X9_slips_107 self x1 (nI (sm (hiN w) i)) (nI (sm (liN w) i)) (nI (sm (suN w) i)) (nI i) (nI (lv w i)) (nI (lp w i)) (nI (lx w i)) x9 v (nI i)) w2 (fun r w' => (if x1 = 0 then r = nI (sm (hiN w) (ln w)) else if x1 = 1 then ∃ B, Lex w 0 32 B ∧ r = nI B else if x1 = 2 then r = nI (sm (liN w) (ln w)) else r = nI (sm (suN w) (ln w))) ∧ Fr cT w w') := by
      intro x9 v w2 f2 g2 h9 hv
      unfold f_X9_slips_107
      rw [wp_sIn (by omega) (by omega)]
      generalize hw3 : si w2 186 i v = w3
      have f3 : Fr cT w w3 := by rw [← hw3]; exact f2.si (Or.inr rfl)
      have g3 : ∀ j, j < i + 1 → gi w3 186 j = Sh w j := fun j hj => by
        rw [← hw3]
        by_cases e : j = i
        · rw [e, gi_si_s, hv]
        · rw [gi_si_n (by omega)]; exact g2 j (by omega)
      have hB3 := hB.to f3 (fun q k hq => core_cT ht hq)
      have sw3 := sw_cT f3
      have fin : ∀ u1 u2 u3 : Nat, u1 = hiN w i → u2 = liN w i → u3 = suN w i → wp (self (nI (sm (hiN w) i) + nI u1) (nI (sm (liN w) i) + nI u2) (nI (sm (suN w) i) + nI u3) (nI i + 1)) w3 (fun r w' => (if x1 = 0 then r = nI (sm (hiN w) (ln w)) else if x1 = 1 then ∃ B, Lex w 0 32 B ∧ r = nI B else if x1 = 2 then r = nI (sm (liN w) (ln w)) else r = nI (sm (suN w) (ln w))) ∧ Fr cT w w') := by
        intro u1 u2 u3 z1 z2 z3
        rw [nI_add, nI_add, nI_add, ad1]
        exact hs (ln w - (i + 1)) _ _ _ _ _ (by omega) ⟨i + 1, by omega, rfl, rfl, by rw [z1]; rfl, by rw [z2]; rfl, by rw [z3]; rfl, g3, f3⟩
      -- listed
      have p157 : ∀ u1 u3 : Nat, u1 = hiN w i → u3 = suN w i → wp (f_X9_slips_157 self x1 (nI (sm (liN w) i)) (nI (sm (suN w) i) + nI u3) (nI i) (nI (lv w i)) (nI (lp w i)) (nI (lx w i)) x9 (nI u1) (nI (sm (hiN w) i))) w3 (fun r w' => (if x1 = 0 then r = nI (sm (hiN w) (ln w)) else if x1 = 1 then ∃ B, Lex w 0 32 B ∧ r = nI B else if x1 = 2 then r = nI (sm (liN w) (ln w)) else r = nI (sm (suN w) (ln w))) ∧ Fr cT w w') := by
        intro u1 u3 z1 z3
        unfold f_X9_slips_157 f_X9_slips_191 f_X9_slips_192
        rw [wp_nm]
        rcases h9 with ⟨rfl, hS⟩ | ⟨rfl, hS⟩
        · obtain ⟨s1, s2, s3, s4⟩ := hB.v.g hW h1
          obtain ⟨r1, r2, r3⟩ := s4 _ hS.1
          obtain ⟨-, -, -, -, E4, E5⟩ := sw3.eqs
          have ls := rd_listed9 hB3.o r1 h3
          rw [E4, E5] at ls
          rw [if_neg (by decide), mu8, nI_add (8 * lv w i), wp_aIn (by omega) (by omega), f3.2.2 _ _ (by unfold cT c9; omega), r3, wp_bnd, ls.wp]
          by_cases hA : wf w (vw w (lv w i) (lp w i)) = wf w (lx w i) ∧ wb w (vw w (lv w i) (lp w i)) = wb w (lx w i)
          · rw [if_pos hA, if_pos rfl, wp_nm]
            exact fin u1 0 u3 z1 (by unfold liN; rw [if_neg (fun q => q.2 hA)]) z3
          · rw [if_neg hA, if_neg (by decide), wp_nm]
            exact fin u1 1 u3 z1 (by unfold liN; rw [if_pos ⟨hS, hA⟩]) z3
        · rw [if_pos rfl, wp_nm]
          exact fin u1 0 u3 z1 (by unfold liN; rw [if_neg (fun q => hS q.1)]) z3
      -- hidden
      have p120 : ∀ u3 : Nat, u3 = suN w i → wp (f_X9_slips_120 self x1 (nI (sm (hiN w) i)) (nI (sm (liN w) i)) (nI i) (nI (lv w i)) (nI (lp w i)) (nI (lx w i)) x9 (nI u3) (nI (sm (suN w) i))) w3 (fun r w' => (if x1 = 0 then r = nI (sm (hiN w) (ln w)) else if x1 = 1 then ∃ B, Lex w 0 32 B ∧ r = nI B else if x1 = 2 then r = nI (sm (liN w) (ln w)) else r = nI (sm (suN w) (ln w))) ∧ Fr cT w w') := by
        intro u3 z3
        have hs0 : Rd (f_X9_has (Sh w i) 0) w3 (if bt (Sh w i) 0 then 1 else 0) := rd_has (Sh w i) (j := 0) (by omega)
        have hs1 : Rd (f_X9_has (Sh w i) 1) w3 (if bt (Sh w i) 1 then 1 else 0) := rd_has (Sh w i) (j := 1) (by omega)
        unfold f_X9_slips_120 f_X9_slips_156
        rw [wp_nm, wp_aIn (by omega) (by omega), g3 i (by omega), wp_bnd, hs0.wp]
        cases hb0 : bt (Sh w i) 0
        · rw [if_pos (by rfl), wp_aIn (by omega) (by omega), g3 i (by omega), wp_bnd, hs1.wp]
          cases hb1 : bt (Sh w i) 1
          · rw [if_pos (by rfl)]
            exact p157 0 u3 (by unfold hiN; rw [if_neg (by rw [hb1]; simp)]) z3
          · rw [if_neg (by decide)]
            exact p157 1 u3 (by unfold hiN; rw [if_pos ⟨hb0, hb1⟩]) z3
        · rw [if_neg (by decide)]
          exact p157 0 u3 (by unfold hiN; rw [if_neg (by rw [hb0]; simp)]) z3
      rcases h9 with ⟨rfl, hS⟩ | ⟨rfl, hS⟩
      · rw [if_neg (by decide)]
        exact p120 1 (by unfold suN; rw [if_pos hS])
      · rw [if_pos rfl]
        exact p120 0 (by unfold suN; rw [if_neg hS])
    by_cases hS : Su w i
    · have hS' := hSu.mp hS
      rw [if_pos hS', if_neg (by decide), wp_bnd]
      refine wp_mono (wp_ways9 ht hB'.o hB'.v h1 hS'.1 h3) (fun r w2 h => ?_)
      obtain ⟨rfl, f2⟩ := h
      refine cnt 1 _ w2 (i4.tr (f2.sub (fun q k hq => Or.inl hq))) (fun j hj => by rw [f2.2.2 _ _ (by unfold c9; omega)]; exact i3 j hj) (Or.inl ⟨rfl, hS⟩) ?_
      unfold Sh
      rw [if_pos hS, shw_fr (fun q k hq => sw q k (by omega)) _ _ _ h1]
    · rw [if_neg (fun q => hS (hSu.mpr q)), if_pos rfl]
      exact cnt 0 0 w' i4 i3 (Or.inr ⟨rfl, hS⟩) (if_neg hS).symm
theorem pr_slips (hw : Inv w) (x1 : Int32) : Pair (f_X8_slips x1) (f_X9_slips x1) w := by
  obtain ⟨t, W, hR, hT, hTo, hJ, hV, hS, hK, hL, hH⟩ := id hw
  have ht := hR.1
  have hB : Base t W w := ⟨hR, hTo, hJ, hV, hL⟩
  unfold Pair f_X8_slips f_X9_slips
  -- the class has answered u and changed only what is its own
  have ref : ∀ (u : Int32) (w1 : Wd), Fr cS w w1 → (x1 = 0 ∨ x1 = 1 ∨ x1 = 2 ∨ x1 = 3) → (∀ r, (if x1 = 0 then r = nI (sm (hiN w1) (ln w1)) else if x1 = 1 then ∃ B, Lex w1 0 32 B ∧ r = nI B else if x1 = 2 then r = nI (sm (liN w1) (ln w1)) else r = nI (sm (suN w1) (ln w1))) → r = u) → wp (bnd (f_X9_in x1.toInt64 0 3) (fun v1 => if v1 = 0 then (rt (-1)) else (fix4 FU (f_X9_slips_24 x1) 0 0 0 0))) w1 (fun b w2 => b = u ∧ Inv w2) := by
    intro u w1 f1 hx hu
    have hB1 := hB.to f1 (fun q k hq => core_cS ht hq)
    have hin : ∀ {Q : Int32 → Wd → Prop}, wp (f_X9_in x1.toInt64 0 3) w1 Q ↔ Q 1 w1 := wp_in (by rcases hx with rfl | rfl | rfl | rfl <;> decide)
    rw [wp_bnd, hin, if_neg (by decide)]
    refine wp_mono (wp_slips9 hB1 hx) (fun r w2 h => ?_)
    refine ⟨hu r h.1, Same.inv hR hT hTo hJ hV hS hK hL hH ⟨fun q k hq => ?_, ?_, ?_, ?_⟩⟩
    · rw [h.2.2.2 q k (core_cT ht hq), f1.2.2 q k (core_cS ht hq)]
    · rw [h.2.1, f1.1]
    · rw [h.2.1, f1.1]
    · rw [h.2.1, f1.1]; exact hR.2.2.2.1
  have smc : ∀ (f : Wd → Nat → Nat) (w1 : Wd), Fr cS w w1 → (∀ i, i < ln w → f w1 i = f w i) → sm (f w1) (ln w1) = sm (f w) (ln w) := by
    intro f w1 f1 he
    rw [(sw_cS f1).eqs.1]
    exact sm_congr _ he
  have hv : ∀ i, i < ln w → lv w i < 6 := fun i hi => ((hL.g hTo.1).2.2.2 i hi).1
  have eh : ∀ w1, Fr cS w w1 → ∀ i, i < ln w → hiN w1 i = hiN w i := fun w1 f1 i hi => by unfold hiN; rw [((sw_cS f1).sl (hv i hi)).2.1]
  have el : ∀ w1, Fr cS w w1 → ∀ i, i < ln w → liN w1 i = liN w i := fun w1 f1 i hi => by
    unfold liN
    by_cases q : Li w i
    · rw [if_pos q, if_pos (((sw_cS f1).sl (hv i hi)).2.2.mpr q)]
    · rw [if_neg q, if_neg (fun z => q (((sw_cS f1).sl (hv i hi)).2.2.mp z))]
  have es : ∀ w1, Fr cS w w1 → ∀ i, i < ln w → suN w1 i = suN w i := fun w1 f1 i hi => by
    unfold suN
    by_cases q : Su w i
    · rw [if_pos q, if_pos (((sw_cS f1).sl (hv i hi)).1.mpr q)]
    · rw [if_neg q, if_neg (fun z => q (((sw_cS f1).sl (hv i hi)).1.mp z))]
  by_cases h0 : x1 = 0
  · rw [if_pos h0, wp_bnd]
    refine wp_mono (wp_hidden hB) (fun r w1 h => ?_)
    obtain ⟨rfl, f1⟩ := h
    rw [wp_rt]
    refine ref _ w1 f1 (Or.inl h0) (fun r hr => ?_)
    rw [if_pos h0] at hr
    rw [hr, smc hiN w1 f1 (eh w1 f1)]
  rw [if_neg h0]
  by_cases h1 : x1 = 1
  · rw [if_pos h1, wp_bnd]
    refine wp_mono (wp_fewest8 hB) (fun r w1 h => ?_)
    obtain ⟨⟨B, hB1, rfl⟩, f1⟩ := h
    rw [wp_rt]
    refine ref _ w1 f1 (Or.inr (Or.inl h1)) (fun r hr => ?_)
    rw [if_neg h0, if_pos h1] at hr
    obtain ⟨B', hB', rfl⟩ := hr
    have gs : ∀ S, Gs w1 S ↔ Gs w S := fun S => by
      unfold Gs
      rw [(sw_cS f1).eqs.1]
      constructor
      · intro h i hi
        have := h i hi
        rw [((sw_cS f1).sl (hv i hi)).2.1] at this
        exact this
      · intro h i hi
        rw [((sw_cS f1).sl (hv i hi)).2.1]
        exact h i hi
    have : Lex w 0 32 B' := ⟨hB'.1, (gs _).mp hB'.2.1, fun S a b c => hB'.2.2 S a b ((gs S).mpr c)⟩
    rw [this.uniq hB1]
  rw [if_neg h1]
  by_cases h2 : x1 = 2
  · rw [if_pos h2, wp_bnd, (wp_listed hB).wp, wp_rt]
    refine ref _ w Fr.rf (Or.inr (Or.inr (Or.inl h2))) (fun r hr => ?_)
    rw [if_neg h0, if_neg h1, if_pos h2] at hr
    exact hr
  rw [if_neg h2]
  by_cases h3 : x1 = 3
  · rw [if_pos h3, wp_bnd, (wp_such hB).wp, wp_rt]
    refine ref _ w Fr.rf (Or.inr (Or.inr (Or.inr h3))) (fun r hr => ?_)
    rw [if_neg h0, if_neg h1, if_neg h2] at hr
    exact hr
  rw [if_neg h3, wp_rt, wp_bnd]
  have ho : x1.toInt < 0 ∨ 3 < x1.toInt := by
    have z0 : x1.toInt ≠ 0 := fun z => h0 (Int32.toInt_inj.mp z)
    have z1 : x1.toInt ≠ 1 := fun z => h1 (Int32.toInt_inj.mp z)
    have z2 : x1.toInt ≠ 2 := fun z => h2 (Int32.toInt_inj.mp z)
    have z3 : x1.toInt ≠ 3 := fun z => h3 (Int32.toInt_inj.mp z)
    omega
  rw [wp_ino (by rw [i2l_toInt]; exact ho), if_pos rfl]
  exact wp_rt.mpr ⟨rfl, hw⟩
end SLIPS2
