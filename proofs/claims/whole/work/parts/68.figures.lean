/-! THE TEXT: numbers in the reference -/
section NUM9
variable {w : Wd}
theorem rd_byte9 {n p : Nat} {B : Nat → Nat} (hT : Txt n B w) (hp : p < 2 ^ 30) : Rd (f_X9_byteAt (nI p)) w (nI (B p)) := by
  obtain ⟨t1, t2, t3, t4, t5⟩ := hT
  unfold Rd f_X9_byteAt f_X9_byteAt_18
  rw [wp_rI, t3]
  by_cases h : n ≤ p
  · rw [if_pos (nI_le h (by omega)), wp_rt, t5 p h]
    exact ⟨rfl, rfl⟩
  · rw [if_neg (nI_ge (by omega) (by omega)), wp_aIn (by omega) (by omega), (t4 p (by omega)).2.1, wp_rt]
    exact ⟨rfl, rfl⟩
theorem Txt.B_lt {n p : Nat} {B : Nat → Nat} (hT : Txt n B w) : B p < 256 := by
  obtain ⟨t1, t2, t3, t4, t5⟩ := hT
  by_cases h : n ≤ p
  · rw [t5 p h]; omega
  · exact (t4 p (by omega)).1
theorem wp_field9 {n : Nat} {B : Nat → Nat} {K j p r : Nat} {s2 : Int32 → M Int32} {Q : Int32 → Wd → Prop} (hT : Txt n B w) (hp : gi w 161 17 = nI p) (hpn : p ≤ n) (hj : j < K) (hK : K ≤ 4) (hr : r + 1 = K - j)
    (hno : nf B (if r = 0 then 59 else 44) p = none → ∀ w', Fr cP9 w w' → Q 0 w')
    (hyes : ∀ v q, nf B (if r = 0 then 59 else 44) p = some (v, q) → v < 100 → p < q → q ≤ n → ∀ w', Fr cP9 w w' → gi w' 161 17 = nI q → gi w' 175 j = nI v → (∀ i, i ≠ j → gi w' 175 i = gi w 175 i) → wp (s2 (nI (j + 1))) w' Q) :
    wp (fix2 FU (f_X9_figures_12 s2 (nI K) (nI j)) 0 0) w Q := by
  obtain ⟨t1, t2, t3, t4, t5⟩ := id hT
  refine wp_fix2 (fun m x y w' => ∃ k, k ≤ 3 ∧ m = 3 - k ∧ x = nI k ∧ (k ≤ 2 → y = nI (vl B p k)) ∧ (∃ z, z < 2000 ∧ y = nI z) ∧ gi w' 161 17 = nI (p + k) ∧ p + k ≤ n ∧ (∀ i, i < k → dg B (p + i)) ∧ Fr cP9 w w' ∧ ∀ i, gi w' 175 i = gi w 175 i) (fun m x y w' self hI hs => ?_) FU 3 0 0 w (by have := FU_big; omega) ⟨0, by omega, by omega, rfl, fun _ => rfl, ⟨0, by omega, rfl⟩, hp, hpn, fun i hi => by omega, Fr.rf, fun _ => rfl⟩
  obtain ⟨k, k1, k2, rfl, ky, ⟨z, z1, rfl⟩, k3, k4, k5, k6, k7⟩ := hI
  have hT' : Txt n B w' := hT.to (fun a b hc => k6.2.2 a b (by unfold cTxt at hc; unfold cP9; omega))
  have bd : B (p + k) < 256 := hT.B_lt
  have fin : (k = 3 ∨ ¬ dg B (p + k)) → wp (f_X9_figures_73 s2 (nI K) (nI j) (nI k) (nI z)) w' Q := by
    intro he
    unfold f_X9_figures_73 f_X9_figures_110
    have no : nf B (if r = 0 then 59 else 44) p = none → wp (gd ((0 : Int32) = 0 ∨ (0 : Int32) = 1) (rt 0)) w' Q := fun hn => wp_gd.mpr ⟨by decide, wp_rt.mpr (hno hn w' k6)⟩
    rw [wp_bnd]
    by_cases hk : k = 1 ∨ k = 2
    · rw [wp_in (by rw [i2l_toInt, nI_toInt (by omega)]; exact ⟨by show (1 : Int) ≤ k; omega, by show (k : Int) ≤ 2; omega⟩), if_neg (by decide), wp_rI, k3, wp_bnd, (rd_byte9 hT' (by omega)).wp]
      have e107 : ∀ sep : Nat, sep = (if r = 0 then 59 else 44) → wp (f_X9_figures_107 s2 (nI K) (nI j) (nI z) (nI sep) (nI (B (p + k)))) w' Q := by
        intro sep hsep
        have hs2 : sep = 44 ∨ sep = 59 := by rw [hsep]; split <;> omega
        have hnf := nf_end hs2 hk k5 (he.elim (fun q => by omega) Or.inr)
        rw [hsep] at hnf
        unfold f_X9_figures_107 f_X9_figures_110
        have ez := ky (by omega)
        by_cases hc : B (p + k) = sep
        · have hn : p + k < n := by
            by_cases q : p + k < n
            · exact q
            · have := t5 (p + k) (by omega)
              omega
          rw [if_pos (by rw [hc]), wp_sIn (by omega) (by omega), wp_rI, gi_si_n (by omega), k3, wp_wI, ad1, ad1]
          rw [← hsep, if_pos hc] at hnf
          rw [← hsep] at hyes
          refine hyes _ _ hnf (vl_lt (by omega) k5) (by omega) (by omega) _ ((k6.si (Or.inr rfl)).si (Or.inl ⟨rfl, rfl⟩)) (gi_si_s _ _ _ _) ?_ (fun i hi => ?_)
          · rw [gi_si_n (by omega), gi_si_s, ez]
          · rw [gi_si_n (by omega), gi_si_n (by omega)]; exact k7 i
        · rw [if_neg (fun e => hc ((nI_eq (by omega) (by omega)).mp e))]
          refine no ?_
          rw [hnf, if_neg (by rw [← hsep]; exact hc)]
      have s1 : nI K - 1 = nI (K - 1) := pk_sub (b := 1) (by omega)
      rw [s1]
      by_cases hl : K - 1 ≤ j
      · rw [if_pos (nI_le hl (by omega))]
        exact e107 59 (by rw [if_pos (by omega)])
      · rw [if_neg (nI_ge (by omega) (by omega))]
        exact e107 44 (by rw [if_neg (by omega)])
    · rw [wp_ino (by rw [i2l_toInt, nI_toInt (by omega)]; rcases (by omega : k = 0 ∨ k = 3) with rfl | rfl; (· left; decide); (· right; decide)), if_pos rfl]
      refine no ?_
      rcases (by omega : k = 0 ∨ k = 3) with rfl | rfl
      · unfold nf
        rw [if_pos (by rcases he with q | q; (· omega); (· exact q))]
      · have d0 : dg B p := k5 0 (by omega)
        have d1 : dg B (p + 1) := k5 1 (by omega)
        have d2 : dg B (p + 2) := k5 2 (by omega)
        unfold nf
        rw [if_neg (fun q => q d0), if_neg (fun q => q d1), if_neg (by split <;> omega)]
  unfold f_X9_figures_12
  rw [wp_rI, k3, wp_bnd, (rd_byte9 hT' (by omega)).wp, wp_bnd]
  by_cases hd : 48 ≤ B (p + k) ∧ B (p + k) ≤ 57
  · rw [wp_in (by rw [i2l_toInt, nI_toInt (by omega)]; exact ⟨by show (48 : Int) ≤ (B (p + k) : Int); omega, by show (B (p + k) : Int) ≤ 57; omega⟩), if_neg (by decide)]
    by_cases h3 : k = 3
    · rw [if_pos (ge_l 3 (by omega) (by omega))]
      exact fin (Or.inl h3)
    · have hn : p + k < n := by
        by_cases q : p + k < n
        · exact q
        · have := t5 (p + k) (by omega)
          omega
      rw [if_neg (nge_l 3 (by omega) (by omega)), wp_rI, k3, wp_bnd, (rd_byte9 hT' (by omega)).wp, wp_nm, mu10, nI_add, sb48 (by omega), wp_rI, k3, wp_wI, ad1, ad1]
      have zb : k ≤ 2 ∧ z < 100 := by
        refine ⟨by omega, ?_⟩
        have e := ky (by omega)
        have := vl_lt (B := B) (p := p) (k := k) (by omega) k5
        have := (nI_eq (by omega) (by omega)).mp e
        omega
      have ez : z = vl B p k := (nI_eq (by omega) (by have := vl_lt (B := B) (p := p) (k := k) (by omega) k5; omega)).mp (ky (by omega))
      refine hs (3 - (k + 1)) _ _ _ (by omega) ⟨k + 1, by omega, rfl, rfl, fun h2 => ?_, ⟨_, by omega, rfl⟩, ?_, by omega, fun i hi => ?_, k6.si (Or.inl ⟨rfl, rfl⟩), fun i => ?_⟩
      · congr 1
        rw [ez]
        rcases (by omega : k = 0 ∨ k = 1) with rfl | rfl
        · show 10 * 0 + B (p + 0) - 48 = B p - 48
          rw [Nat.add_zero]; omega
        · show 10 * (B p - 48) + B (p + 1) - 48 = 10 * (B p - 48) + (B (p + 1) - 48)
          omega
      · rw [gi_si_s]; rfl
      · by_cases e : i = k
        · rw [e]; exact hd
        · exact k5 i (by omega)
      · rw [gi_si_n (by omega)]; exact k7 i
  · rw [wp_ino (by rw [i2l_toInt, nI_toInt (by omega)]; rcases (by omega : B (p + k) < 48 ∨ 57 < B (p + k)) with q | q; (· left; show (B (p + k) : Int) < 48; omega); (· right; show (57 : Int) < (B (p + k) : Int); omega)), if_pos rfl]
    exact fin (Or.inr hd)
theorem wp_nums9 {n : Nat} {B : Nat → Nat} {K p : Nat} (hT : Txt n B w) (hp : gi w 161 17 = nI p) (hpn : p ≤ n) (hK : K ≤ 4) (h0 : 0 < K) : wp (f_X9_figures (nI K)) w (fun r w' => Fr cP9 w w' ∧ ((r = 0 ∧ fl B K 0 (fun _ => 0) p = none) ∨ (r = 1 ∧ ∃ u q, fl B K 0 (fun _ => 0) p = some (u, q) ∧ p < q ∧ q ≤ n ∧ gi w' 161 17 = nI q ∧ ∀ i, i < K → u i < 100 ∧ gi w' 175 i = nI (u i)))) := by
  unfold f_X9_figures
  refine wp_fix1 (fun m x w' => ∃ j u q, j ≤ K ∧ m = K - j ∧ x = nI j ∧ fl B K 0 (fun _ => 0) p = fl B m j u q ∧ p ≤ q ∧ (0 < j → p < q) ∧ q ≤ n ∧ gi w' 161 17 = nI q ∧ (∀ i, i < j → u i < 100 ∧ gi w' 175 i = nI (u i)) ∧ Fr cP9 w w') (fun m x w' self hI hs => ?_) FU K 0 w (by have := FU_big; omega) ⟨0, fun _ => 0, p, by omega, by omega, rfl, rfl, Nat.le_refl _, fun h => absurd h (by omega), hpn, hp, fun i hi => by omega, Fr.rf⟩
  obtain ⟨j, u, q, j1, j2, rfl, j3, j4, j4', j5, j6, j7, j8⟩ := hI
  unfold f_X9_figures_2
  by_cases hj : K ≤ j
  · have e : m = 0 := by omega
    subst e
    rw [if_pos (nI_le hj (by omega)), wp_gd, wp_rt]
    exact ⟨by decide, j8, Or.inr ⟨rfl, u, q, j3, j4' (by omega), j5, j6, fun i hi => j7 i (by omega)⟩⟩
  · obtain ⟨r, hr⟩ : ∃ r, m = r + 1 := ⟨m - 1, by omega⟩
    subst hr
    have ef : fl B (r + 1) j u q = match nf B (if r = 0 then 59 else 44) q with | none => none | some (v, p') => fl B r (j + 1) (fun i => if i = j then v else u i) p' := rfl
    rw [if_neg (nI_ge (by omega) (by omega))]
    refine wp_field9 (hT.to (fun a b hc => j8.2.2 a b (by unfold cTxt at hc; unfold cP9; omega))) j6 j5 (by omega) hK (by omega) (fun hn w2 f2 => ⟨j8.tr f2, Or.inl ⟨rfl, ?_⟩⟩) (fun v q' hv hv1 hv2 hv3 w2 f2 g1 g2 g3 => ?_)
    · rw [j3, ef, hn]
    · refine hs r _ _ (by omega) ⟨j + 1, fun i => if i = j then v else u i, q', by omega, by omega, rfl, ?_, by omega, fun _ => by omega, hv3, g1, fun i hi => ?_, j8.tr f2⟩
      · rw [j3, ef, hv]
      · by_cases e : i = j
        · subst e
          show (if i = i then v else u i) < 100 ∧ _ = nI (if i = i then v else u i)
          rw [if_pos rfl]
          exact ⟨hv1, g2⟩
        · show (if i = j then v else u i) < 100 ∧ _ = nI (if i = j then v else u i)
          rw [if_neg e, g3 i e]
          exact j7 i (by omega)
end NUM9
