/-! THE TEXT: numbers, as both sides read them -/
section NUM
variable {w : Wd}
/-- the bytes, and 0 behind them -/
def By (w : Wd) (n p : Nat) : Nat := if p < n then (gi w 162 p).toNatClampNeg else 0
abbrev dg (B : Nat → Nat) (p : Nat) : Prop := 48 ≤ B p ∧ B p ≤ 57
/-- one number and what must stand behind it -/
def nf (B : Nat → Nat) (sep p : Nat) : Option (Nat × Nat) :=
  if ¬ dg B p then none
  else if ¬ dg B (p + 1) then (if B (p + 1) = sep then some (B p - 48, p + 2) else none)
  else if B (p + 2) = sep then some (10 * (B p - 48) + (B (p + 1) - 48), p + 3) else none
def fl (B : Nat → Nat) : Nat → Nat → (Nat → Nat) → Nat → Option ((Nat → Nat) × Nat)
  | 0, _, u, p => some (u, p)
  | r + 1, j, u, p => match nf B (if r = 0 then 59 else 44) p with
    | none => none
    | some (v, p') => fl B r (j + 1) (fun i => if i = j then v else u i) p'
def sby (c : Nat) : Int32 := (nI c).toInt8.toInt32
theorem sby_eq : ∀ c, c < 256 → ∀ k, k < 128 → (sby c = nI k ↔ c = k) := by
  intro c hc k hk
  by_cases h : c < 128
  · have e : sby c = nI c := by
      unfold sby
      exact lg_i2b_small (by rw [nI_toInt (by omega)]; omega) (by rw [nI_toInt (by omega)]; omega)
    rw [e, nI_eq (by omega) (by omega)]
  · constructor
    · intro q
      exfalso
      have h1 := lg_i2b_toInt (nI c)
      have h2 : (sby c).toInt = (nI c).toInt.bmod (2 ^ 8) := h1
      rw [q, nI_toInt (by omega), nI_toInt (by omega)] at h2
      have h3 : (c : Int).bmod (2 ^ 8) = (c : Int) - 256 := by
        show (c : Int).bmod 256 = _
        rw [Int.bmod_def]
        split <;> omega
      omega
    · intro q; omega
theorem sby_fig {c : Nat} (hc : c < 256) (h : 48 ≤ c ∧ c ≤ 57) : sby c = nI c := (sby_eq c hc c (by omega)).mpr rfl
theorem sby_nfig {c : Nat} (hc : c < 256) (h : ¬ (48 ≤ c ∧ c ≤ 57)) : sby c < 48 ∨ 57 < sby c := by
  by_cases h1 : c < 128
  · rw [(sby_eq c hc c h1).mpr rfl]
    by_cases h2 : c < 48
    · exact Or.inl (lt_l 48 h2 (by omega))
    · exact Or.inr (gt_l 57 (by omega) (by omega))
  · left
    have h2 : (sby c).toInt = (nI c).toInt.bmod (2 ^ 8) := lg_i2b_toInt (nI c)
    rw [nI_toInt (by omega)] at h2
    have h3 : (c : Int).bmod (2 ^ 8) = (c : Int) - 256 := by
      show (c : Int).bmod 256 = _
      rw [Int.bmod_def]
      split <;> omega
    rw [Int32.lt_iff_toInt_lt, h2, h3]
    show (c : Int) - 256 < 48
    omega
theorem rd_fig {c : Nat} (hc : c < 256) : Rd (f_X4_isFigure (sby c)) w (if 48 ≤ c ∧ c ≤ 57 then 1 else 0) := by
  unfold Rd f_X4_isFigure f_X4_isFigure_16 f_X4_isFigure_17
  by_cases h : 48 ≤ c ∧ c ≤ 57
  · rw [sby_fig hc h, if_neg (nlt_l 48 h.1 (by omega)), if_neg (ngt_l 57 h.2 (by omega)), wp_gd, wp_rt, if_pos h]
    exact ⟨by decide, rfl, rfl⟩
  · rw [if_neg h]
    rcases sby_nfig hc h with q | q
    · rw [if_pos q, wp_gd, wp_rt]
      exact ⟨by decide, rfl, rfl⟩
    · refine wp_if (fun _ => ?_) (fun _ => ?_)
      · rw [wp_gd, wp_rt]; exact ⟨by decide, rfl, rfl⟩
      · rw [if_pos q, wp_gd, wp_rt]; exact ⟨by decide, rfl, rfl⟩
def cP8 (q k : Nat) : Prop := (q = 1 ∧ k = 2) ∨ q = 3
def cP9 (q k : Nat) : Prop := (q = 161 ∧ k = 17) ∨ q = 175
/-- what the text is -/
def Txt (n : Nat) (B : Nat → Nat) (w : Wd) : Prop := n ≤ 300 ∧ gi w 1 1 = nI n ∧ gi w 161 0 = nI n ∧ (∀ k, k < n → B k < 256 ∧ gi w 162 k = nI (B k) ∧ gi w 2 k = sby (B k)) ∧ ∀ k, n ≤ k → B k = 0
theorem Txt.to {n : Nat} {B : Nat → Nat} {w' : Wd} (h : Txt n B w) (e : ∀ q k, cTxt q k → gi w' q k = gi w q k) : Txt n B w' := by
  obtain ⟨h1, h2, h3, h4, h5⟩ := h
  refine ⟨h1, ?_, ?_, fun k hk => ?_, h5⟩
  · rw [e _ _ (by unfold cTxt; omega)]; exact h2
  · rw [e _ _ (by unfold cTxt; omega)]; exact h3
  · rw [e _ _ (by unfold cTxt; omega), e _ _ (by unfold cTxt; omega)]; exact h4 k hk
theorem ITxt.txt (h : ITxt w) : ∃ n B, Txt n B w := by
  obtain ⟨n, h1, h2, h3, h4⟩ := h
  refine ⟨n, By w n, h1, h2, h3, fun k hk => ?_, fun k hk => ?_⟩
  · obtain ⟨c, c1, c2, c3⟩ := h4 k hk
    have e : By w n k = c := by unfold By; rw [if_pos hk, c2, cl_nI (by omega)]
    rw [e]
    exact ⟨c1, c2, c3⟩
  · unfold By
    rw [if_neg (by omega)]
theorem mu10 (a : Nat) : 10 * nI a = nI (10 * a) := pk_mul 10 a
theorem sb48 {a : Nat} (h : 48 ≤ a) : nI a - 48 = nI (a - 48) := pk_sub (b := 48) h
/-- the value of the first k figures -/
def vl (B : Nat → Nat) (p k : Nat) : Nat := if k = 0 then 0 else if k = 1 then B p - 48 else 10 * (B p - 48) + (B (p + 1) - 48)
theorem nf_end {B : Nat → Nat} {sep p k : Nat} (hs : sep = 44 ∨ sep = 59) (hk : k = 1 ∨ k = 2) (hd : ∀ i, i < k → dg B (p + i)) (he : k = 2 ∨ ¬ dg B (p + k)) : nf B sep p = if B (p + k) = sep then some (vl B p k, p + k + 1) else none := by
  have d0 : dg B p := hd 0 (by omega)
  unfold nf
  rw [if_neg (fun q => q d0)]
  rcases hk with rfl | rfl
  · rw [if_pos (by omega)]
    rfl
  · have d1 : dg B (p + 1) := hd 1 (by omega)
    rw [if_neg (fun q => q d1)]
    rfl
theorem vl_lt {B : Nat → Nat} {p k : Nat} (hk : k ≤ 2) (hd : ∀ i, i < k → dg B (p + i)) : vl B p k < 100 := by
  unfold vl
  by_cases k0 : k = 0
  · rw [if_pos k0]; omega
  · have d0 : dg B p := hd 0 (by omega)
    rw [if_neg k0]
    by_cases k1 : k = 1
    · rw [if_pos k1]; omega
    · have d1 : dg B (p + 1) := hd 1 (by omega)
      rw [if_neg k1]; omega
/-- one field of the class -/
theorem wp_field8 {n : Nat} {B : Nat → Nat} {K j p r : Nat} {s2 : Int32 → M Int32} {Q : Int32 → Wd → Prop} (hT : Txt n B w) (hp : gi w 1 2 = nI p) (hpn : p ≤ n) (hj : j < K) (hK : K ≤ 4) (hr : r + 1 = K - j)
    (hno : nf B (if r = 0 then 59 else 44) p = none → ∀ w', Fr cP8 w w' → Q 0 w')
    (hyes : ∀ v q, nf B (if r = 0 then 59 else 44) p = some (v, q) → v < 100 → p < q → q ≤ n → ∀ w', Fr cP8 w w' → gi w' 1 2 = nI q → gi w' 3 j = nI v → (∀ i, i ≠ j → gi w' 3 i = gi w 3 i) → wp (s2 (nI (j + 1))) w' Q) :
    wp (fix1 FU (f_X4_readNumbers_15 s2 (nI K) (nI j) (nI p)) 0) w Q := by
  obtain ⟨t1, t2, t3, t4, t5⟩ := id hT
  refine wp_fix1 (fun m x w' => ∃ k, k ≤ 2 ∧ m = 2 - k ∧ x = nI (vl B p k) ∧ gi w' 1 2 = nI (p + k) ∧ p + k ≤ n ∧ (∀ i, i < k → dg B (p + i)) ∧ Fr cP8 w w' ∧ ∀ i, gi w' 3 i = gi w 3 i) (fun m x w' self hI hs => ?_) FU 2 0 w (by have := FU_big; omega) ⟨0, by omega, by omega, rfl, hp, hpn, fun i hi => by omega, Fr.rf, fun _ => rfl⟩
  obtain ⟨k, k1, k2, rfl, k3, k4, k5, k6, k7⟩ := hI
  have len : gi w' 1 1 = nI n := by rw [k6.2.2 _ _ (by unfold cP8; omega)]; exact t2
  have by8 : ∀ i, i < n → gi w' 2 i = sby (B i) := fun i hi => by rw [k6.2.2 _ _ (by unfold cP8; omega)]; exact (t4 i hi).2.2
  have vlt := vl_lt k1 k5
  -- the end of the figures
  have fin : (k = 2 ∨ ¬ dg B (p + k)) → wp (f_X4_readNumbers_84 s2 (nI K) (nI j) (nI p) (nI (vl B p k))) w' Q := by
    intro he
    unfold f_X4_readNumbers_84
    have e98 : ∀ sep : Nat, sep = (if r = 0 then 59 else 44) → wp (f_X4_readNumbers_98 s2 (nI K) (nI j) (nI p) (nI (vl B p k)) (nI sep)) w' Q := by
      intro sep hsep
      unfold f_X4_readNumbers_98 f_X4_readNumbers_133
      have hs2 : sep = 44 ∨ sep = 59 := by rw [hsep]; split <;> omega
      have no : nf B (if r = 0 then 59 else 44) p = none → wp (gd ((0 : Int32) = 0 ∨ (0 : Int32) = 1) (rt 0)) w' Q := fun hn => wp_gd.mpr ⟨by decide, wp_rt.mpr (hno hn w' k6)⟩
      rw [wp_rI, k3]
      by_cases k0 : k = 0
      · subst k0
        rw [if_pos (show nI (p + 0) = nI p from rfl)]
        refine no ?_
        unfold nf
        rw [if_pos (by rcases he with q | q; (· omega); (· exact q))]
      · have hnf := nf_end hs2 (by omega) k5 he
        rw [hsep] at hnf
        rw [if_neg (fun e => k0 (by have := (nI_eq (by omega) (by omega)).mp e; omega)), wp_rI, k3, wp_rI, len]
        by_cases hn : n ≤ p + k
        · rw [if_pos (nI_le hn (by omega))]
          refine no ?_
          rw [hnf, if_neg]
          rw [t5 _ hn]
          split <;> omega
        · have hb := (t4 (p + k) (by omega)).1
          rw [if_neg (nI_ge (by omega) (by omega)), wp_rI, k3, wp_aIn (by omega) (by omega), by8 _ (by omega)]
          by_cases hc : B (p + k) = sep
          · rw [if_pos ((sby_eq _ hb sep (by omega)).mpr hc), wp_rI, k3, wp_wI, wp_sIn (by omega) (by omega), ad1, ad1]
            rw [← hsep, if_pos hc] at hnf
            rw [← hsep] at hyes
            refine hyes _ _ hnf vlt (by omega) (by omega) _ ((k6.si (Or.inl ⟨rfl, rfl⟩)).si (Or.inr rfl)) ?_ (gi_si_s _ _ _ _) (fun i hi => ?_)
            · rw [gi_si_n (by omega), gi_si_s]
            · rw [gi_si_n (by omega), gi_si_n (by omega)]; exact k7 i
          · rw [if_neg (fun e => hc ((sby_eq _ hb sep (by omega)).mp e))]
            refine no ?_
            rw [hnf, if_neg (by rw [← hsep]; exact hc)]
    have s1 : nI K - 1 = nI (K - 1) := pk_sub (b := 1) (by omega)
    rw [s1]
    by_cases hl : j = K - 1
    · rw [if_pos (by rw [hl])]
      exact e98 59 (by rw [if_pos (by omega)])
    · rw [if_neg (fun e => hl ((nI_eq (by omega) (by omega)).mp e))]
      exact e98 44 (by rw [if_neg (by omega)])
  unfold f_X4_readNumbers_15
  rw [wp_rI, k3, wp_rI, len]
  by_cases hn : n ≤ p + k
  · rw [if_pos (nI_le hn (by omega))]
    exact fin (Or.inr (by unfold dg; rw [t5 _ hn]; omega))
  · rw [if_neg (nI_ge (by omega) (by omega)), wp_rI, k3, ad2]
    by_cases h2 : k = 2
    · rw [if_pos (nI_le (by omega) (by omega))]
      exact fin (Or.inl h2)
    · have hb := (t4 (p + k) (by omega)).1
      rw [if_neg (nI_ge (by omega) (by omega)), wp_rI, k3, wp_aIn (by omega) (by omega), by8 _ (by omega), wp_bnd, (rd_fig hb).wp]
      by_cases hd : 48 ≤ B (p + k) ∧ B (p + k) ≤ 57
      · rw [if_pos hd, if_neg (by decide), wp_rI, k3, wp_aIn (by omega) (by omega), by8 _ (by omega), sby_fig hb hd, wp_nm, mu10, nI_add, sb48 (by omega), wp_rI, k3, wp_wI, ad1]
        refine hs (2 - (k + 1)) _ _ (by omega) ⟨k + 1, by omega, rfl, ?_, ?_, by omega, fun i hi => ?_, k6.si (Or.inl ⟨rfl, rfl⟩), fun i => ?_⟩
        · congr 1
          rcases (by omega : k = 0 ∨ k = 1) with rfl | rfl
          · show 10 * 0 + B (p + 0) - 48 = B p - 48
            rw [Nat.add_zero]; omega
          · show 10 * (B p - 48) + B (p + 1) - 48 = 10 * (B p - 48) + (B (p + 1) - 48)
            omega
        · rw [gi_si_s]; rfl
        · by_cases e : i = k
          · rw [e]; exact hd
          · exact k5 i (by omega)
        · rw [gi_si_n (by omega)]; exact k7 i
      · rw [if_neg hd, if_pos rfl]
        exact fin (Or.inr hd)
theorem wp_nums8 {n : Nat} {B : Nat → Nat} {K p : Nat} (hT : Txt n B w) (hp : gi w 1 2 = nI p) (hpn : p ≤ n) (hK : K ≤ 4) (h0 : 0 < K) : wp (f_X4_readNumbers (nI K)) w (fun r w' => Fr cP8 w w' ∧ ((r = 0 ∧ fl B K 0 (fun _ => 0) p = none) ∨ (r = 1 ∧ ∃ u q, fl B K 0 (fun _ => 0) p = some (u, q) ∧ p < q ∧ q ≤ n ∧ gi w' 1 2 = nI q ∧ ∀ i, i < K → u i < 100 ∧ gi w' 3 i = nI (u i)))) := by
  unfold f_X4_readNumbers
  refine wp_fix1 (fun m x w' => ∃ j u q, j ≤ K ∧ m = K - j ∧ x = nI j ∧ fl B K 0 (fun _ => 0) p = fl B m j u q ∧ p ≤ q ∧ (0 < j → p < q) ∧ q ≤ n ∧ gi w' 1 2 = nI q ∧ (∀ i, i < j → u i < 100 ∧ gi w' 3 i = nI (u i)) ∧ Fr cP8 w w') (fun m x w' self hI hs => ?_) FU K 0 w (by have := FU_big; omega) ⟨0, fun _ => 0, p, by omega, by omega, rfl, rfl, Nat.le_refl _, fun h => absurd h (by omega), hpn, hp, fun i hi => by omega, Fr.rf⟩
  obtain ⟨j, u, q, j1, j2, rfl, j3, j4, j4', j5, j6, j7, j8⟩ := hI
  unfold f_X4_readNumbers_2
  by_cases hj : K ≤ j
  · have e : m = 0 := by omega
    subst e
    rw [if_pos (nI_le hj (by omega)), wp_gd, wp_rt]
    exact ⟨by decide, j8, Or.inr ⟨rfl, u, q, j3, j4' (by omega), j5, j6, fun i hi => j7 i (by omega)⟩⟩
  · obtain ⟨r, hr⟩ : ∃ r, m = r + 1 := ⟨m - 1, by omega⟩
    subst hr
    have ef : fl B (r + 1) j u q = match nf B (if r = 0 then 59 else 44) q with | none => none | some (v, p') => fl B r (j + 1) (fun i => if i = j then v else u i) p' := rfl
    rw [if_neg (nI_ge (by omega) (by omega)), wp_rI, j6]
    refine wp_field8 (hT.to (fun a b hc => j8.2.2 a b (by unfold cTxt at hc; unfold cP8; omega))) j6 j5 (by omega) hK (by omega) (fun hn w2 f2 => ⟨j8.tr f2, Or.inl ⟨rfl, ?_⟩⟩) (fun v q' hv hv1 hv2 hv3 w2 f2 g1 g2 g3 => ?_)
    · rw [j3, ef, hn]
    · refine hs r _ _ (by omega) ⟨j + 1, fun i => if i = j then v else u i, q', by omega, by omega, rfl, ?_, by omega, fun _ => by omega, hv3, g1, fun i hi => ?_, j8.tr f2⟩
      · rw [j3, ef, hv]
      · by_cases e : i = j
        · subst e
          show (if i = i then v else u i) < 100 ∧ _ = nI (if i = i then v else u i)
          rw [if_pos rfl]
          exact ⟨hv1, g2⟩
        · show (if i = j then v else u i) < 100 ∧ _ = nI (if i = j then v else u i)
          rw [if_neg e, g3 i e]
          exact j7 i (by omega)
end NUM
