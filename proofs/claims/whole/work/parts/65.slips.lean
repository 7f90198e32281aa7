/-! slips -/
section SLIPS
variable {w : Wd} {t W : Nat}
def lv (w : Wd) (i : Nat) : Nat := (gi w 150 i).toNatClampNeg
def lp (w : Wd) (i : Nat) : Nat := (gi w 151 i).toNatClampNeg
def lx (w : Wd) (i : Nat) : Nat := (gi w 152 i).toNatClampNeg
def ln (w : Wd) : Nat := (gi w 149 0).toNatClampNeg
theorem ISl.g (h : ISl W w) (hW : W ≤ 16) : ln w ≤ 20 ∧ gi w 149 0 = nI (ln w) ∧ gi w 161 13 = nI (ln w) ∧ ∀ i, i < ln w → lv w i < 6 ∧ lp w i < 8 ∧ lx w i < W ∧ gi w 150 i = nI (lv w i) ∧ gi w 173 (3 * i) = nI (lv w i) ∧ gi w 151 i = nI (lp w i) ∧ gi w 173 (3 * i + 1) = nI (lp w i) ∧ gi w 152 i = nI (lx w i) ∧ gi w 173 (3 * i + 2) = nI (lx w i) := by
  obtain ⟨n, n1, n2, n3, n4⟩ := h
  have e : ln w = n := by unfold ln; rw [n2, cl_nI (by omega)]
  rw [e]
  refine ⟨n1, n2, n3, fun i hi => ?_⟩
  obtain ⟨v, p, x, h1, h2, h3, h4, h5, h6, h7, h8, h9⟩ := n4 i hi
  have e1 : lv w i = v := by unfold lv; rw [h4, cl_nI (by omega)]
  have e2 : lp w i = p := by unfold lp; rw [h6, cl_nI (by omega)]
  have e3 : lx w i = x := by unfold lx; rw [h8, cl_nI (by omega)]
  rw [e1, e2, e3]
  exact ⟨h1, h2, h3, h4, h5, h6, h7, h8, h9⟩
abbrev Su (w : Wd) (i : Nat) : Prop := isS w (lv w i) (lp w i) (lx w i)
def Sh (w : Wd) (i : Nat) : Int32 := if Su w i then shw w (lv w i) (lp w i) (lx w i) else 0
abbrev Li (w : Wd) (i : Nat) : Prop := Su w i ∧ ¬ (wf w (vw w (lv w i) (lp w i)) = wf w (lx w i) ∧ wb w (vw w (lv w i) (lp w i)) = wb w (lx w i))
def suN (w : Wd) (i : Nat) : Nat := if Su w i then 1 else 0
def hiN (w : Wd) (i : Nat) : Nat := if bt (Sh w i) 0 = false ∧ bt (Sh w i) 1 = true then 1 else 0
def liN (w : Wd) (i : Nat) : Nat := if Li w i then 1 else 0
/-- what slips are made of is as before -/
def SW (w w' : Wd) : Prop := ∀ q k, (q = 164 ∨ q = 165 ∨ (22 ≤ q ∧ q ≤ 28) ∨ (149 ≤ q ∧ q ≤ 152)) → gi w' q k = gi w q k
theorem SW.eqs {w w' : Wd} (h : SW w w') : ln w' = ln w ∧ lv w' = lv w ∧ lp w' = lp w ∧ lx w' = lx w ∧ wf w' = wf w ∧ wb w' = wb w := by
  refine ⟨?_, ?_, ?_, ?_, ?_, ?_⟩
  · unfold ln; rw [h _ _ (by omega)]
  · funext j; unfold lv; rw [h _ _ (by omega)]
  · funext j; unfold lp; rw [h _ _ (by omega)]
  · funext j; unfold lx; rw [h _ _ (by omega)]
  · funext j; unfold wf; rw [h _ _ (by omega)]
  · funext j; unfold wb; rw [h _ _ (by omega)]
theorem SW.ver {w w' : Wd} (h : SW w w') {a : Nat} (ha : a < 6) : vs w' a = vs w a ∧ vw w' a = vw w a := by
  refine ⟨?_, ?_⟩
  · unfold vs; rw [h _ _ (by omega)]
  · funext j; unfold vw; rw [h _ _ (by omega)]
theorem SW.sl {w w' : Wd} (h : SW w w') {i : Nat} (hv : lv w i < 6) : (Su w' i ↔ Su w i) ∧ Sh w' i = Sh w i ∧ (Li w' i ↔ Li w i) := by
  obtain ⟨-, e1, e2, e3, e4, e5⟩ := h.eqs
  obtain ⟨e6, e7⟩ := h.ver hv
  have hs : Su w' i ↔ Su w i := by unfold Su isS; rw [e1, e2, e3, e6, e7]
  refine ⟨hs, ?_, ?_⟩
  · have e8 : shw w' (lv w' i) (lp w' i) (lx w' i) = shw w (lv w i) (lp w i) (lx w i) := by
      rw [e1, e2, e3, shw_fr (fun q k hq => h q k (by omega)) _ _ _ hv]
    unfold Sh
    by_cases q : Su w i
    · rw [if_pos (hs.mpr q), if_pos q, e8]
    · rw [if_neg (fun z => q (hs.mp z)), if_neg q]
  · unfold Li
    rw [hs, e1, e2, e3, e4, e5, e7]
def Base (t W : Nat) (w : Wd) : Prop := IRef t w ∧ ITon t W w ∧ IJoin t W w ∧ IVs W 0 w ∧ ISl W w
theorem Base.r (h : Base t W w) : IRef t w := h.1
theorem Base.o (h : Base t W w) : ITon t W w := h.2.1
theorem Base.j (h : Base t W w) : IJoin t W w := h.2.2.1
theorem Base.v (h : Base t W w) : IVs W 0 w := h.2.2.2.1
theorem Base.s (h : Base t W w) : ISl W w := h.2.2.2.2
theorem Base.to {w' : Wd} {C : Nat → Nat → Prop} (h : Base t W w) (f : Fr C w w') (hc : ∀ q k, core t q k → ¬ C q k) : Base t W w' := by
  have e : ∀ q k, core t q k → gi w' q k = gi w q k := fun q k hq => f.2.2 q k (hc q k hq)
  have eT : Eqo (cTon t) w w' := fun q k hq => e q k (Or.inr (Or.inl hq))
  exact ⟨h.r.to f.1 (e _ _ (Or.inr (Or.inr (Or.inr (Or.inr (Or.inr ⟨rfl, rfl⟩)))))), h.o.to eT, h.j.to h.o eT, h.v.to (by omega) (fun q k hq => e q k (Or.inr (Or.inr (Or.inl hq)))), h.s.to (fun q k hq => e q k (Or.inr (Or.inr (Or.inr (Or.inl hq)))))⟩
theorem rd_suchSlip (hB : Base t W w) {i : Nat} (hi : i < ln w) : Rd (f_X8_isSuchSlip (nI i)) w (if Su w i then 1 else 0) := by
  obtain ⟨n1, n2, n3, n4⟩ := hB.s.g hB.o.1
  obtain ⟨h1, h2, h3, h4, h5, h6, h7, h8, h9⟩ := n4 i hi
  unfold Rd f_X8_isSuchSlip
  rw [wp_aIn (by omega) (by omega), h4, wp_aIn (by omega) (by omega), h6, wp_aIn (by omega) (by omega), h8, wp_bnd, (rd_such8 hB.v hB.o.1 h1 h2 h3).wp, wp_gd, wp_rt]
  exact ⟨by split; (· exact Or.inr rfl); (· exact Or.inl rfl), rfl, rfl⟩
theorem wp_showSlip (hB : Base t W w) {i : Nat} (hi : i < ln w) (hs : Su w i) : wp (f_X8_waysThatShowSlip (nI i)) w (fun r w' => r = Sh w i ∧ Fr cC w w') := by
  obtain ⟨n1, n2, n3, n4⟩ := hB.s.g hB.o.1
  obtain ⟨h1, h2, h3, h4, h5, h6, h7, h8, h9⟩ := n4 i hi
  unfold f_X8_waysThatShowSlip
  rw [wp_aIn (by omega) (by omega), h4, wp_aIn (by omega) (by omega), h6, wp_aIn (by omega) (by omega), h8, wp_bnd]
  refine wp_mono (wp_ways8 hB.r hB.o hB.j hB.v h1 hs.1 h3) (fun r w' h => ?_)
  rw [wp_rt, h.1]
  exact ⟨by unfold Sh; rw [if_pos hs], h.2⟩
def cS (q k : Nat) : Prop := cC q k ∨ q = 153
def cT (q k : Nat) : Prop := c9 q k ∨ q = 186
theorem core_cS (ht : isT t) {q k : Nat} (h : core t q k) : ¬ cS q k := by
  unfold core cTxt cTon cBk cSl cHd at h
  unfold cS cC c8
  omega
theorem core_cT (ht : isT t) {q k : Nat} (h : core t q k) : ¬ cT q k := by
  unfold core cTxt cTon cBk cSl cHd at h
  unfold cT c9
  omega
theorem sw_cS {w' : Wd} (f : Fr cS w w') : SW w w' := fun q k hq => f.2.2 q k (by unfold cS cC c8; omega)
theorem sw_cT {w' : Wd} (f : Fr cT w w') : SW w w' := fun q k hq => f.2.2 q k (by unfold cT c9; omega)
theorem b0s (v : Int32) : ((v >>> (0 &&& 31)) &&& 1) = if bt v 0 then 1 else 0 := bitx v (j := 0) (by omega)
theorem b1s (v : Int32) : ((v >>> (1 &&& 31)) &&& 1) = if bt v 1 then 1 else 0 := bitx v (j := 1) (by omega)
theorem wp_hidden (hB : Base t W w) : wp f_X8_hiddenSlips w (fun r w' => r = nI (sm (hiN w) (ln w)) ∧ Fr cS w w') := by
  obtain ⟨n1, n2, n3, n4⟩ := hB.s.g hB.o.1
  have ht := hB.r.1
  unfold f_X8_hiddenSlips
  refine wp_fix2 (fun n u v w' => ∃ i, i ≤ ln w ∧ n = ln w - i ∧ v = nI i ∧ u = nI (sm (hiN w) i) ∧ Fr cS w w') (fun n u v w' self hI hs => ?_) FU (ln w) _ 0 w (by have := FU_big; omega) ⟨0, by omega, by omega, rfl, rfl, Fr.rf⟩
  obtain ⟨i, i1, i2, rfl, rfl, i3⟩ := hI
  have hB' := hB.to i3 (fun q k hq => core_cS ht hq)
  have sw := sw_cS i3
  unfold f_X8_hiddenSlips_4 f_X8_hiddenSlips_51 f_X8_hiddenSlips_52 f_X8_hiddenSlips_54
  rw [wp_rI, (hB'.s.g hB'.o.1).2.1, sw.eqs.1]
  by_cases hi : ln w ≤ i
  · rw [if_pos (nI_le hi (by omega)), wp_rt, show i = ln w by omega]
    exact ⟨rfl, i3⟩
  · have hv := (n4 i (by omega)).1
    obtain ⟨q1, q2, q3⟩ := sw.sl hv
    have go : ∀ (u : Nat) (w2 : Wd), Fr cS w w2 → u = hiN w i → wp (self (nI (sm (hiN w) i) + nI u) (nI i + 1)) w2 (fun r w' => r = nI (sm (hiN w) (ln w)) ∧ Fr cS w w') := fun u w2 f hu => by
      rw [nI_add, ad1]
      exact hs (ln w - (i + 1)) _ _ _ (by omega) ⟨i + 1, by omega, rfl, rfl, by rw [hu]; rfl, f⟩
    have z : nI (sm (hiN w) i) = nI (sm (hiN w) i) + nI 0 := (nI_add _ 0).symm
    rw [if_neg (nI_ge (by omega) (by omega)), wp_bnd, (rd_suchSlip hB' (by rw [sw.eqs.1]; omega)).wp]
    by_cases hS : Su w' i
    · rw [if_pos hS, if_neg (by decide), wp_bnd]
      refine wp_mono (wp_showSlip hB' (by rw [sw.eqs.1]; omega) hS) (fun r w2 h => ?_)
      obtain ⟨rfl, f2⟩ := h
      have f3 : Fr cS w w2 := i3.tr (f2.sub (fun q k hq => Or.inl hq))
      rw [b0s, b1s, q2]
      cases hb0 : bt (Sh w i) 0
      · rw [if_pos (by rfl)]
        cases hb1 : bt (Sh w i) 1
        · rw [if_neg (by decide), wp_nm]
          exact go 0 w2 f3 (by unfold hiN; rw [if_neg (by rw [hb1]; simp)])
        · rw [if_pos (by rfl), wp_nm]
          exact go 1 w2 f3 (by unfold hiN; rw [if_pos ⟨hb0, hb1⟩])
      · rw [if_neg (by decide), wp_nm]
        exact go 0 w2 f3 (by unfold hiN; rw [if_neg (by rw [hb0]; simp)])
    · rw [if_neg hS, if_pos rfl, z]
      refine go 0 w' i3 ?_
      unfold hiN
      rw [show Sh w i = 0 from if_neg (fun q => hS (q1.mpr q)), if_neg (by decide)]
theorem wp_such (hB : Base t W w) : Rd f_X8_suchSlips w (nI (sm (suN w) (ln w))) := by
  obtain ⟨n1, n2, n3, n4⟩ := hB.s.g hB.o.1
  unfold f_X8_suchSlips
  refine wp_fix2 (fun n u v w' => ∃ i, i ≤ ln w ∧ n = ln w - i ∧ v = nI i ∧ u = nI (sm (suN w) i) ∧ w' = w) (fun n u v w' self hI hs => ?_) FU (ln w) _ 0 w (by have := FU_big; omega) ⟨0, by omega, by omega, rfl, rfl, rfl⟩
  obtain ⟨i, i1, i2, rfl, rfl, rfl⟩ := hI
  unfold f_X8_suchSlips_4 f_X8_suchSlips_29
  rw [wp_rI, n2]
  by_cases hi : ln w' ≤ i
  · rw [if_pos (nI_le hi (by omega)), wp_rt, show i = ln w' by omega]
    exact ⟨rfl, rfl⟩
  · have go : ∀ u, u = suN w' i → wp (self (nI (sm (suN w') i) + nI u) (nI i + 1)) w' (fun r w'' => r = nI (sm (suN w') (ln w')) ∧ w'' = w') := fun u hu => by
      rw [nI_add, ad1]
      exact hs (ln w' - (i + 1)) _ _ _ (by omega) ⟨i + 1, by omega, rfl, rfl, by rw [hu]; rfl, rfl⟩
    rw [if_neg (nI_ge (by omega) (by omega)), wp_bnd, (rd_suchSlip hB (by omega)).wp]
    by_cases hS : Su w' i
    · rw [if_pos hS, if_neg (by decide), wp_nm]
      exact go 1 (by unfold suN; rw [if_pos hS])
    · rw [if_neg hS, if_pos rfl, wp_nm]
      exact go 0 (by unfold suN; rw [if_neg hS])
theorem rd_alike (hTo : ITon t W w) {x y : Nat} (hx : x < W) (hy : y < W) : Rd (f_X6_isListedAlike t (nI x) (nI y)) w (if wf w x = wf w y ∧ wb w x = wb w y then 1 else 0) := by
  have hW := hTo.1
  obtain ⟨a1, a2, a3, a4, -⟩ := hTo.fl hx
  obtain ⟨b1, b2, b3, b4, -⟩ := hTo.fl hy
  obtain ⟨c1, c2, -⟩ := hTo.2.2.2.1 x hx
  obtain ⟨d1, d2, -⟩ := hTo.2.2.2.1 y hy
  unfold Rd f_X6_isListedAlike f_X6_isListedAlike_34 f_X6_isListedAlike_35
  rw [wp_aIn (by omega) (by omega), c1, a1, wp_aIn (by omega) (by omega), d1, b1]
  by_cases e : wf w x = wf w y
  · rw [if_pos (by rw [e]), wp_aIn (by omega) (by omega), c2, a3, wp_aIn (by omega) (by omega), d2, b3]
    by_cases e2 : wb w x = wb w y
    · rw [if_pos (by rw [e2]), wp_gd, wp_rt, if_pos ⟨e, e2⟩]
      exact ⟨by decide, rfl, rfl⟩
    · rw [if_neg (fun z => e2 ((nI_eq (by omega) (by omega)).mp z)), wp_gd, wp_rt, if_neg (fun z => e2 z.2)]
      exact ⟨by decide, rfl, rfl⟩
  · rw [if_neg (fun z => e ((nI_eq (by omega) (by omega)).mp z)), wp_gd, wp_rt, if_neg (fun z => e z.1)]
    exact ⟨by decide, rfl, rfl⟩
theorem rd_listed9 (hTo : ITon t W w) {x y : Nat} (hx : x < W) (hy : y < W) : Rd (f_X9_isListed (nI x) (nI y)) w (if wf w x = wf w y ∧ wb w x = wb w y then 0 else 1) := by
  have hW := hTo.1
  obtain ⟨a1, a2, a3, a4, -⟩ := hTo.fl hx
  obtain ⟨b1, b2, b3, b4, -⟩ := hTo.fl hy
  unfold Rd f_X9_isListed f_X9_isListed_42 f_X9_isListed_47
  rw [mu3, mu3, wp_aIn (by omega) (by omega), a1, wp_aIn (by omega) (by omega), b1]
  by_cases e : wf w x = wf w y
  · rw [if_pos (by rw [e]), ad1, wp_aIn (by omega) (by omega), a3, ad1, wp_aIn (by omega) (by omega), b3]
    by_cases e2 : wb w x = wb w y
    · rw [if_pos (by rw [e2]), wp_gd, wp_rt, if_pos ⟨e, e2⟩]
      exact ⟨by decide, rfl, rfl⟩
    · rw [if_neg (fun z => e2 ((nI_eq (by omega) (by omega)).mp z)), wp_gd, wp_rt, if_neg (fun z => e2 z.2)]
      exact ⟨by decide, rfl, rfl⟩
  · rw [if_neg (fun z => e ((nI_eq (by omega) (by omega)).mp z)), wp_gd, wp_rt, if_neg (fun z => e z.1)]
    exact ⟨by decide, rfl, rfl⟩
theorem wp_listed (hB : Base t W w) : Rd f_X8_listedSlips w (nI (sm (liN w) (ln w))) := by
  obtain ⟨n1, n2, n3, n4⟩ := hB.s.g hB.o.1
  have hW := hB.o.1
  unfold f_X8_listedSlips
  refine wp_fix2 (fun n u v w' => ∃ i, i ≤ ln w ∧ n = ln w - i ∧ v = nI i ∧ u = nI (sm (liN w) i) ∧ w' = w) (fun n u v w' self hI hs => ?_) FU (ln w) _ 0 w (by have := FU_big; omega) ⟨0, by omega, by omega, rfl, rfl, rfl⟩
  obtain ⟨i, i1, i2, rfl, rfl, rfl⟩ := hI
  unfold f_X8_listedSlips_4 f_X8_listedSlips_77 f_X8_listedSlips_79
  rw [wp_rI, n2]
  by_cases hi : ln w' ≤ i
  · rw [if_pos (nI_le hi (by omega)), wp_rt, show i = ln w' by omega]
    exact ⟨rfl, rfl⟩
  · obtain ⟨h1, h2, h3, h4, h5, h6, h7, h8, h9⟩ := n4 i (by omega)
    have go : ∀ u, u = liN w' i → wp (self (nI (sm (liN w') i) + nI u) (nI i + 1)) w' (fun r w'' => r = nI (sm (liN w') (ln w')) ∧ w'' = w') := fun u hu => by
      rw [nI_add, ad1]
      exact hs (ln w' - (i + 1)) _ _ _ (by omega) ⟨i + 1, by omega, rfl, rfl, by rw [hu]; rfl, rfl⟩
    have z : nI (sm (liN w') i) = nI (sm (liN w') i) + nI 0 := (nI_add _ 0).symm
    rw [if_neg (nI_ge (by omega) (by omega)), wp_bnd, (rd_suchSlip hB (by omega)).wp]
    by_cases hS : Su w' i
    · obtain ⟨s1, s2, s3, s4⟩ := hB.v.g hW h1
      obtain ⟨r1, r2, r3⟩ := s4 _ hS.1
      rw [if_pos hS, if_neg (by decide), wp_aIn (by omega) (by omega), h4, wp_gdn h1 (by omega), cl_nI (by omega), wp_aIn (by omega) (by omega), h6, wp_aIn (by omega) (by omega), show gi w' (21 + 1 + lv w' i) (lp w' i) = nI (vw w' (lv w' i) (lp w' i)) from by rw [← r2], wp_tongue hB.r, wp_aIn (by omega) (by omega), h8, wp_bnd, (rd_alike hB.o r1 h3).wp]
      by_cases hA : wf w' (vw w' (lv w' i) (lp w' i)) = wf w' (lx w' i) ∧ wb w' (vw w' (lv w' i) (lp w' i)) = wb w' (lx w' i)
      · rw [if_pos hA, if_neg (by decide), wp_nm]
        exact go 0 (by unfold liN; rw [if_neg (fun q => q.2 hA)])
      · rw [if_neg hA, if_pos rfl, wp_nm]
        exact go 1 (by unfold liN; rw [if_pos ⟨hS, hA⟩])
    · rw [if_neg hS, if_pos rfl, z]
      exact go 0 (by unfold liN; rw [if_neg (fun q => hS q.1)])
end SLIPS
