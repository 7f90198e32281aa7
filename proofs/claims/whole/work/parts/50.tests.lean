/-! tests of numbers on both sides; Inv with one part new -/
theorem lgc_lt {x y : Int64} : lg_cmp x y < 0 ↔ x.toInt < y.toInt := by
  rw [lg_cmp_lt, Int64.lt_iff_toInt_lt]
theorem lgc_gt {x y : Int64} : 0 < lg_cmp x y ↔ y.toInt < x.toInt := by
  rw [lg_cmp_gt, Int64.lt_iff_toInt_lt]
theorem mIn {a lo hi : Int64} {w : Wd} : f_X9_in a lo hi w = some (if lo.toInt ≤ a.toInt ∧ a.toInt ≤ hi.toInt then 1 else 0, w) := by
  unfold f_X9_in
  by_cases h1 : a.toInt < lo.toInt
  · rw [if_pos (lgc_lt.mpr h1), if_neg (by omega)]; rfl
  · rw [if_neg (fun h => h1 (lgc_lt.mp h))]
    by_cases h2 : hi.toInt < a.toInt
    · rw [if_pos (lgc_gt.mpr h2), if_neg (by omega)]; rfl
    · rw [if_neg (fun h => h2 (lgc_gt.mp h)), if_pos (by omega)]; rfl
theorem i2l_toInt (x : Int32) : x.toInt64.toInt = x.toInt := Int32.toInt_toInt64 x
section TST
variable {w : Wd} {R : Type} {Q : Int32 → Wd → Prop} {x : Int32} {j n : Nat}
theorem wp_bel (h : j < n) (hn : n < 2 ^ 31) : wp (f_X8_isBelow (nI j) (nI n)) w Q ↔ Q 1 w := wp_of (isBelow_in h hn)
theorem wp_beo (h : x < 0 ∨ nI n ≤ x) : wp (f_X8_isBelow x (nI n)) w Q ↔ Q 0 w := wp_of (isBelow_out h)
theorem out_toInt (h : x < 0 ∨ nI n ≤ x) (hn : n < 2 ^ 31) : x.toInt < 0 ∨ (n : Int) ≤ x.toInt := by
  rcases h with h | h
  · left
    have := Int32.lt_iff_toInt_lt.mp h
    simpa using this
  · right
    have := Int32.le_iff_toInt_le.mp h
    rw [nI_toInt hn] at this
    exact this
theorem wp_in {a lo hi : Int64} (h : lo.toInt ≤ a.toInt ∧ a.toInt ≤ hi.toInt) : wp (f_X9_in a lo hi) w Q ↔ Q 1 w := wp_of (by rw [mIn, if_pos h])
theorem wp_ino {a lo hi : Int64} (h : a.toInt < lo.toInt ∨ hi.toInt < a.toInt) : wp (f_X9_in a lo hi) w Q ↔ Q 0 w := wp_of (by rw [mIn, if_neg (by omega)])
theorem wp_ver (h : j < 6) : wp (f_X9_isVerse (nI j)) w Q ↔ Q 1 w := by
  unfold f_X9_isVerse
  rw [wp_bnd, wp_in (by rw [i2l_toInt, nI_toInt (by omega)]; exact ⟨by show (0 : Int) ≤ j; omega, by show (j : Int) ≤ 5; omega⟩), wp_gd, wp_rt]
  simp
theorem wp_vero (h : x < 0 ∨ nI 6 ≤ x) : wp (f_X9_isVerse x) w Q ↔ Q 0 w := by
  unfold f_X9_isVerse
  have h2 := out_toInt h (by omega)
  rw [wp_bnd, wp_ino (by rw [i2l_toInt]; exact h2.imp (fun z => by show x.toInt < 0; omega) (fun z => by show (5 : Int) < x.toInt; omega)), wp_gd, wp_rt]
  simp
theorem wp_edg (h : j < 8) : wp (f_X9_isEdge (nI j)) w Q ↔ Q 1 w := by
  unfold f_X9_isEdge
  rw [wp_bnd, wp_in (by rw [i2l_toInt, nI_toInt (by omega)]; exact ⟨by show (0 : Int) ≤ j; omega, by show (j : Int) ≤ 7; omega⟩), wp_gd, wp_rt]
  simp
theorem wp_edgo (h : x < 0 ∨ nI 8 ≤ x) : wp (f_X9_isEdge x) w Q ↔ Q 0 w := by
  unfold f_X9_isEdge
  have h2 := out_toInt h (by omega)
  rw [wp_bnd, wp_ino (by rw [i2l_toInt]; exact h2.imp (fun z => by show x.toInt < 0; omega) (fun z => by show (7 : Int) < x.toInt; omega)), wp_gd, wp_rt]
  simp
theorem wp_pla (h : j < 8) : wp (f_X9_isPlace (nI j)) w Q ↔ Q 1 w := by
  unfold f_X9_isPlace
  rw [wp_bnd, wp_in (by rw [i2l_toInt, nI_toInt (by omega)]; exact ⟨by show (0 : Int) ≤ j; omega, by show (j : Int) ≤ 7; omega⟩), wp_gd, wp_rt]
  simp
theorem wp_plao (h : x < 0 ∨ nI 8 ≤ x) : wp (f_X9_isPlace x) w Q ↔ Q 0 w := by
  unfold f_X9_isPlace
  have h2 := out_toInt h (by omega)
  rw [wp_bnd, wp_ino (by rw [i2l_toInt]; exact h2.imp (fun z => by show x.toInt < 0; omega) (fun z => by show (7 : Int) < x.toInt; omega)), wp_gd, wp_rt]
  simp
theorem wp_way (h : j < 5) : wp (f_X9_isWay (nI j)) w Q ↔ Q 1 w := by
  unfold f_X9_isWay
  rw [wp_bnd, wp_in (by rw [i2l_toInt, nI_toInt (by omega)]; exact ⟨by show (0 : Int) ≤ j; omega, by show (j : Int) ≤ 4; omega⟩), wp_gd, wp_rt]
  simp
theorem wp_wayo (h : x < 0 ∨ nI 5 ≤ x) : wp (f_X9_isWay x) w Q ↔ Q 0 w := by
  unfold f_X9_isWay
  have h2 := out_toInt h (by omega)
  rw [wp_bnd, wp_ino (by rw [i2l_toInt]; exact h2.imp (fun z => by show x.toInt < 0; omega) (fun z => by show (4 : Int) < x.toInt; omega)), wp_gd, wp_rt]
  simp
theorem m1_toInt (hn : n < 2 ^ 30) : ((nI n - 1 : Int32).toInt64).toInt = (n : Int) - 1 := by
  rw [i2l_toInt]
  exact pk_sub_toInt (a := n) (b := 1) hn (by omega)
theorem wp_wor {W : Nat} (hW : gi w 163 0 = nI W) (hb : W ≤ 16) (h : j < W) : wp (f_X9_isWord (nI j)) w Q ↔ Q 1 w := by
  unfold f_X9_isWord
  rw [wp_aI]
  show (inb (nI 0) 2 ∧ _) ↔ _
  rw [show (0 : Int32).toNatClampNeg = 0 from rfl, hW, wp_bnd, wp_in (by rw [i2l_toInt, nI_toInt (by omega), m1_toInt (by omega)]; exact ⟨by show (0 : Int) ≤ j; omega, by omega⟩), wp_gd, wp_rt]
  simp
  intro _
  decide
theorem wp_woro {W : Nat} (hW : gi w 163 0 = nI W) (hb : W ≤ 16) (h : x < 0 ∨ nI W ≤ x) : wp (f_X9_isWord x) w Q ↔ Q 0 w := by
  unfold f_X9_isWord
  have h2 := out_toInt h (by omega)
  rw [wp_aI]
  show (inb (nI 0) 2 ∧ _) ↔ _
  rw [show (0 : Int32).toNatClampNeg = 0 from rfl, hW, wp_bnd, wp_ino (by rw [i2l_toInt, m1_toInt (by omega)]; exact h2.imp (fun z => by show x.toInt < 0; omega) (fun z => by omega)), wp_gd, wp_rt]
  simp
  intro _
  decide
end TST
theorem inb_iff {n N : Nat} (hn : n < 2 ^ 31) : inb (nI n) N ↔ n < N := by
  rw [inb, cl_nI hn]
  constructor
  · intro h; omega
  · intro h; exact fun z => z.elim (fun z => nI_pos hn z) (fun z => by omega)
section WPN
variable {R : Type} {w : Wd} {Q : R → Wd → Prop} {q n N : Nat}
theorem wp_aIn {K : Int32 → M R} (h : n < N) (hN : N < 2 ^ 31) : wp (aI q N (nI n) K) w Q ↔ wp (K (gi w q n)) w Q := by
  rw [wp_aI, inb_iff (by omega), cl_nI (by omega)]
  exact ⟨fun z => z.2, fun z => ⟨h, z⟩⟩
theorem wp_aLn {K : Int64 → M R} (h : n < N) (hN : N < 2 ^ 31) : wp (aL q N (nI n) K) w Q ↔ wp (K (gl w q n)) w Q := by
  rw [wp_aL, inb_iff (by omega), cl_nI (by omega)]
  exact ⟨fun z => z.2, fun z => ⟨h, z⟩⟩
theorem wp_sIn {K : M R} {v : Int32} (h : n < N) (hN : N < 2 ^ 31) : wp (sI q N (nI n) v K) w Q ↔ wp K (si w q n v) Q := by
  rw [wp_sI, inb_iff (by omega), cl_nI (by omega)]
  exact ⟨fun z => z.2, fun z => ⟨h, z⟩⟩
theorem wp_sLn {K : M R} {v : Int64} (h : n < N) (hN : N < 2 ^ 31) : wp (sL q N (nI n) v K) w Q ↔ wp K (sl w q n v) Q := by
  rw [wp_sL, inb_iff (by omega), cl_nI (by omega)]
  exact ⟨fun z => z.2, fun z => ⟨h, z⟩⟩
theorem wp_gdn {K : M R} (h : n < N) (hN : N < 2 ^ 31) : wp (gd (inb (nI n) N) K) w Q ↔ wp K w Q := by
  rw [wp_gd]
  exact ⟨fun z => z.2, fun z => ⟨inb_nI h hN, z⟩⟩
theorem wp_a0 {K : Int32 → M R} (h : 0 < N) (hN : N < 2 ^ 31) : wp (aI q N 0 K) w Q ↔ wp (K (gi w q 0)) w Q := wp_aIn (n := 0) h hN
end WPN
-- compares with a number that stands in the code
section LIT
variable {a : Nat}
theorem lt_l (n : Nat) (h : a < n) (hn : n < 2 ^ 31) : nI a < (@OfNat.ofNat Int32 n Int32.instOfNat) := nI_lt h hn
theorem nlt_l (n : Nat) (h : n ≤ a) (hn : a < 2 ^ 31) : ¬ nI a < (@OfNat.ofNat Int32 n Int32.instOfNat) := nI_nlt h hn
theorem le_l (n : Nat) (h : a ≤ n) (hn : n < 2 ^ 31) : nI a ≤ (@OfNat.ofNat Int32 n Int32.instOfNat) := nI_le h hn
theorem nle_l (n : Nat) (h : n < a) (hn : a < 2 ^ 31) : ¬ nI a ≤ (@OfNat.ofNat Int32 n Int32.instOfNat) := nI_ge h hn
theorem ge_l (n : Nat) (h : n ≤ a) (hn : a < 2 ^ 31) : (@OfNat.ofNat Int32 n Int32.instOfNat) ≤ nI a := nI_le h hn
theorem nge_l (n : Nat) (h : a < n) (hn : n < 2 ^ 31) : ¬ (@OfNat.ofNat Int32 n Int32.instOfNat) ≤ nI a := nI_ge h hn
theorem gt_l (n : Nat) (h : n < a) (hn : a < 2 ^ 31) : (@OfNat.ofNat Int32 n Int32.instOfNat) < nI a := nI_lt h hn
theorem ngt_l (n : Nat) (h : a ≤ n) (hn : n < 2 ^ 31) : ¬ (@OfNat.ofNat Int32 n Int32.instOfNat) < nI a := nI_nlt h hn
theorem eq_l (n : Nat) (h : a = n) : nI a = (@OfNat.ofNat Int32 n Int32.instOfNat) := by rw [h]; rfl
theorem ne_l (n : Nat) (h : a ≠ n) (ha : a < 2 ^ 31) (hn : n < 2 ^ 31) : ¬ nI a = (@OfNat.ofNat Int32 n Int32.instOfNat) := fun e => h ((nI_eq ha hn).mp e)
end LIT
theorem mul_nI (a : Nat) (b : Nat) : (@OfNat.ofNat Int32 a Int32.instOfNat) * nI b = nI (a * b) := pk_mul a b
theorem ad1 (a : Nat) : nI a + 1 = nI (a + 1) := nI_add a 1
theorem ad2 (a : Nat) : nI a + 2 = nI (a + 2) := nI_add a 2
theorem ad3 (a : Nat) : nI a + 3 = nI (a + 3) := nI_add a 3
theorem mu3 (a : Nat) : 3 * nI a = nI (3 * a) := pk_mul 3 a
theorem mu4 (a : Nat) : 4 * nI a = nI (4 * a) := pk_mul 4 a
theorem mu8 (a : Nat) : 8 * nI a = nI (8 * a) := pk_mul 8 a
theorem sb1 (a : Nat) : nI (a + 1) - 1 = nI a := nI_pred a
theorem add_nI (a : Nat) (b : Nat) : nI a + (@OfNat.ofNat Int32 b Int32.instOfNat) = nI (a + b) := nI_add a b
-- Inv with one part new
theorem Eqo.rf {P : Nat → Nat → Prop} {w : Wd} : Eqo P w w := fun _ _ _ => rfl
theorem Eqo.si {P : Nat → Nat → Prop} {w w1 : Wd} {a b : Nat} {v : Int32} (e : Eqo P w w1) (h : ¬ P a b) : Eqo P w (si w1 a b v) := by
  intro q k hc
  rw [gi_si, if_neg (by rintro ⟨rfl, rfl⟩; exact h hc)]
  exact e q k hc
theorem Eqo.tr {P : Nat → Nat → Prop} {w w1 w2 : Wd} (e : Eqo P w w1) (f : Eqo P w1 w2) : Eqo P w w2 := fun q k hc => (f q k hc).trans (e q k hc)
theorem Eqo.sub {P P' : Nat → Nat → Prop} {w w1 : Wd} (e : Eqo P w w1) (h : ∀ q k, P' q k → P q k) : Eqo P' w w1 := fun q k hc => e q k (h q k hc)
def oTxt (t q k : Nat) : Prop := cTon t q k ∨ cBk q k ∨ cSl q k ∨ cHd q k ∨ (q = 148 ∧ k = 0)
def oBk (t q k : Nat) : Prop := cTxt q k ∨ cTon t q k ∨ cSl q k ∨ cHd q k ∨ (q = 148 ∧ k = 0)
def oSl (t q k : Nat) : Prop := cTxt q k ∨ cTon t q k ∨ cBk q k ∨ cHd q k ∨ (q = 148 ∧ k = 0)
def oHd (t q k : Nat) : Prop := cTxt q k ∨ cTon t q k ∨ cBk q k ∨ cSl q k ∨ (q = 148 ∧ k = 0)
section INV
variable {t W : Nat} {w w' : Wd} (hR : IRef t w) (h1 : ITxt w) (h2 : ITon t W w) (h3 : IJoin t W w) (h4 : IVs W 0 w) (h5 : ISy W 0 w) (h6 : IKp W w) (h7 : ISl W w) (h8 : IHd w)
theorem IRef.to (hR : IRef t w) (hr : gr w' = gr w) (e : gi w' 148 0 = gi w 148 0) : IRef t w' := by
  obtain ⟨a, b, c, d, f⟩ := hR
  exact ⟨a, by rw [hr]; exact b, by rw [hr]; exact c, by rw [hr]; exact d, e.trans f⟩
theorem inv_txt (hR : IRef t w) (h2 : ITon t W w) (h3 : IJoin t W w) (h4 : IVs W 0 w) (h5 : ISy W 0 w) (h6 : IKp W w) (h7 : ISl W w) (h8 : IHd w) (hr : gr w' = gr w) (e : Eqo (oTxt t) w w') (h : ITxt w') : Inv w' := by
  have eT : Eqo (cTon t) w w' := e.sub (fun q k hc => Or.inl hc)
  have eB : Eqo cBk w w' := e.sub (fun q k hc => Or.inr (Or.inl hc))
  exact ⟨t, W, hR.to hr (e 148 0 (by unfold oTxt; omega)), h, h2.to eT, h3.to h2 eT, h4.to (by omega) eB, h5.to (by omega) eB, h6.to eB, h7.to (e.sub (fun q k hc => Or.inr (Or.inr (Or.inl hc)))), h8.to (e.sub (fun q k hc => Or.inr (Or.inr (Or.inr (Or.inl hc)))))⟩
theorem inv_bk (hR : IRef t w) (h1 : ITxt w) (h2 : ITon t W w) (h3 : IJoin t W w) (h7 : ISl W w) (h8 : IHd w) (hr : gr w' = gr w) (e : Eqo (oBk t) w w') (h4 : IVs W 0 w') (h5 : ISy W 0 w') (h6 : IKp W w') : Inv w' := by
  have eT : Eqo (cTon t) w w' := e.sub (fun q k hc => Or.inr (Or.inl hc))
  exact ⟨t, W, hR.to hr (e 148 0 (by unfold oBk; omega)), h1.to (e.sub (fun q k hc => Or.inl hc)), h2.to eT, h3.to h2 eT, h4, h5, h6, h7.to (e.sub (fun q k hc => Or.inr (Or.inr (Or.inl hc)))), h8.to (e.sub (fun q k hc => Or.inr (Or.inr (Or.inr (Or.inl hc)))))⟩
theorem inv_sl (hR : IRef t w) (h1 : ITxt w) (h2 : ITon t W w) (h3 : IJoin t W w) (h4 : IVs W 0 w) (h5 : ISy W 0 w) (h6 : IKp W w) (h8 : IHd w) (hr : gr w' = gr w) (e : Eqo (oSl t) w w') (h7 : ISl W w') : Inv w' := by
  have eT : Eqo (cTon t) w w' := e.sub (fun q k hc => Or.inr (Or.inl hc))
  have eB : Eqo cBk w w' := e.sub (fun q k hc => Or.inr (Or.inr (Or.inl hc)))
  exact ⟨t, W, hR.to hr (e 148 0 (by unfold oSl; omega)), h1.to (e.sub (fun q k hc => Or.inl hc)), h2.to eT, h3.to h2 eT, h4.to (by omega) eB, h5.to (by omega) eB, h6.to eB, h7, h8.to (e.sub (fun q k hc => Or.inr (Or.inr (Or.inr (Or.inl hc)))))⟩
theorem inv_hd (hR : IRef t w) (h1 : ITxt w) (h2 : ITon t W w) (h3 : IJoin t W w) (h4 : IVs W 0 w) (h5 : ISy W 0 w) (h6 : IKp W w) (h7 : ISl W w) (hr : gr w' = gr w) (e : Eqo (oHd t) w w') (h8 : IHd w') : Inv w' := by
  have eT : Eqo (cTon t) w w' := e.sub (fun q k hc => Or.inr (Or.inl hc))
  have eB : Eqo cBk w w' := e.sub (fun q k hc => Or.inr (Or.inr (Or.inl hc)))
  exact ⟨t, W, hR.to hr (e 148 0 (by unfold oHd; omega)), h1.to (e.sub (fun q k hc => Or.inl hc)), h2.to eT, h3.to h2 eT, h4.to (by omega) eB, h5.to (by omega) eB, h6.to eB, h7.to (e.sub (fun q k hc => Or.inr (Or.inr (Or.inr (Or.inl hc))))), h8⟩
end INV
-- verses, saying, what is kept: apart
def cV0 (q k : Nat) : Prop := (22 ≤ q ∧ q ≤ 28) ∨ (q = 167 ∧ k < 6) ∨ (q = 168 ∧ k < 48)
def cS0 (q k : Nat) : Prop := q = 20 ∨ q = 29 ∨ (q = 169 ∧ k = 0) ∨ (q = 170 ∧ k = 0) ∨ (q = 171 ∧ k = 0) ∨ (q = 172 ∧ k < 84)
def cK (q k : Nat) : Prop := (30 ≤ q ∧ q ≤ 49) ∨ (q = 0 ∧ k = 6) ∨ (q = 161 ∧ k = 12) ∨ (q = 167 ∧ 6 ≤ k) ∨ (q = 168 ∧ 48 ≤ k) ∨ (q = 169 ∧ 1 ≤ k) ∨ (q = 170 ∧ 1 ≤ k) ∨ (q = 171 ∧ 1 ≤ k) ∨ (q = 172 ∧ 84 ≤ k)
def oP (C : Nat → Nat → Prop) (t q k : Nat) : Prop := core t q k ∧ ¬ C q k
section INW
variable {t W c : Nat} {w w' : Wd}
theorem IVs.to0 (h : IVs W 0 w) (e : Eqo cV0 w w') : IVs W 0 w' := by
  intro v hv
  obtain ⟨s, h1, h2, h3, h4⟩ := h v hv
  refine ⟨s, h1, ?_, ?_, fun p hp => ?_⟩
  · rw [e _ v (by unfold cV0; omega)]; exact h2
  · rw [e 167 _ (by unfold cV0; omega)]; exact h3
  · rw [e _ p (by unfold cV0; omega), e 168 _ (by unfold cV0; omega)]; exact h4 p hp
theorem ISy.to0 (h : ISy W 0 w) (e : Eqo cS0 w w') : ISy W 0 w' := by
  obtain ⟨n, h1, h2, h3, h4⟩ := h
  refine ⟨n, h1, ?_, ?_, fun h0 => ?_⟩
  · rw [e _ 3 (by unfold cS0; omega)]; exact h2
  · rw [e 169 _ (by unfold cS0; omega)]; exact h3
  · obtain ⟨hW, y, m, g1, g2, g3, g4, g5, g6, g7, g8, g9⟩ := h4 h0
    refine ⟨hW, y, m, g1, g2, g3, g4, ?_, ?_, ?_, ?_, fun z hz => ?_⟩
    · rw [e _ 4 (by unfold cS0; omega)]; exact g5
    · rw [e 170 _ (by unfold cS0; omega)]; exact g6
    · rw [e _ 5 (by unfold cS0; omega)]; exact g7
    · rw [e 171 _ (by unfold cS0; omega)]; exact g8
    · rw [e _ z (by unfold cS0; omega), e 172 _ (by unfold cS0; omega)]; exact g9 z hz
theorem IVs.toK (h : IVs W c w) (h1 : 1 ≤ c) (hc : c ≤ 2) (e : Eqo cK w w') : IVs W c w' := by
  intro v hv
  obtain ⟨s, h1, h2, h3, h4⟩ := h v hv
  refine ⟨s, h1, ?_, ?_, fun p hp => ?_⟩
  · rw [e _ v (by unfold cK; omega)]; exact h2
  · rw [e 167 _ (by unfold cK; omega)]; exact h3
  · rw [e _ p (by unfold cK; omega), e 168 _ (by unfold cK; omega)]; exact h4 p hp
theorem ISy.toK (h : ISy W c w) (h1 : 1 ≤ c) (hc : c ≤ 2) (e : Eqo cK w w') : ISy W c w' := by
  obtain ⟨n, h1, h2, h3, h4⟩ := h
  refine ⟨n, h1, ?_, ?_, fun h0 => ?_⟩
  · rw [e _ 3 (by unfold cK; omega)]; exact h2
  · rw [e 169 _ (by unfold cK; omega)]; exact h3
  · obtain ⟨hW, y, m, g1, g2, g3, g4, g5, g6, g7, g8, g9⟩ := h4 h0
    refine ⟨hW, y, m, g1, g2, g3, g4, ?_, ?_, ?_, ?_, fun z hz => ?_⟩
    · rw [e _ 4 (by unfold cK; omega)]; exact g5
    · rw [e 170 _ (by unfold cK; omega)]; exact g6
    · rw [e _ 5 (by unfold cK; omega)]; exact g7
    · rw [e 171 _ (by unfold cK; omega)]; exact g8
    · rw [e _ z (by unfold cK; omega), e 172 _ (by unfold cK; omega)]; exact g9 z hz
theorem IKp.toK (h : IKp W w) (e : Eqo cK w w') : IKp W w' := by
  obtain ⟨kc, h1, h2, h3, h4⟩ := h
  refine ⟨kc, h1, ?_, ?_, fun c hc1 hc2 => ?_⟩
  · rw [e 0 6 (by unfold cK; omega)]; exact h2
  · rw [e 161 12 (by unfold cK; omega)]; exact h3
  · exact ⟨(h4 c hc1 hc2).1.toK hc1 (by omega) e, (h4 c hc1 hc2).2.toK hc1 (by omega) e⟩
/-- a part of the book is new -/
theorem inv_book (C : Nat → Nat → Prop) (hC : ∀ q k, C q k → cBk q k) (hR : IRef t w) (h1 : ITxt w) (h2 : ITon t W w) (h3 : IJoin t W w) (h7 : ISl W w) (h8 : IHd w) (hr : gr w' = gr w) (e : Eqo (oP C t) w w') (h4 : IVs W 0 w') (h5 : ISy W 0 w') (h6 : IKp W w') : Inv w' := by
  have ht := hR.1
  refine inv_bk hR h1 h2 h3 h7 h8 hr (e.sub fun q k hc => ⟨?_, fun hz => ?_⟩) h4 h5 h6
  · unfold oBk at hc; unfold core; rcases hc with h | h | h | h | h
    · exact Or.inl h
    · exact Or.inr (Or.inl h)
    · exact Or.inr (Or.inr (Or.inr (Or.inl h)))
    · exact Or.inr (Or.inr (Or.inr (Or.inr (Or.inl h))))
    · exact Or.inr (Or.inr (Or.inr (Or.inr (Or.inr h))))
  · have := hC q k hz
    unfold oBk cTxt cTon cSl cHd at hc
    unfold cBk at this
    omega
theorem inv_v (hR : IRef t w) (h1 : ITxt w) (h2 : ITon t W w) (h3 : IJoin t W w) (h5 : ISy W 0 w) (h6 : IKp W w) (h7 : ISl W w) (h8 : IHd w) (hr : gr w' = gr w) (e : Eqo (oP cV0 t) w w') (h4 : IVs W 0 w') : Inv w' :=
  inv_book cV0 (fun q k h => by unfold cV0 at h; unfold cBk; omega) hR h1 h2 h3 h7 h8 hr e h4
    (h5.to0 (e.sub fun q k h => ⟨by unfold core cBk; unfold cS0 at h; omega, by unfold cV0; unfold cS0 at h; omega⟩))
    (h6.toK (e.sub fun q k h => ⟨by unfold core cBk; unfold cK at h; omega, by unfold cV0; unfold cK at h; omega⟩))
theorem inv_s (hR : IRef t w) (h1 : ITxt w) (h2 : ITon t W w) (h3 : IJoin t W w) (h4 : IVs W 0 w) (h6 : IKp W w) (h7 : ISl W w) (h8 : IHd w) (hr : gr w' = gr w) (e : Eqo (oP cS0 t) w w') (h5 : ISy W 0 w') : Inv w' :=
  inv_book cS0 (fun q k h => by unfold cS0 at h; unfold cBk; omega) hR h1 h2 h3 h7 h8 hr e
    (h4.to0 (e.sub fun q k h => ⟨by unfold core cBk; unfold cV0 at h; omega, by unfold cS0; unfold cV0 at h; omega⟩)) h5
    (h6.toK (e.sub fun q k h => ⟨by unfold core cBk; unfold cK at h; omega, by unfold cS0; unfold cK at h; omega⟩))
end INW
