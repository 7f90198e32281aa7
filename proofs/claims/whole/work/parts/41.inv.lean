/-! WHAT HOLDS BETWEEN CALLS: the class's cells and the reference's tell the same -/
def gp (s : Nat) : List Nat → List (Nat × Bool)
  | [] => []
  | p :: ps => (s + p, true) :: ps.map (fun x => (s + x, false))
/-- the places that a way goes through, and where its groups begin -/
def CL (y m : Nat) : List (Nat × Bool) :=
  if m = 1 ∨ y = 0 then gp 0 (List.range m)
  else if y = 1 then (List.range m).flatMap (fun s => gp s [0])
  else if y = 2 then (List.range (m - 1)).flatMap (fun s => gp s [0, 1])
  else if y = 3 then (List.range (m - 1)).flatMap (fun s => gp s [0, 1, 1, 0, 0, 1])
  else (List.range (m - 2)).flatMap (fun s => gp s [0, 1, 1, 0, 0, 1, 2, 2, 1, 0, 0, 1, 2]) ++ gp (m - 2) [0, 1, 1, 0, 0, 1]
def clen (y m : Nat) : Nat := (CL y m).length
theorem clen_le : ∀ y, y < 5 → ∀ m, m < 9 → clen y m ≤ 84 := by decide +kernel
theorem clen_pos : ∀ y, y < 5 → ∀ m, m < 9 → 0 < m → 0 < clen y m := by decide +kernel
/-- a number below b -/
def rg (w : Wd) (q k b : Nat) : Prop := ∃ n, n < b ∧ gi w q k = nI n
def ITxt (w : Wd) : Prop := ∃ n, n ≤ 300 ∧ gi w 1 1 = nI n ∧ gi w 161 0 = nI n ∧ ∀ k, k < n → ∃ c, c < 256 ∧ gi w 162 k = nI c ∧ gi w 2 k = (nI c).toInt8.toInt32
/-- the words: first edge, body, last edge; what joins become -/
def wf (w : Wd) (i : Nat) : Nat := (gi w 164 (3 * i)).toNatClampNeg
def wb (w : Wd) (i : Nat) : Nat := (gi w 164 (3 * i + 1)).toNatClampNeg
def wl (w : Wd) (i : Nat) : Nat := (gi w 164 (3 * i + 2)).toNatClampNeg
def jn (w : Wd) (a b : Nat) : Nat := (gi w 165 (8 * a + b)).toNatClampNeg
def ITon (t W : Nat) (w : Wd) : Prop := W ≤ 16 ∧ gi w t 0 = nI W ∧ gi w 163 0 = nI W ∧
  (∀ i, i < W → gi w (t + 1) i = gi w 164 (3 * i) ∧ gi w (t + 2) i = gi w 164 (3 * i + 1) ∧ gi w (t + 3) i = gi w 164 (3 * i + 2) ∧ rg w 164 (3 * i) 8 ∧ rg w 164 (3 * i + 1) 16 ∧ rg w 164 (3 * i + 2) 8) ∧
  (∀ k, k < 64 → gi w (t + 4) k = gi w 165 k ∧ rg w 165 k 64) ∧ (∀ k, k < 5 → gi w (t + 5) k = gi w 166 k ∧ rg w 166 k 100)
def IJoin (t W : Nat) (w : Wd) : Prop := (∀ i, i < W → gi w (t + 6) (272 + i) = nI (128 * wf w i + 8 * wb w i) ∧ gi w (t + 7) (272 + i) = nI (wl w i)) ∧
  ∀ i o, i < W → o < W → gi w (t + 6) (17 * o + i) = nI (128 * (jn w (wl w o) (wf w i) % 8) + 8 * wb w i) ∧ gi w (t + 7) (17 * o + i) = nI (jn w (wl w i) (wf w o) / 8)
def IVs (W c : Nat) (w : Wd) : Prop := ∀ v, v < 6 → ∃ s, s ≤ 8 ∧ gi w (28 + 10 * c) v = nI s ∧ gi w 167 (6 * c + v) = nI s ∧ ∀ p, p < s → ∃ x, x < W ∧ gi w (22 + 10 * c + v) p = nI x ∧ gi w 168 (48 * c + 8 * v + p) = nI x
def ISy (W c : Nat) (w : Wd) : Prop := ∃ n, n ≤ 84 ∧ gi w (20 + 10 * c) 3 = nI n ∧ gi w 169 c = nI n ∧ (n ≠ 0 → 0 < W ∧ ∃ y m, y < 5 ∧ 1 ≤ m ∧ m ≤ 8 ∧ n = clen y m ∧ gi w (20 + 10 * c) 4 = nI y ∧ gi w 170 c = nI y ∧ gi w (20 + 10 * c) 5 = nI m ∧ gi w 171 c = nI m ∧ ∀ t, t < n → ∃ k, k < 1024 ∧ gi w (29 + 10 * c) t = nI k ∧ gi w 172 (84 * c + t) = nI k)
def IKp (W : Nat) (w : Wd) : Prop := ∃ kc, kc ≤ 2 ∧ gi w 0 6 = nI kc ∧ gi w 161 12 = nI kc ∧ ∀ c, 1 ≤ c → c ≤ kc → IVs W c w ∧ ISy W c w
def ISl (W : Nat) (w : Wd) : Prop := ∃ n, n ≤ 20 ∧ gi w 149 0 = nI n ∧ gi w 161 13 = nI n ∧ ∀ i, i < n → ∃ v p x, v < 6 ∧ p < 8 ∧ x < W ∧ gi w 150 i = nI v ∧ gi w 173 (3 * i) = nI v ∧ gi w 151 i = nI p ∧ gi w 173 (3 * i + 1) = nI p ∧ gi w 152 i = nI x ∧ gi w 173 (3 * i + 2) = nI x
/-- the line of a head: itself and those above it, as bits -/
def IHd (w : Wd) : Prop := ∃ n, n ≤ 16 ∧ gi w 154 0 = nI n ∧ gi w 161 15 = nI n ∧ ∀ h, h < n → ∃ y v a b l, y ≤ 3000 ∧ v < 6 ∧ a < 2 ∧ b ≤ h ∧ l < 2 ^ (h + 1) ∧ gi w 156 h = nI y ∧ gi w 174 (4 * h) = nI y ∧ gi w 157 h = nI v ∧ gi w 174 (4 * h + 2) = nI v ∧ gi w 155 h = nI a ∧ gi w 174 (4 * h + 3) = nI a ∧ gi w 174 (4 * h + 1) = nI b - 1 ∧ gi w 158 h = nI l ∧ (b = 0 → l = 2 ^ h) ∧ (0 < b → ∃ l', gi w 158 (b - 1) = nI l' ∧ l' < 2 ^ b ∧ l = 2 ^ h + l')
def IRef (t : Nat) (w : Wd) : Prop := isT t ∧ gr w 0 1 = t + 1 ∧ gr w 0 2 = 17 - t ∧ (gr w 73 0 = 5 ∨ gr w 73 0 = 13) ∧ gi w 148 0 = 16
def Inv (w : Wd) : Prop := ∃ t W, IRef t w ∧ ITxt w ∧ ITon t W w ∧ IJoin t W w ∧ IVs W 0 w ∧ ISy W 0 w ∧ IKp W w ∧ ISl W w ∧ IHd w
-- each part speaks of its own cells
def cTxt (q k : Nat) : Prop := (q = 1 ∧ k = 1) ∨ q = 2 ∨ (q = 161 ∧ k = 0) ∨ q = 162
def cTon (t q k : Nat) : Prop := (t ≤ q ∧ q ≤ t + 7) ∨ (q = 163 ∧ k = 0) ∨ (q = 164 ∧ k < 48) ∨ (q = 165 ∧ k < 64) ∨ (q = 166 ∧ k < 5)
def cBk (q k : Nat) : Prop := (20 ≤ q ∧ q ≤ 49) ∨ (q = 0 ∧ k = 6) ∨ (167 ≤ q ∧ q ≤ 172) ∨ (q = 161 ∧ k = 12)
def cSl (q k : Nat) : Prop := (149 ≤ q ∧ q ≤ 152) ∨ (q = 161 ∧ k = 13) ∨ q = 173
def cHd (q k : Nat) : Prop := (154 ≤ q ∧ q ≤ 158) ∨ (q = 161 ∧ k = 15) ∨ q = 174
def Eqo (P : Nat → Nat → Prop) (w w' : Wd) : Prop := ∀ q k, P q k → gi w' q k = gi w q k
section CGR
variable {w w' : Wd} {t W c : Nat}
theorem ITxt.to (h : ITxt w) (e : Eqo cTxt w w') : ITxt w' := by
  obtain ⟨n, h1, h2, h3, h4⟩ := h
  refine ⟨n, h1, ?_, ?_, fun k hk => ?_⟩
  · rw [e 1 1 (by unfold cTxt; omega)]; exact h2
  · rw [e 161 0 (by unfold cTxt; omega)]; exact h3
  · rw [e 162 k (by unfold cTxt; omega), e 2 k (by unfold cTxt; omega)]; exact h4 k hk
theorem rg.to {q k b : Nat} (h : rg w q k b) (e : gi w' q k = gi w q k) : rg w' q k b := by
  obtain ⟨n, h1, h2⟩ := h
  exact ⟨n, h1, by rw [e]; exact h2⟩
theorem ITon.to (h : ITon t W w) (e : Eqo (cTon t) w w') : ITon t W w' := by
  obtain ⟨h0, h1, h2, h3, h4, h5⟩ := h
  refine ⟨h0, ?_, ?_, fun i hi => ?_, fun k hk => ?_, fun k hk => ?_⟩
  · rw [e t 0 (by unfold cTon; omega)]; exact h1
  · rw [e 163 0 (by unfold cTon; omega)]; exact h2
  · obtain ⟨g1, g2, g3, g4, g5, g6⟩ := h3 i hi
    have e1 := e 164 (3 * i) (by unfold cTon; omega)
    have e2 := e 164 (3 * i + 1) (by unfold cTon; omega)
    have e3 := e 164 (3 * i + 2) (by unfold cTon; omega)
    refine ⟨?_, ?_, ?_, g4.to e1, g5.to e2, g6.to e3⟩
    · rw [e (t + 1) i (by unfold cTon; omega), e1]; exact g1
    · rw [e (t + 2) i (by unfold cTon; omega), e2]; exact g2
    · rw [e (t + 3) i (by unfold cTon; omega), e3]; exact g3
  · obtain ⟨g1, g2⟩ := h4 k hk
    have e1 := e 165 k (by unfold cTon; omega)
    exact ⟨by rw [e (t + 4) k (by unfold cTon; omega), e1]; exact g1, g2.to e1⟩
  · obtain ⟨g1, g2⟩ := h5 k hk
    have e1 := e 166 k (by unfold cTon; omega)
    exact ⟨by rw [e (t + 5) k (by unfold cTon; omega), e1]; exact g1, g2.to e1⟩
theorem ITon.fl (h : ITon t W w) {i : Nat} (hi : i < W) : gi w 164 (3 * i) = nI (wf w i) ∧ wf w i < 8 ∧ gi w 164 (3 * i + 1) = nI (wb w i) ∧ wb w i < 16 ∧ gi w 164 (3 * i + 2) = nI (wl w i) ∧ wl w i < 8 := by
  obtain ⟨-, -, -, ⟨a, a1, a2⟩, ⟨b, b1, b2⟩, ⟨c, c1, c2⟩⟩ := h.2.2.2.1 i hi
  unfold wf wb wl
  rw [a2, b2, c2, cl_nI (by omega), cl_nI (by omega), cl_nI (by omega)]
  exact ⟨rfl, a1, rfl, b1, rfl, c1⟩
theorem ITon.jl (h : ITon t W w) {a b : Nat} (ha : a < 8) (hb : b < 8) : gi w 165 (8 * a + b) = nI (jn w a b) ∧ jn w a b < 64 := by
  obtain ⟨-, n, h1, h2⟩ := h.2.2.2.2.1 (8 * a + b) (by omega)
  unfold jn
  rw [h2, cl_nI (by omega)]
  exact ⟨rfl, h1⟩
theorem wf_to {i : Nat} (e : Eqo (cTon t) w w') (hi : i < 16) : wf w' i = wf w i := by
  unfold wf
  rw [e 164 (3 * i) (by unfold cTon; omega)]
theorem wb_to {i : Nat} (e : Eqo (cTon t) w w') (hi : i < 16) : wb w' i = wb w i := by
  unfold wb
  rw [e 164 (3 * i + 1) (by unfold cTon; omega)]
theorem wl_to {i : Nat} (e : Eqo (cTon t) w w') (hi : i < 16) : wl w' i = wl w i := by
  unfold wl
  rw [e 164 (3 * i + 2) (by unfold cTon; omega)]
theorem jn_to {a b : Nat} (e : Eqo (cTon t) w w') (ha : a < 8) (hb : b < 8) : jn w' a b = jn w a b := by
  unfold jn
  rw [e 165 (8 * a + b) (by unfold cTon; omega)]
theorem IJoin.to (h : IJoin t W w) (hT : ITon t W w) (e : Eqo (cTon t) w w') : IJoin t W w' := by
  have hW := hT.1
  refine ⟨fun i hi => ?_, fun i o hi ho => ?_⟩
  · rw [e (t + 6) _ (by unfold cTon; omega), e (t + 7) _ (by unfold cTon; omega), wf_to e (by omega), wb_to e (by omega), wl_to e (by omega)]
    exact h.1 i hi
  · obtain ⟨-, f1, -, -, -, f2⟩ := hT.fl hi
    obtain ⟨-, f3, -, -, -, f4⟩ := hT.fl ho
    rw [e (t + 6) _ (by unfold cTon; omega), e (t + 7) _ (by unfold cTon; omega), wf_to e (by omega), wb_to e (by omega), wl_to e (by omega), wl_to e (by omega), wf_to e (by omega), jn_to e f4 f1, jn_to e f2 f3]
    exact h.2 i o hi ho
theorem IVs.to (h : IVs W c w) (hc : c ≤ 2) (e : Eqo cBk w w') : IVs W c w' := by
  intro v hv
  obtain ⟨s, h1, h2, h3, h4⟩ := h v hv
  refine ⟨s, h1, ?_, ?_, fun p hp => ?_⟩
  · rw [e _ v (by unfold cBk; omega)]; exact h2
  · rw [e 167 _ (by unfold cBk; omega)]; exact h3
  · rw [e _ p (by unfold cBk; omega), e 168 _ (by unfold cBk; omega)]; exact h4 p hp
theorem ISy.to (h : ISy W c w) (hc : c ≤ 2) (e : Eqo cBk w w') : ISy W c w' := by
  obtain ⟨n, h1, h2, h3, h4⟩ := h
  refine ⟨n, h1, ?_, ?_, fun h0 => ?_⟩
  · rw [e _ 3 (by unfold cBk; omega)]; exact h2
  · rw [e 169 _ (by unfold cBk; omega)]; exact h3
  · obtain ⟨hW, y, m, g1, g2, g3, g4, g5, g6, g7, g8, g9⟩ := h4 h0
    refine ⟨hW, y, m, g1, g2, g3, g4, ?_, ?_, ?_, ?_, fun z hz => ?_⟩
    · rw [e _ 4 (by unfold cBk; omega)]; exact g5
    · rw [e 170 _ (by unfold cBk; omega)]; exact g6
    · rw [e _ 5 (by unfold cBk; omega)]; exact g7
    · rw [e 171 _ (by unfold cBk; omega)]; exact g8
    · rw [e _ z (by unfold cBk; omega), e 172 _ (by unfold cBk; omega)]; exact g9 z hz
theorem IKp.to (h : IKp W w) (e : Eqo cBk w w') : IKp W w' := by
  obtain ⟨kc, h1, h2, h3, h4⟩ := h
  refine ⟨kc, h1, ?_, ?_, fun c hc1 hc2 => ?_⟩
  · rw [e 0 6 (by unfold cBk; omega)]; exact h2
  · rw [e 161 12 (by unfold cBk; omega)]; exact h3
  · exact ⟨(h4 c hc1 hc2).1.to (by omega) e, (h4 c hc1 hc2).2.to (by omega) e⟩
theorem ISl.to (h : ISl W w) (e : Eqo cSl w w') : ISl W w' := by
  obtain ⟨n, h1, h2, h3, h4⟩ := h
  refine ⟨n, h1, ?_, ?_, fun i hi => ?_⟩
  · rw [e 149 0 (by unfold cSl; omega)]; exact h2
  · rw [e 161 13 (by unfold cSl; omega)]; exact h3
  · rw [e 150 _ (by unfold cSl; omega), e 151 _ (by unfold cSl; omega), e 152 _ (by unfold cSl; omega), e 173 _ (by unfold cSl; omega), e 173 _ (by unfold cSl; omega), e 173 _ (by unfold cSl; omega)]
    exact h4 i hi
theorem IHd.to (h : IHd w) (e : Eqo cHd w w') : IHd w' := by
  obtain ⟨n, h1, h2, h3, h4⟩ := h
  refine ⟨n, h1, ?_, ?_, fun i hi => ?_⟩
  · rw [e 154 0 (by unfold cHd; omega)]; exact h2
  · rw [e 161 15 (by unfold cHd; omega)]; exact h3
  · obtain ⟨y, v, a, b, l, g1, g2, g3, g4, g5, g6, g7, g8, g9, g10, g11, g12, g13, g14, g15⟩ := h4 i hi
    refine ⟨y, v, a, b, l, g1, g2, g3, g4, g5, ?_, ?_, ?_, ?_, ?_, ?_, ?_, ?_, g14, fun hb => ?_⟩
    · rw [e 156 _ (by unfold cHd; omega)]; exact g6
    · rw [e 174 _ (by unfold cHd; omega)]; exact g7
    · rw [e 157 _ (by unfold cHd; omega)]; exact g8
    · rw [e 174 _ (by unfold cHd; omega)]; exact g9
    · rw [e 155 _ (by unfold cHd; omega)]; exact g10
    · rw [e 174 _ (by unfold cHd; omega)]; exact g11
    · rw [e 174 _ (by unfold cHd; omega)]; exact g12
    · rw [e 158 _ (by unfold cHd; omega)]; exact g13
    · obtain ⟨l', e1, e2⟩ := g15 hb
      exact ⟨l', by rw [e 158 _ (by unfold cHd; omega)]; exact e1, e2⟩
end CGR
/-- all that Inv speaks of -/
def core (t q k : Nat) : Prop := cTxt q k ∨ cTon t q k ∨ cBk q k ∨ cSl q k ∨ cHd q k ∨ (q = 148 ∧ k = 0)
/-- nothing that Inv speaks of has changed -/
def Same (t : Nat) (w w' : Wd) : Prop := Eqo (core t) w w' ∧ gr w' 0 1 = gr w 0 1 ∧ gr w' 0 2 = gr w 0 2 ∧ (gr w' 73 0 = 5 ∨ gr w' 73 0 = 13)
theorem Same.inv {t W : Nat} {w w' : Wd} (hR : IRef t w) (h1 : ITxt w) (h2 : ITon t W w) (h3 : IJoin t W w) (h4 : IVs W 0 w) (h5 : ISy W 0 w) (h6 : IKp W w) (h7 : ISl W w) (h8 : IHd w) (h : Same t w w') : Inv w' := by
  obtain ⟨e, r1, r2, r3⟩ := h
  obtain ⟨q1, q2, q3, q4, q5⟩ := hR
  have eT : Eqo (cTon t) w w' := fun q k hc => e q k (Or.inr (Or.inl hc))
  have eB : Eqo cBk w w' := fun q k hc => e q k (Or.inr (Or.inr (Or.inl hc)))
  refine ⟨t, W, ⟨q1, by rw [r1]; exact q2, by rw [r2]; exact q3, r3, ?_⟩, h1.to (fun q k hc => e q k (Or.inl hc)), h2.to eT, h3.to h2 eT, h4.to (by omega) eB, h5.to (by omega) eB, h6.to eB, h7.to (fun q k hc => e q k (Or.inr (Or.inr (Or.inr (Or.inl hc))))), h8.to (fun q k hc => e q k (Or.inr (Or.inr (Or.inr (Or.inr (Or.inl hc))))))⟩
  rw [e 148 0 (Or.inr (Or.inr (Or.inr (Or.inr (Or.inr ⟨rfl, rfl⟩)))))]
  exact q5
/-- both sides, one behind the other: the same answer, and Inv again -/
def Pair {R : Type} (f g : M R) (w : Wd) : Prop := wp f w (fun a w1 => wp g w1 (fun b w2 => b = a ∧ Inv w2))
