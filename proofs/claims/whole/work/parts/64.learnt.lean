/-! learnt -/
section LEARNT
variable {w : Wd} {t W : Nat}
/-- the words of a verse with one of them put in another's place -/
def vx (w : Wd) (a p x : Nat) (j : Nat) : Nat := if j = p then x else vw w a j
/-- a way does not tell -/
abbrev nts (w : Wd) (a p x y : Nat) : Prop := ∀ i, i < (CL y (vs w a)).length → tkL w (CL y (vs w a)) (vw w a) i = tkL w (CL y (vs w a)) (vx w a p x) i
def sb (w : Wd) (a p x y : Nat) : Int32 := if nts w a p x y then 0 else nI (2 ^ y)
def shw (w : Wd) (a p x : Nat) : Int32 := orr (sb w a p x) 5
theorem sb_fr {w w' : Wd} (h : ∀ q k, (q = 164 ∨ q = 165 ∨ (22 ≤ q ∧ q ≤ 28)) → gi w' q k = gi w q k) (a p x : Nat) (ha : a < 6) : sb w' a p x = sb w a p x := by
  have e1 : vs w' a = vs w a := by unfold vs; rw [h _ _ (by omega)]
  have e2 : vw w' a = vw w a := by funext j; unfold vw; rw [h _ _ (by omega)]
  have e3 : vx w' a p x = vx w a p x := by funext j; unfold vx; rw [e2]
  funext y
  unfold sb nts
  rw [e1, e2, e3]
  simp only [tkL_fr (fun q k hq => h q k (by omega))]
theorem shw_fr {w w' : Wd} (h : ∀ q k, (q = 164 ∨ q = 165 ∨ (22 ≤ q ∧ q ≤ 28)) → gi w' q k = gi w q k) (a p x : Nat) (ha : a < 6) : shw w' a p x = shw w a p x := by
  unfold shw
  rw [sb_fr h a p x ha]
theorem orr_sb {f : Nat → Int32} (hf : ∀ y, f y = 0 ∨ f y = nI (2 ^ y)) : ∀ n, n ≤ 5 → ∃ s, s < 2 ^ n ∧ orr f n = nI s
  | 0, _ => ⟨0, by omega, rfl⟩
  | n + 1, h => by
    obtain ⟨s, h1, h2⟩ := orr_sb hf n (by omega)
    have p1 : 2 ^ n ≤ 2 ^ 4 := Nat.pow_le_pow_right (by omega) (by omega)
    have p2 : 2 ^ (n + 1) = 2 ^ n * 2 := Nat.pow_succ _ _
    rcases hf n with e | e
    · exact ⟨s, by omega, by show orr f n ||| f n = _; rw [h2, e, Int32.or_zero]⟩
    · exact ⟨s ||| 2 ^ n, Nat.or_lt_two_pow (by omega) (by omega), by show orr f n ||| f n = _; rw [h2, e, or_nI _ _ (by omega) (by omega)]⟩
theorem shw_lt (w : Wd) (a p x : Nat) : ∃ s, s < 32 ∧ shw w a p x = nI s := orr_sb (fun y => by unfold sb; split; (· exact Or.inl rfl); (· exact Or.inr rfl)) 5 (by omega)
theorem rd_tells (hTo : ITon t W w) (hJ : IJoin t W w) {L : List (Nat × Bool)} {m q1 q2 : Nat} {r1 r2 : Nat → Nat} (hL : CLay L w) (hl : L.length ≤ 84) (hm : m ≤ 8) (hb : ∀ x ∈ L, x.1 < m) (h1 : ∀ p, p < m → r1 p < W ∧ gi w q1 p = nI (r1 p)) (h2 : ∀ p, p < m → r2 p < W ∧ gi w q2 p = nI (r2 p)) : Rd (f_X1_tells t q1 q2) w (if (∀ i, i < L.length → tkL w L r1 i = tkL w L r2 i) then 0 else 1) := by
  unfold f_X1_tells
  refine wp_fix1 (fun n x w' => ∃ i, i ≤ L.length ∧ n = L.length - i ∧ x = nI i ∧ (∀ j, j < i → tkL w L r1 j = tkL w L r2 j) ∧ w' = w) (fun n x w' self hI hs => ?_) FU L.length 0 w (by have := FU_big; omega) ⟨0, by omega, by omega, rfl, fun j hj => by omega, rfl⟩
  obtain ⟨i, i1, i2, rfl, i3, rfl⟩ := hI
  unfold f_X1_tells_3
  rw [wp_rI, hL.1]
  by_cases hi : L.length ≤ i
  · rw [if_pos (nI_le hi (by omega)), wp_gd, wp_rt, if_pos (fun j hj => i3 j (by omega))]
    exact ⟨by decide, rfl, rfl⟩
  · have lt1 : tkL w' L r1 i < 1024 := tk_lt hTo ((h1 _ (own_mem hb (by omega))).1) (map_lt (af_mem (i := i) hb) (fun p hp => (h1 p hp).1))
    have lt2 : tkL w' L r2 i < 1024 := tk_lt hTo ((h2 _ (own_mem hb (by omega))).1) (map_lt (af_mem (i := i) hb) (fun p hp => (h2 p hp).1))
    rw [if_neg (nI_ge (by omega) (by omega)), wp_bnd, (rd_token8 hTo hJ hL hl hm hb h1 (by omega)).wp, wp_bnd, (rd_token8 hTo hJ hL hl hm hb h2 (by omega)).wp]
    by_cases e : tkL w' L r1 i = tkL w' L r2 i
    · rw [if_pos (by rw [e]), ad1]
      refine hs (L.length - (i + 1)) _ _ (by omega) ⟨i + 1, by omega, rfl, rfl, fun j hj => ?_, rfl⟩
      by_cases ej : j = i
      · rw [ej]; exact e
      · exact i3 j (by omega)
    · rw [if_neg (fun z => e ((nI_eq (by omega) (by omega)).mp z)), wp_gd, wp_rt, if_neg (fun z => e (z i (by omega)))]
      exact ⟨by decide, rfl, rfl⟩
def cC (q k : Nat) : Prop := c8 q k ∨ q = 159
theorem wp_ways8 (hR : IRef t w) (hTo : ITon t W w) (hJ : IJoin t W w) (hV : IVs W 0 w) {a p x : Nat} (ha : a < 6) (hp : p < vs w a) (hx : x < W) : wp (f_X8_waysThatShow (nI a) (nI p) (nI x)) w (fun r w' => r = shw w a p x ∧ Fr cC w w') := by
  obtain ⟨s1, s2, s3, s4⟩ := hV.g hTo.1 ha
  have hW := hTo.1
  unfold f_X8_waysThatShow
  rw [wp_gdn ha (by omega), cl_nI (by omega), wp_cp, wp_sIn (by omega) (by omega)]
  generalize hw1 : si (cpi w (21 + 1 + a) (0 : Int32).toNatClampNeg 159 (0 : Int32).toNatClampNeg (8 : Int32).toNatClampNeg) 159 p (nI x) = w1
  have f1 : Fr cC w w1 := by
    rw [← hw1]
    refine Fr.si (C := cC) ⟨rfl, rfl, fun q k hq => ?_⟩ (Or.inr rfl)
    rw [gi_cpi, if_neg (fun z => hq (Or.inr z.1))]
  have row : ∀ j, j < vs w a → gi w1 159 j = nI (vx w a p x j) := by
    intro j hj
    rw [← hw1]
    unfold vx
    by_cases e : j = p
    · rw [if_pos e, e, gi_si_s]
    · rw [if_neg e, gi_si_n (by omega), gi_cpi, if_pos ⟨rfl, by show 0 ≤ j; omega, by show j < 0 + 8; omega⟩]
      show gi w (21 + 1 + a) (0 + (j - 0)) = _
      rw [show 0 + (j - 0) = j by omega, show 21 + 1 + a = 22 + a by omega]
      exact (s4 j hj).2.1
  refine wp_fix2 (fun n u v w' => ∃ y, y ≤ 5 ∧ n = 5 - y ∧ v = nI y ∧ u = orr (sb w a p x) y ∧ Fr cC w w' ∧ (∀ j, j < vs w a → gi w' 159 j = nI (vx w a p x j))) (fun n u v w' self hI hs => ?_) FU 5 _ 0 w1 (by have := FU_big; omega) ⟨0, by omega, by omega, rfl, rfl, f1, row⟩
  obtain ⟨y, y1, y2, rfl, rfl, y3, y4⟩ := hI
  unfold f_X8_waysThatShow_33 f_X8_waysThatShow_93
  by_cases hy : y < 5
  · have o : ∀ q k, ¬ (50 ≤ q ∧ q ≤ 52) → q ≠ 159 → gi w' q k = gi w q k := fun q k h1 h2 => y3.2.2 q k (fun z => z.elim h1 h2)
    have cl := clen_le y hy (vs w a) (by omega)
    unfold clen at cl
    rw [if_neg (nge_l 5 hy (by omega)), wp_aIn (by omega) (by omega), o _ _ (by omega) (by omega), s2, wp_bnd]
    refine wp_mono (wp_follow hy (by omega) (by omega)) (fun _ w2 h2 => ?_)
    obtain ⟨hC, f2⟩ := h2
    have f3 : Fr cC w w2 := y3.tr (f2.sub (fun q k hq => Or.inl hq))
    have o2 : ∀ q k, ¬ (50 ≤ q ∧ q ≤ 52) → q ≠ 159 → gi w2 q k = gi w q k := fun q k h1 h2 => f3.2.2 q k (fun z => z.elim h1 h2)
    have ht := hR.1
    have eT : Eqo (cTon t) w w2 := fun q k hc => o2 q k (by unfold cTon at hc; omega) (by unfold cTon at hc; omega)
    have hR2 : IRef t w2 := hR.to f3.1 (o2 _ _ (by omega) (by omega))
    have row2 : ∀ j, j < vs w a → gi w2 159 j = nI (vx w a p x j) := fun j hj => by rw [f2.2.2 _ _ (by unfold c8; omega)]; exact y4 j hj
    have lt := CL_lt y hy _ (show vs w a < 9 by omega) (by omega)
    have tl := rd_tells (hTo.to eT) (hJ.to hTo eT) (q1 := 21 + 1 + a) (q2 := 159) (r1 := vw w a) (r2 := vx w a p x) hC cl s1 lt (fun j hj => ⟨(s4 j hj).1, by rw [o2 _ _ (by omega) (by omega), show 21 + 1 + a = 22 + a by omega]; exact (s4 j hj).2.1⟩) (fun j hj => ⟨by unfold vx; split; (· exact hx); (· exact (s4 j hj).1), row2 j hj⟩)
    simp only [tkL_fr (fun q k hq => o2 q k (by omega) (by omega))] at tl
    rw [wp_tongue hR2, wp_gdn ha (by omega), cl_nI (by omega), wp_bnd, tl.wp, ad1]
    by_cases hn : nts w a p x y
    · rw [if_pos hn, if_pos rfl]
      exact hs (5 - (y + 1)) _ _ _ (by omega) ⟨y + 1, by omega, rfl, rfl, by show _ = orr (sb w a p x) y ||| sb w a p x y; rw [show sb w a p x y = 0 from if_pos hn, Int32.or_zero], f3, row2⟩
    · rw [if_neg hn, if_neg (by decide), wp_nm, bitw hy]
      exact hs (5 - (y + 1)) _ _ _ (by omega) ⟨y + 1, by omega, rfl, rfl, by show _ = orr (sb w a p x) y ||| sb w a p x y; rw [show sb w a p x y = nI (2 ^ y) from if_neg hn], f3, row2⟩
  · rw [if_pos (ge_l 5 (by omega) (by omega)), wp_rt, show y = 5 by omega]
    exact ⟨rfl, y3⟩
theorem wp_ways9 (ht : isT t) (hTo : ITon t W w) (hV : IVs W 0 w) {a p x : Nat} (ha : a < 6) (hp : p < vs w a) (hx : x < W) : wp (f_X9_showsBy (nI a) (nI p) (nI x)) w (fun r w' => r = shw w a p x ∧ Fr c9 w w') := by
  obtain ⟨s1, s2, s3, s4⟩ := hV.g hTo.1 ha
  have hW := hTo.1
  unfold f_X9_showsBy
  refine wp_fix2 (fun n u v w' => ∃ y, y ≤ 5 ∧ n = 5 - y ∧ v = nI y ∧ u = orr (sb w a p x) y ∧ Fr c9 w w') (fun n u v w' self hI hs => ?_) FU 5 _ 0 w (by have := FU_big; omega) ⟨0, by omega, by omega, rfl, rfl, Fr.rf⟩
  obtain ⟨y, y1, y2, rfl, rfl, y3⟩ := hI
  unfold f_X9_showsBy_6
  by_cases hy : y < 5
  · have cl := clen_le y hy (vs w a) (by omega)
    unfold clen at cl
    have lt := CL_lt y hy _ (show vs w a < 9 by omega) (by omega)
    rw [if_neg (nge_l 5 hy (by omega)), wp_aIn (by omega) (by omega), y3.2.2 _ _ (by unfold c9; omega), s3, bitw hy, wp_bnd]
    refine wp_mono (wp_layWays (two32 y hy) (by omega) (by omega)) (fun _ w1 h1 => ?_)
    rw [LW_one y hy _ (by omega)] at h1
    obtain ⟨r1, -, f1⟩ := h1
    let L := CL y (vs w a)
    have hLl : L.length ≤ 84 := cl
    refine wp_fix2 (fun n u v w2 => ∃ i, i ≤ L.length ∧ n = L.length - i ∧ v = nI i ∧ ((u = 0 ∧ ∀ j, j < i → tkL w L (vw w a) j = tkL w L (vx w a p x) j) ∨ (u = 1 ∧ ¬ nts w a p x y)) ∧ RLay L w2 ∧ Fr c9 w w2) (fun n u v w2 self2 hI hs2 => ?_) FU L.length _ 0 w1 (by have := FU_big; omega) ⟨0, by omega, by omega, rfl, Or.inl ⟨rfl, fun j hj => by omega⟩, r1, y3.tr f1⟩
    obtain ⟨i, i1, i2, rfl, i3, i4, i5⟩ := hI
    unfold f_X9_showsBy_32 f_X9_showsBy_105 f_X9_showsBy_77 f_X9_showsBy_82
    rw [wp_rI, i4.1]
    by_cases hi : L.length ≤ i
    · rw [if_pos (nI_le hi (by omega)), ad1]
      rcases i3 with ⟨rfl, q⟩ | ⟨rfl, q⟩
      · have hn : nts w a p x y := fun j hj => q j (by have : j < L.length := hj; omega)
        rw [if_pos rfl, wp_nm]
        exact hs (5 - (y + 1)) _ _ _ (by omega) ⟨y + 1, by omega, rfl, rfl, by show _ = orr (sb w a p x) y ||| sb w a p x y; rw [show sb w a p x y = 0 from if_pos hn], i5⟩
      · rw [if_neg (by decide), wp_nm, bitw hy]
        exact hs (5 - (y + 1)) _ _ _ (by omega) ⟨y + 1, by omega, rfl, rfl, by show _ = orr (sb w a p x) y ||| sb w a p x y; rw [show sb w a p x y = nI (2 ^ y) from if_neg q], i5⟩
    · rw [if_neg (nI_ge (by omega) (by omega)), wp_bnd]
      have o2 : ∀ q k, ¬ c9 q k → gi w2 q k = gi w q k := i5.2.2
      have hV2 : IVs W 0 w2 := hV.to0 (fun q k hq => o2 q k (by unfold cV0 at hq; unfold c9; omega))
      have v1 : vs w2 a = vs w a := by unfold vs; rw [o2 _ _ (by unfold c9; omega)]
      have v2 : ∀ p, vw w2 a p = vw w a p := fun p => by unfold vw; rw [o2 _ _ (by unfold c9; omega)]
      refine wp_mono (wp_layRow hV2 hW ha) (fun _ w3 h3 => ?_)
      rw [v1] at h3
      obtain ⟨q3, f3⟩ := h3
      have f3' : Fr c9 w w3 := i5.tr (f3.sub (fun q k hq => by unfold cR at hq; unfold c9; omega))
      have eT3 : Eqo (cTon t) w w3 := fun q k hc => f3'.2.2 q k (core_c9 ht (Or.inr (Or.inl hc)))
      have tkA := rd_token9 (hTo.to eT3) (r := vw w a) (i4.to f3) (by omega) s1 lt (fun j hj => ⟨(s4 j hj).1, by rw [q3 j hj, v2]⟩) (i := i) (by omega)
      rw [tkL_fr (fun q k hq => f3'.2.2 q k (by unfold c9; omega))] at tkA
      rw [wp_bnd, tkA.wp, wp_sIn (by omega) (by omega)]
      generalize hw4 : si w3 181 p (nI x) = w4
      have f4 : Fr cR w3 w4 := by rw [← hw4]; exact Fr.rf.si rfl
      have f4' : Fr c9 w w4 := f3'.tr (f4.sub (fun q k hq => by unfold cR at hq; unfold c9; omega))
      have r4 : RLay L w4 := (i4.to f3).to f4
      have eT4 : Eqo (cTon t) w w4 := fun q k hc => f4'.2.2 q k (core_c9 ht (Or.inr (Or.inl hc)))
      have tkB := rd_token9 (hTo.to eT4) (r := vx w a p x) r4 (by omega) s1 lt (fun j hj => ⟨by unfold vx; split; (· exact hx); (· exact (s4 j hj).1), by
        rw [← hw4]
        unfold vx
        by_cases e : j = p
        · rw [if_pos e, e, gi_si_s]
        · rw [if_neg e, gi_si_n (by omega), q3 j hj, v2]⟩) (i := i) (by omega)
      rw [tkL_fr (fun q k hq => f4'.2.2 q k (by unfold c9; omega))] at tkB
      have hiL : i < L.length := by omega
      have lt1 : tkL w L (vw w a) i < 1024 := tk_lt hTo ((s4 _ (own_mem lt hiL)).1) (map_lt (af_mem (i := i) lt) (fun j hj => (s4 j hj).1))
      have vxW : ∀ j, j < vs w a → vx w a p x j < W := fun j hj => by unfold vx; split; (· exact hx); (· exact (s4 j hj).1)
      have lt2 : tkL w L (vx w a p x) i < 1024 := tk_lt hTo (vxW _ (own_mem lt hiL)) (map_lt (af_mem (i := i) lt) vxW)
      rw [ad1]
      rcases i3 with ⟨rfl, q⟩ | ⟨rfl, q⟩
      · rw [if_pos rfl, wp_bnd, tkB.wp]
        by_cases e : tkL w L (vx w a p x) i = tkL w L (vw w a) i
        · rw [if_pos (by show nI (tkL w L (vx w a p x) i) = nI (tkL w L (vw w a) i); rw [e])]
          refine hs2 (L.length - (i + 1)) _ _ _ (by omega) ⟨i + 1, by omega, rfl, rfl, Or.inl ⟨rfl, fun j hj => ?_⟩, r4, f4'⟩
          by_cases ej : j = i
          · rw [ej]; exact e.symm
          · exact q j (by omega)
        · rw [if_neg (fun z => e ((nI_eq (by omega) (by omega)).mp z))]
          exact hs2 (L.length - (i + 1)) _ _ _ (by omega) ⟨i + 1, by omega, rfl, rfl, Or.inr ⟨rfl, fun hn => e (hn i (by show i < L.length; omega)).symm⟩, r4, f4'⟩
      · rw [if_neg (by decide)]
        exact hs2 (L.length - (i + 1)) _ _ _ (by omega) ⟨i + 1, by omega, rfl, rfl, Or.inr ⟨rfl, q⟩, r4, f4'⟩
  · rw [if_pos (ge_l 5 (by omega) (by omega)), wp_rt, show y = 5 by omega]
    exact ⟨rfl, y3⟩
/-- is it a slip at all -/
abbrev isS (w : Wd) (a p x : Nat) : Prop := p < vs w a ∧ vw w a p ≠ x
theorem rd_such8 (hV : IVs W 0 w) (hW : W ≤ 16) {a p x : Nat} (ha : a < 6) (hp : p < 8) (hx : x < W) : Rd (f_X8_isSuch (nI a) (nI p) (nI x)) w (if isS w a p x then 1 else 0) := by
  obtain ⟨s1, s2, s3, s4⟩ := hV.g hW ha
  unfold Rd f_X8_isSuch f_X8_isSuch_35 f_X8_isSuch_36 isS
  rw [wp_aIn (by omega) (by omega), s2, wp_bnd]
  by_cases h : p < vs w a
  · refine (wp_bel h (by omega)).mpr ?_
    obtain ⟨q1, q2, q3⟩ := s4 p h
    rw [if_neg (by decide), wp_gdn ha (by omega), cl_nI (by omega), wp_aIn (by omega) (by omega), show gi w (21 + 1 + a) p = nI (vw w a p) from by rw [← q2]]
    by_cases e : vw w a p = x
    · rw [if_pos (by rw [e]), wp_gd, wp_rt, if_neg (fun z => z.2 e)]
      exact ⟨by decide, rfl, rfl⟩
    · rw [if_neg (fun z => e ((nI_eq (by omega) (by omega)).mp z)), wp_gd, wp_rt, if_pos ⟨h, e⟩]
      exact ⟨by decide, rfl, rfl⟩
  · refine (wp_beo (Or.inr (nI_le (by omega) (by omega)))).mpr ?_
    rw [if_pos rfl, wp_gd, wp_rt, if_neg (fun z => h z.1)]
    exact ⟨by decide, rfl, rfl⟩
theorem rd_such9 (hV : IVs W 0 w) (hW : W ≤ 16) {a p x : Nat} (ha : a < 6) (hp : p < 8) (hx : x < W) : Rd (f_X9_isSlip (nI a) (nI p) (nI x)) w (if isS w a p x then 1 else 0) := by
  obtain ⟨s1, s2, s3, s4⟩ := hV.g hW ha
  unfold Rd f_X9_isSlip f_X9_isSlip_29 f_X9_isSlip_30 isS
  rw [wp_aIn (by omega) (by omega), s3]
  by_cases h : p < vs w a
  · obtain ⟨q1, q2, q3⟩ := s4 p h
    rw [if_neg (nI_ge h (by omega)), mu8, nI_add, wp_aIn (by omega) (by omega), q3]
    by_cases e : vw w a p = x
    · rw [if_pos (by rw [e]), wp_gd, wp_rt, if_neg (fun z => z.2 e)]
      exact ⟨by decide, rfl, rfl⟩
    · rw [if_neg (fun z => e ((nI_eq (by omega) (by omega)).mp z)), wp_gd, wp_rt, if_pos ⟨h, e⟩]
      exact ⟨by decide, rfl, rfl⟩
  · rw [if_pos (nI_le (by omega) (by omega)), wp_gd, wp_rt, if_neg (fun z => h z.1)]
    exact ⟨by decide, rfl, rfl⟩
theorem core_cC (ht : isT t) {q k : Nat} (h : core t q k) : ¬ cC q k := by
  unfold core cTxt cTon cBk cSl cHd at h
  unfold cC c8
  omega
theorem pr_learnt (hw : Inv w) (x1 x2 x3 : Int32) : Pair (f_X8_learnt x1 x2 x3) (f_X9_learnt x1 x2 x3) w := by
  obtain ⟨t, W, hR, hT, hTo, hJ, hV, hS, hK, hL, hH⟩ := id hw
  obtain ⟨hW, W1, W2, -⟩ := id hTo
  have ht := hR.1
  unfold Pair f_X8_learnt f_X9_learnt f_X8_learnt_33 f_X9_learnt_32
  rw [wp_bnd]
  rcases ix_cases x1 6 (by omega) with ⟨a, ha, rfl⟩ | h1
  · refine (wp_bel (n := 6) ha (by omega)).mpr ?_
    rw [if_neg (by decide), wp_tongue hR, wp_rI, W1, wp_bnd]
    rcases ix_cases x3 W (by omega) with ⟨x, hx, rfl⟩ | h3
    · refine (wp_bel hx (by omega)).mpr ?_
      rw [if_neg (by decide), wp_bnd]
      rcases ix_cases x2 8 (by omega) with ⟨p, hp, rfl⟩ | h2
      · rw [(rd_such8 hV hW ha hp hx).wp]
        by_cases hs : isS w a p x
        · rw [if_pos hs, if_neg (by decide), wp_bnd]
          refine wp_mono (wp_ways8 hR hTo hJ hV ha hs.1 hx) (fun r w1 h => ?_)
          obtain ⟨rfl, f1⟩ := h
          have sm1 := f1.same hR (fun q k hq => core_cC ht hq)
          have o1 : ∀ q k, core t q k → gi w1 q k = gi w q k := sm1.1
          have eT : Eqo (cTon t) w w1 := fun q k hc => o1 q k (Or.inr (Or.inl hc))
          have eV : ∀ q k, cV0 q k → gi w1 q k = gi w q k := fun q k hc => f1.2.2 q k (by unfold cV0 at hc; unfold cC c8; omega)
          have hTo1 := hTo.to eT
          have hV1 : IVs W 0 w1 := hV.to0 eV
          have v1 : vs w1 a = vs w a := by unfold vs; rw [eV _ _ (by unfold cV0; omega)]
          have v2 : ∀ j, vw w1 a j = vw w a j := fun j => by unfold vw; rw [eV _ _ (by unfold cV0; omega)]
          have hs1 : isS w1 a p x := by unfold isS; rw [v1, v2]; exact hs
          rw [wp_rt, wp_bnd, wp_ver ha, if_neg (by decide), wp_bnd, wp_pla hp, if_neg (by decide), wp_bnd, wp_wor (hTo1.2.2.1) hW hx, if_neg (by decide), wp_bnd, (rd_such9 hV1 hW ha hp hx).wp, if_pos hs1, if_neg (by decide), wp_bnd]
          refine wp_mono (wp_ways9 ht hTo1 hV1 ha hs1.1 hx) (fun r w2 h => ?_)
          obtain ⟨rfl, f2⟩ := h
          rw [wp_rt]
          refine ⟨shw_fr (fun q k hq => f1.2.2 q k (by unfold cC c8; omega)) a p x ha, Same.inv hR hT hTo hJ hV hS hK hL hH ⟨fun q k hq => ?_, ?_, ?_, ?_⟩⟩
          · rw [f2.2.2 q k (core_c9 ht hq), o1 q k hq]
          · rw [f2.1, f1.1]
          · rw [f2.1, f1.1]
          · rw [f2.1, f1.1]; exact hR.2.2.2.1
        · rw [if_neg hs, if_pos rfl, wp_rt, wp_bnd, wp_ver ha, if_neg (by decide), wp_bnd, wp_pla hp, if_neg (by decide), wp_bnd, wp_wor W2 hW hx, if_neg (by decide), wp_bnd, (rd_such9 hV hW ha hp hx).wp, if_neg hs, if_pos rfl]
          exact wp_rt.mpr ⟨rfl, hw⟩
      · have r8 : Rd (f_X8_isSuch (nI a) x2 (nI x)) w 0 := by
          obtain ⟨s1, s2, s3, s4⟩ := hV.g hW ha
          unfold Rd f_X8_isSuch f_X8_isSuch_35 f_X8_isSuch_36
          rw [wp_aIn (by omega) (by omega), s2, wp_bnd]
          refine (wp_beo ?_).mpr ?_
          · refine h2.imp id (fun z => ?_)
            rw [Int32.le_iff_toInt_le, nI_toInt (by omega)] at z ⊢
            have : ((8 : Nat) : Int) ≤ x2.toInt := z
            omega
          · rw [if_pos rfl, wp_gd, wp_rt]
            exact ⟨by decide, rfl, rfl⟩
        rw [r8.wp, if_pos rfl, wp_rt, wp_bnd, wp_ver ha, if_neg (by decide), wp_bnd, wp_plao h2, if_pos rfl]
        exact wp_rt.mpr ⟨rfl, hw⟩
    · refine (wp_beo h3).mpr ?_
      rw [if_pos rfl, wp_rt, wp_bnd, wp_ver ha, if_neg (by decide), wp_bnd]
      rcases ix_cases x2 8 (by omega) with ⟨p, hp, rfl⟩ | h2
      · rw [wp_pla hp, if_neg (by decide), wp_bnd, wp_woro W2 hW h3, if_pos rfl]
        exact wp_rt.mpr ⟨rfl, hw⟩
      · rw [wp_plao h2, if_pos rfl]
        exact wp_rt.mpr ⟨rfl, hw⟩
  · refine (wp_beo (n := 6) h1).mpr ?_
    rw [if_pos rfl, wp_rt, wp_bnd, wp_vero h1, if_pos rfl]
    exact wp_rt.mpr ⟨rfl, hw⟩
end LEARNT
