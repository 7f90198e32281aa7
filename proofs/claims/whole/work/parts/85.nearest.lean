/-! nearest: the reference, and the pair -/
section NEAR9
variable {w w' w0 w1 w2 w3 : Wd} {t W m : Nat} {L : List (Nat × Bool)} {g : Nat → Nat}
theorem rd_un9 (h9 : S9 t W m L g w) {p x : Nat} {s : Nat × Nat} (hp : p < m) (hs : V9 W p s) (hx : x < W) (r1 : gi w 181 p = nI x) (r2 : 2 ≤ p → gi w 181 (p - 2) = nI s.1) (r3 : 1 ≤ p → gi w 181 (p - 1) = nI s.2) : Rd (f_X9_unlikeAt (nI p)) w (nI (k9 w L g p s x)) := by
  obtain ⟨hTo, hW0, hm, hL, hl, hC, hb, hn, hg⟩ := h9
  obtain ⟨s1, s2⟩ := hs.lt hW0
  exact rd_unlike9 hTo (p := p) (r := rr p s.1 s.2 x) hL (by omega) hC (by omega) hg (fun i q hi hli hlk => by
    have a1 := look_le hlk
    have a2 := look_near hn hi hlk
    rw [hli] at a1 a2
    unfold rr
    by_cases c1 : q = p
    · rw [if_pos c1, c1]; exact ⟨by omega, hx, r1⟩
    · rw [if_neg c1]
      by_cases c2 : q + 1 = p
      · rw [if_pos c2, show q = p - 1 by omega]; exact ⟨by omega, s2, r3 (by omega)⟩
      · rw [if_neg c2, show q = p - 2 by omega]; exact ⟨by omega, s1, r2 (by omega)⟩)
theorem Lev.val {c : Nat → Nat × Nat → Nat → Nat} (h : Lev W m c 0 w) (hW : 0 < W) {p : Nat} {s : Nat × Nat} (hp : p ≤ m) (hs : V9 W p s) : gi w 183 (ix p s) = nI (mn9 W c p (m - p) s) ∧ mn9 W c p (m - p) s < 100001 := by
  obtain ⟨v, n, z, h1, h2, -, -, h5, -⟩ := h p (by omega) hp s hs
  have e : v = mn9 W c p (m - p) s := h5.mnl (AC_ne hW)
  rw [← e]
  exact ⟨h2, h1⟩
def cNe (a q k : Nat) : Prop := q = 181 ∨ (q = 167 ∧ k = a) ∨ (q = 168 ∧ 8 * a ≤ k ∧ k < 8 * a + 8)
theorem wp_near9 {a : Nat} (ht : isT t) (ha : a < 6) (hm0 : 0 < m) (s9 : S9 t W m L g w3) (e164 : ∀ q k, (q = 164 ∨ q = 165) → gi w3 q k = gi w q k) (lev : Lev W m (k9 w L g) 0 w3) : wp (fix1 FU (f_X9_nearest_34 (nI a) (nI m)) 0) w3 (fun r w' => r = nI (mn9 W (k9 w L g) 0 m (0, 0)) ∧ gi w' 167 a = nI m ∧ (∀ p, p < m → gi w' 168 (8 * a + p) = nI (gwd W m (k9 w L g) p)) ∧ Fr (cNe a) w3 w') := by
  have hW0 := s9.2.1
  have hW := s9.1.1
  have hm := s9.2.2.1
  have hl := s9.2.2.2.2.1
  refine wp_fix1 (fun n x w4 => ∃ p, p ≤ m ∧ n = m - p ∧ x = nI p ∧ (∀ j, j < p → gi w4 181 j = nI (gwd W m (k9 w L g) j)) ∧ Fr (fun q _ => q = 181) w3 w4) (fun n x w4 self hI hs => ?_) FU m 0 w3 (by have := FU_big; omega) ⟨0, by omega, by omega, rfl, fun j hj => by omega, Fr.rf⟩
  obtain ⟨p, p1, p2, rfl, p3, p4⟩ := hI
  unfold f_X9_nearest_34
  by_cases hp : m ≤ p
  · rw [if_pos (nI_le hp (by omega)), wp_sIn (by omega) (by omega)]
    refine wp_fix1 (fun n x w5 => ∃ j, j ≤ m ∧ n = m - j ∧ x = nI j ∧ gi w5 167 a = nI m ∧ (∀ i, i < m → gi w5 181 i = nI (gwd W m (k9 w L g) i)) ∧ (∀ i, i < j → gi w5 168 (8 * a + i) = nI (gwd W m (k9 w L g) i)) ∧ Fr (cNe a) w3 w5) (fun n x w5 self5 hI hs5 => ?_) FU m 0 _ (by have := FU_big; omega) ⟨0, by omega, by omega, rfl, by rw [gi_si_s], fun i hi => by rw [gi_si_n (by omega)]; exact p3 i (by omega), fun i hi => by omega, (p4.sub (C' := cNe a) (fun q k hq => Or.inl hq)).si (Or.inr (Or.inl ⟨rfl, rfl⟩))⟩
    obtain ⟨j, j1, j2, rfl, j3, j4, j5, j6⟩ := hI
    unfold f_X9_nearest_152
    by_cases hj : m ≤ j
    · rw [if_pos (nI_le hj (by omega))]
      show wp (aI 183 2304 (nI 0) _) w5 _
      rw [wp_aIn (by omega) (by omega), wp_rt, j6.2.2 _ _ (by unfold cNe; omega)]
      exact ⟨(lev.val hW0 (by omega) (V9_0 W)).1, j3, fun i hi => j5 i (by omega), j6⟩
    · rw [if_neg (nI_ge (by omega) (by omega)), wp_aIn (by omega) (by omega), j4 j (by omega), mu8, nI_add, wp_sIn (by omega) (by omega), ad1]
      refine hs5 (m - (j + 1)) _ _ (by omega) ⟨j + 1, by omega, rfl, rfl, by rw [gi_si_n (by omega)]; exact j3, fun i hi => by rw [gi_si_n (by omega)]; exact j4 i hi, fun i hi => ?_, j6.si (by unfold cNe; omega)⟩
      by_cases e : i = j
      · rw [e, gi_si_s]
      · rw [gi_si_n (by omega)]; exact j5 i (by omega)
  · have hpm : p < m := by omega
    rw [if_neg (nI_ge hpm (by omega))]
    have hV := gst_V (c := k9 w L g) hW0 p (by omega)
    have q2 : 1 ≤ p → (gst W m (k9 w L g) p).2 = gwd W m (k9 w L g) (p - 1) := gst_2
    have q1 : 2 ≤ p → (gst W m (k9 w L g) p).1 = gwd W m (k9 w L g) (p - 2) := gst_1
    generalize hst : gst W m (k9 w L g) p = s at hV q1 q2
    obtain ⟨cc1, cc2, cc3⟩ := gch_spec (c := k9 w L g) hW0 hpm s
    have main : wp (f_X9_nearest_74 self (nI a) (nI m) (nI p) (nI s.1) (nI s.2)) w4 (fun r w' => r = nI (mn9 W (k9 w L g) 0 m (0, 0)) ∧ gi w' 167 a = nI m ∧ (∀ p, p < m → gi w' 168 (8 * a + p) = nI (gwd W m (k9 w L g) p)) ∧ Fr (cNe a) w3 w') := by
      unfold f_X9_nearest_74
      rw [wp_sIn (by omega) (by omega)]
      refine wp_fix1 (fun n x w5 => ∃ j, j ≤ gch W m (k9 w L g) p s ∧ n = W - j ∧ x = nI j ∧ gi w5 181 p = nI j ∧ (∀ i, i < p → gi w5 181 i = nI (gwd W m (k9 w L g) i)) ∧ Fr (fun q _ => q = 181) w3 w5) (fun n x w5 self5 hI hs5 => ?_) FU W 0 _ (by have := FU_big; omega) ⟨0, by omega, by omega, rfl, by rw [gi_si_s]; rfl, fun i hi => by rw [gi_si_n (by omega)]; exact p3 i hi, p4.si rfl⟩
      obtain ⟨j, j1, j2, rfl, j3, j4, j5⟩ := hI
      have hjW : j < W := by omega
      have f5 : Fg c3 d3 w3 w5 := j5.fg.sub (fun q k hq => Or.inl hq) (fun q k (hq : False) => hq.elim)
      have s5 := s9.to ht f5
      unfold f_X9_nearest_86
      have hu := rd_un9 s5 hpm hV hjW j3 (fun h => by rw [q1 h]; exact j4 _ (by omega)) (fun h => by rw [q2 h]; exact j4 _ (by omega))
      have e5 : ∀ q k, (q = 164 ∨ q = 165) → gi w5 q k = gi w q k := fun q k hq => by rw [j5.2.2 q k (by omega)]; exact e164 q k hq
      rw [k9_fr e5] at hu
      obtain ⟨sl1, sl2⟩ := hV.lt hW0
      have hVn := hV.nx hjW
      obtain ⟨sn1, sn2⟩ := hVn.lt hW0
      obtain ⟨y1, y2⟩ := lev.val hW0 (show p + 1 ≤ m by omega) hVn
      obtain ⟨z1, z2⟩ := lev.val hW0 (show p ≤ m by omega) hV
      have hkl : k9 w L g p s j ≤ 156 := Nat.le_trans (k9_le p s j) hl
      have eix : 256 * (p + 1) + 16 * s.2 + j = ix (p + 1) (n9 p s j) := by
        unfold ix n9
        by_cases p0 : p = 0
        · have := hV.2
          rw [if_neg (by omega)] at this
          rw [if_pos p0]
          show 256 * (p + 1) + 16 * s.2 + j = 256 * (p + 1) + 16 * 0 + j
          omega
        · rw [if_neg p0]
      have i1 : ix (p + 1) (n9 p s j) < 2304 := ix_lt (by omega) (by omega) (by omega)
      have i2 : ix p s < 2304 := ix_lt (by omega) (by omega) (by omega)
      rw [wp_bnd, hu.wp, wp_bnd, ad1, (rd_at (p + 1) s.2 j).wp, eix, wp_aIn i1 (by omega), j5.2.2 _ _ (by omega), y1, wp_bnd, (rd_at p s.1 s.2).wp, show 256 * p + 16 * s.1 + s.2 = ix p s from rfl, wp_aIn i2 (by omega), j5.2.2 _ _ (by omega), z1, nI_add]
      have em : m - 1 - p = m - (p + 1) := by omega
      by_cases hgo : k9 w L g p s j + mn9 W (k9 w L g) (p + 1) (m - (p + 1)) (n9 p s j) = mn9 W (k9 w L g) p (m - p) s
      · have hgood : good W m (k9 w L g) p s j := by unfold good; rw [em]; exact hgo
        have hje : gch W m (k9 w L g) p s = j := by
          rcases Nat.lt_or_ge j (gch W m (k9 w L g) p s) with z | z
          · exact absurd hgood (cc3 j z)
          · omega
        have hgw : gwd W m (k9 w L g) p = j := by unfold gwd; rw [hst]; exact hje
        rw [if_pos (by rw [hgo])]
        refine hs (m - (p + 1)) _ _ (by omega) ⟨p + 1, by omega, rfl, rfl, fun i hi => ?_, j5⟩
        by_cases e : i = p
        · rw [e, j3, hgw]
        · exact j4 i (by omega)
      · have hng : ¬ good W m (k9 w L g) p s j := fun z => hgo (by unfold good at z; rw [em] at z; exact z)
        rw [if_neg (fun z => hgo ((nI_eq (by omega) (by omega)).mp z)), ad1, wp_sIn (by omega) (by omega)]
        refine hs5 (W - (j + 1)) _ _ (by omega) ⟨j + 1, ?_, rfl, rfl, by rw [gi_si_s], fun i hi => by rw [gi_si_n (by omega)]; exact j4 i hi, j5.si rfl⟩
        by_cases z : j = gch W m (k9 w L g) p s
        · rw [z] at hng; exact absurd cc2 hng
        · omega
    have l56 : wp (f_X9_nearest_56 self (nI a) (nI m) (nI p) (nI s.1)) w4 (fun r w' => r = nI (mn9 W (k9 w L g) 0 m (0, 0)) ∧ gi w' 167 a = nI m ∧ (∀ p, p < m → gi w' 168 (8 * a + p) = nI (gwd W m (k9 w L g) p)) ∧ Fr (cNe a) w3 w') := by
      unfold f_X9_nearest_56
      by_cases p0 : p = 0
      · rw [if_pos (le_l 0 (by omega) (by omega))]
        have := hV.2
        rw [if_neg (by omega)] at this
        rw [this] at main
        exact main
      · rw [if_neg (nle_l 0 (by omega) (by omega)), show nI p - 1 = nI (p - 1) from pk_sub (b := 1) (by omega), wp_aIn (by omega) (by omega), p3 _ (by omega), ← q2 (by omega)]
        exact main
    by_cases p1 : p ≤ 1
    · rw [if_pos (le_l 1 p1 (by omega))]
      have := hV.1
      rw [if_neg (by omega)] at this
      rw [this] at l56
      exact l56
    · rw [if_neg (nle_l 1 (by omega) (by omega)), show nI p - 2 = nI (p - 2) from pk_sub (b := 2) (by omega), wp_aIn (by omega) (by omega), p3 _ (by omega), ← q1 (by omega)]
      exact l56
/-- all parts of Inv behind the class's weighing -/
theorem Fk.parts (hR : IRef t w) (hT : ITxt w) (hTo : ITon t W w) (hJ : IJoin t W w) (hV : IVs W 0 w) (hS : ISy W 0 w) (hK : IKp W w) (hL : ISl W w) (hH : IHd w) (f : Fk w w1) (h73 : gr w1 73 0 = t + 1) : IRef t w1 ∧ ITxt w1 ∧ ITon t W w1 ∧ IJoin t W w1 ∧ IVs W 0 w1 ∧ ISy W 0 w1 ∧ IKp W w1 ∧ ISl W w1 ∧ IHd w1 := by
  have ht := hR.1
  have e : Eqo (core t) w w1 := fun q k hc => f.2 q k (core_K8 ht hc)
  have eT : Eqo (cTon t) w w1 := fun q k hc => e q k (Or.inr (Or.inl hc))
  have eB : Eqo cBk w w1 := fun q k hc => e q k (Or.inr (Or.inr (Or.inl hc)))
  obtain ⟨q1, q2, q3, q4, q5⟩ := hR
  refine ⟨⟨q1, by rw [f.1 _ _ (by omega)]; exact q2, by rw [f.1 _ _ (by omega)]; exact q3, by rw [h73]; unfold isT at ht; omega, by rw [f.2 _ _ (by unfold cK8; omega)]; exact q5⟩, hT.to (fun q k hc => e q k (Or.inl hc)), hTo.to eT, hJ.to hTo eT, hV.to (by omega) eB, hS.to (by omega) eB, hK.to eB, hL.to (fun q k hc => e q k (Or.inr (Or.inr (Or.inr (Or.inl hc))))), hH.to (fun q k hc => e q k (Or.inr (Or.inr (Or.inr (Or.inr (Or.inl hc))))))⟩
theorem pr_nearest (hw : Inv w) (x1 : Int32) : Pair (f_X8_nearest x1) (f_X9_nearest x1) w := by
  obtain ⟨t, W, hR, hT, hTo, hJ, hV, hS, hK, hL, hH⟩ := id hw
  have ht := hR.1
  have hW := hTo.1
  unfold Pair f_X8_nearest f_X9_nearest
  rw [wp_bnd]
  rcases ix_cases x1 6 (by omega) with ⟨a, ha, rfl⟩ | h1
  · refine (wp_bel (n := 6) ha (by omega)).mpr ?_
    rw [if_neg (by decide), wp_rI]
    by_cases h0 : gi w 20 3 = 0
    · rw [if_pos h0, wp_rt, wp_bnd, wp_ver ha, if_neg (by decide), wp_a0 (by omega) (by omega), if_pos (sayN hS h0), wp_rt]
      exact ⟨rfl, hw⟩
    · obtain ⟨y, m, g, hSg⟩ := say_of hR hTo hJ hS h0
      rw [if_neg h0]
      have e169 := hSg.len.2
      rw [wp_bnd]
      refine wp_mono (wp_weighSaying hSg) (fun _ w1 h1 => ?_)
      obtain ⟨s1, wd1, f1⟩ := h1
      have hac := hSg.ac
      obtain ⟨-, -, -, hW0, hy, hm1, hm8, e203, -, e204, e170, e205, e171, hg⟩ := hSg
      have h73 := s1.2.2.2.1
      obtain ⟨R1, T1, To1, J1, V1, S1, K1, L1, H1⟩ := f1.parts hR hT hTo hJ hV hS hK hL hH h73
      have cl := clen_le y hy m (by omega)
      unfold clen at cl
      have wd := wd1
      obtain ⟨-, v0, n0, u1, u2, u3, u4⟩ := wd1
      rw [hac] at u4
      have hv0 : v0 = mn9 W (k9 w (CL y m) g) 0 m (0, 0) := u4.mnl (AC_ne hW0)
      rw [wp_gdn ha (by omega), cl_nI (by omega), wp_bnd]
      refine wp_mono (wp_lowestRow hTo f1.e164 ha hm1 s1 wd (by omega)) (fun _ w2 h2 => ?_)
      obtain ⟨r2, f2⟩ := h2
      rw [wp_rI, f2.2.2 _ _ (by unfold cLo cSe; omega), f1.2 _ _ (by unfold cK8; omega), e205, wp_sIn (by omega) (by omega), wp_rI, gi_si_n (by omega), f2.2.2 _ _ (by unfold cLo cSe; omega), u2, wp_rt]
      generalize hw3 : si w2 28 a (nI m) = w3
      have o3 : ∀ q k, ¬ cLo a q k → ¬ (q = 28 ∧ k = a) → gi w3 q k = gi w1 q k := fun q k z1 z2 => by rw [← hw3, gi_si_n (by omega)]; exact f2.2.2 q k z1
      have g3 : gr w3 = gr w1 := by rw [← hw3]; exact f2.1
      have o3' : ∀ q k, ¬ cK8 q k → ¬ (22 ≤ q ∧ q ≤ 28) → gi w3 q k = gi w q k := fun q k z1 z2 => by rw [o3 q k (by unfold cLo cSe; unfold cK8 at z1; omega) (by omega)]; exact f1.2 q k z1
      rw [wp_bnd, wp_ver ha, if_neg (by decide), wp_a0 (by omega) (by omega), o3' _ _ (by unfold cK8; omega) (by omega), if_neg e169, wp_bnd]
      refine wp_mono (wp_laySaying (w := w3) (t := t) (W := W) (y := y) (m := m) (g := g) ht (hTo.to (fun q k hc => o3' q k (core_K8 ht (Or.inr (Or.inl hc))) (by unfold cTon at hc; unfold isT at ht; omega))) hW0 hy hm1 hm8 (by rw [o3' _ _ (by unfold cK8; omega) (by omega)]; exact e170) (by rw [o3' _ _ (by unfold cK8; omega) (by omega)]; exact e171) (fun i hi => ⟨(hg i hi).1, by rw [o3' _ _ (by unfold cK8; omega) (by omega)]; exact (hg i hi).2.2⟩)) (fun _ w4 h4 => ?_)
      obtain ⟨s9, lev, f4⟩ := h4
      have e3 : ∀ q k, (q = 164 ∨ q = 165) → gi w3 q k = gi w q k := fun q k hq => o3' q k (by unfold cK8; omega) (by omega)
      rw [k9_fr e3] at lev
      rw [wp_a0 (by omega) (by omega), f4.2 _ _ (by unfold cN9; omega), o3' _ _ (by unfold cK8; omega) (by omega), e171]
      refine wp_mono (wp_near9 ht ha hm1 s9 (fun q k hq => by rw [f4.2 q k (by unfold cN9; omega)]; exact e3 q k hq) lev) (fun r w5 h5 => ?_)
      obtain ⟨b1, b2, b3, b4⟩ := h5
      refine ⟨by rw [b1, hv0], ?_⟩
      have o5 : ∀ q k, ¬ cNe a q k → ¬ cN9 q k → gi w5 q k = gi w3 q k := fun q k z1 z2 => by rw [b4.2.2 q k z1]; exact f4.2 q k z2
      refine inv_v R1 T1 To1 J1 S1 K1 L1 H1 (by rw [b4.1, f4.1, g3]) (fun q k hc => ?_) (fun v hv => ?_)
      · obtain ⟨hc1, hc2⟩ := hc
        have n9' := core_N9 ht hc1
        have n8' := core_K8 ht hc1
        unfold cV0 at hc2
        unfold cK8 at n8'
        rw [o5 q k (by unfold cNe; unfold cN9 at n9'; omega) n9', o3 q k (by unfold cLo cSe; omega) (by omega)]
      · by_cases e : v = a
        · subst e
          refine ⟨m, hm8, ?_, ?_, fun p hp => ⟨gwd W m (k9 w (CL y m) g) p, gwd_lt hW0 hp, ?_, ?_⟩⟩
          · rw [show 28 + 10 * 0 = 28 by omega, o5 _ _ (by unfold cNe; omega) (by unfold cN9; omega), ← hw3, gi_si_s]
          · rw [show 6 * 0 + v = v by omega]; exact b2
          · rw [show 22 + 10 * 0 + v = 21 + 1 + v by omega, o5 _ _ (by unfold cNe; omega) (by unfold cN9; omega), ← hw3, gi_si_n (by omega)]
            exact r2 p hp
          · rw [show 48 * 0 + 8 * v + p = 8 * v + p by omega]; exact b3 p hp
        · obtain ⟨s, k1, k2, k3, k4⟩ := V1 v hv
          refine ⟨s, k1, ?_, ?_, fun p hp => ?_⟩
          · rw [show 28 + 10 * 0 = 28 by omega] at k2 ⊢
            rw [o5 _ _ (by unfold cNe; omega) (by unfold cN9; omega), o3 _ _ (by unfold cLo cSe; omega) (by omega)]; exact k2
          · rw [o5 _ _ (by unfold cNe; omega) (by unfold cN9; omega), o3 _ _ (by unfold cLo cSe; omega) (by omega)]; exact k3
          · rw [o5 _ _ (by unfold cNe; omega) (by unfold cN9; omega), o3 _ _ (by unfold cLo cSe; omega) (by omega), o5 _ _ (by unfold cNe; omega) (by unfold cN9; omega), o3 _ _ (by unfold cLo cSe; omega) (by omega)]; exact k4 p hp
  · refine (wp_beo (n := 6) h1).mpr ?_
    rw [if_pos rfl, wp_rt, wp_bnd, wp_vero h1, if_pos rfl]
    exact wp_rt.mpr ⟨rfl, hw⟩
end NEAR9
