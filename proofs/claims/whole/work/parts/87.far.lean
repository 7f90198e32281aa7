/-! far: what is wanted, the reference, the pair -/
section FAR9
variable {w w' w0 w1 w2 : Wd} {t W m : Nat}
theorem Fk.ref (hR : IRef t w) (f : Fk w w1) (h73 : gr w1 73 0 = t + 1) : IRef t w1 := by
  have ht := hR.1
  obtain ⟨q1, q2, q3, q4, q5⟩ := hR
  exact ⟨q1, by rw [f.1 _ _ (by omega)]; exact q2, by rw [f.1 _ _ (by omega)]; exact q3, by rw [h73]; unfold isT at ht; omega, by rw [f.2 _ _ (by unfold cK8; omega)]; exact q5⟩
theorem wp_wantAs {r : Nat → Nat} {q y : Nat} {J0 : List (It × Nat)} (hR : IRef t w) (hTo : ITon t W w) (hJn : IJoin t W w) (hy : y < 5) (hm1 : 1 ≤ m) (hm8 : m ≤ 8) (hq : q < 50) (hr : ∀ p, p < m → r p < W ∧ gi w q p = nI (r p)) (f1 : Fk w w1) (h73 : gr w1 73 0 = t + 1) (hWn : Wn J0 w1) (hJ : Jok m (J0 ++ Jr w r (CL y m))) (hC : Cap (J0 ++ Jr w r (CL y m))) : wp (f_X8_wantAsSaid q (nI y) (nI m)) w1 (fun _ w' => Wn (J0 ++ Jr w r (CL y m)) w' ∧ Fk w w' ∧ gr w' 73 0 = t + 1 ∧ gi w' 53 3 = gi w1 53 3 ∧ gi w' 53 4 = gi w1 53 4) := by
  have ht := hR.1
  have cl := clen_le y hy m (by omega)
  unfold clen at cl
  have lt := CL_lt y hy m (by omega) hm1
  unfold f_X8_wantAsSaid
  rw [wp_bnd]
  refine wp_mono (wp_follow hy (by omega) hm1) (fun _ w2 h2 => ?_)
  obtain ⟨l1, l2⟩ := h2
  rw [← Jof_Jr] at hJ hC ⊢
  generalize hLL : CL y m = L at *
  have f2 : Fk w w2 := f1.tr (Fk.ofr l2 c8_K8)
  refine wp_fix1 (fun n x w3 => ∃ i, i ≤ L.length ∧ n = L.length - i ∧ x = nI i ∧ CLay L w3 ∧ Wn (J0 ++ (Jof L (tkL w L r)).take i) w3 ∧ gr w3 73 0 = t + 1 ∧ gi w3 53 3 = gi w1 53 3 ∧ gi w3 53 4 = gi w1 53 4 ∧ Fk w w3) (fun n x w3 self hI hs => ?_) FU L.length 0 w2 (by have := FU_big; omega) ⟨0, by omega, by omega, rfl, l1, by
      rw [List.take_zero, List.append_nil]
      exact hWn.to (fun q k h1 h2 => l2.2.2 q k (by unfold c8; omega)), by rw [l2.1]; exact h73, l2.2.2 _ _ (by unfold c8; omega), l2.2.2 _ _ (by unfold c8; omega), f2⟩
  obtain ⟨i, i1, i2, rfl, i3, i4, i5, i6, i7, i8⟩ := hI
  unfold f_X8_wantAsSaid_12
  rw [wp_rI, i3.1]
  by_cases hi : L.length ≤ i
  · rw [if_pos (nI_le hi (by omega)), wp_rt]
    rw [List.take_of_length_le (by rw [Jof_len]; exact hi)] at i4
    exact ⟨i4, i8, i5, i6, i7⟩
  · have hi' : i < L.length := by omega
    obtain ⟨o1, -⟩ := i3.2 i hi'
    have eT := i8.eT ht
    have tk8 := rd_token8 (hTo.to eT) (hJn.to hTo eT) (q := q) (r := r) i3 cl hm8 lt (fun p hp => ⟨(hr p hp).1, by rw [i8.2 _ _ (by unfold cK8; omega)]; exact (hr p hp).2⟩) hi'
    rw [tkL_fr i8.e164] at tk8
    rw [if_neg (nI_ge hi' (by omega)), wp_bnd, (rd_before8 i3 cl hi').wp, wp_aIn (by omega) (by omega), o1, wp_bnd, (rd_behind8 i3 cl hi').wp, wp_tongue (i8.ref hR i5), wp_bnd, tk8.wp, wp_bnd]
    have hsplit : J0 ++ (Jof L (tkL w L r)).take (i + 1) ++ (Jof L (tkL w L r)).drop (i + 1) = J0 ++ Jof L (tkL w L r) := by rw [List.append_assoc, List.take_append_drop]
    have hJ' : Jok m (J0 ++ (Jof L (tkL w L r)).take (i + 1)) := Jok.pre (B := (Jof L (tkL w L r)).drop (i + 1)) (by rw [hsplit]; exact hJ)
    have hC' : Cap (J0 ++ (Jof L (tkL w L r)).take (i + 1)) := Cap.pre (B := (Jof L (tkL w L r)).drop (i + 1)) (by rw [hsplit]; exact hC)
    rw [Jof_take hi', ← List.append_assoc] at hJ' hC'
    refine wp_mono (wp_want (j := (itL L i, tkL w L r i)) hm8 i4 hJ' hC') (fun _ w4 h4 => ?_)
    obtain ⟨a1, a2⟩ := h4
    rw [ad1]
    refine hs (L.length - (i + 1)) _ _ (by omega) ⟨i + 1, by omega, rfl, rfl, i3.toW (fun q k h1 h2 => a2.2.2 q k (by unfold cW; omega)), by rw [Jof_take hi', ← List.append_assoc]; exact a1, by rw [a2.1]; exact i5, by rw [a2.2.2 _ _ (by unfold cW; omega)]; exact i6, by rw [a2.2.2 _ _ (by unfold cW; omega)]; exact i7, i8.tr (Fk.ofr a2 cW_K8)⟩
theorem Jr_succ {r : Nat → Nat} {S j : Nat} (hm : m < 9) (hj : j < 5) : Jr w r (LWp S m (j + 1)) = Jr w r (LWp S m j) ++ (if S.testBit j then Jr w r (CL j m) else []) := by
  have es : LWp S m (j + 1) = LWp S m j ++ (if S.testBit j then CL j m else []) := fm_succ _ j
  have hb : beg (if S.testBit j then CL j m else []) 0 = true := by
    split
    · exact beg_CL j hj m hm
    · rfl
  rw [es, Jr_app hb]
  congr 1
  split <;> rfl
theorem JC_pre {r : Nat → Nat} {S : Nat} (hm : m < 9) (hJ : Jok m (Jr w r (LW S m))) (hC : Cap (Jr w r (LW S m))) : ∀ d, d ≤ 5 → Jok m (Jr w r (LWp S m (5 - d))) ∧ Cap (Jr w r (LWp S m (5 - d)))
  | 0, _ => ⟨hJ, hC⟩
  | d + 1, h => by
    obtain ⟨h1, h2⟩ := JC_pre hm hJ hC d (by omega)
    rw [show 5 - d = (5 - (d + 1)) + 1 by omega, Jr_succ hm (by omega)] at h1 h2
    exact ⟨h1.pre, h2.pre⟩
/-- how far the nearest other row is, by a set of ways -/
def farN (w : Wd) (W m : Nat) (r : Nat → Nat) (S : Nat) : Nat := mnl (FVs W m (k9 w (LW S m) (tkL w (LW S m) r)) r m 0)
theorem FVs_ne {c : Nat → Nat × Nat → Nat → Nat} {r : Nat → Nat} (hW : 2 ≤ W) (hm : 0 < m) : FVs W m c r m 0 ≠ [] := by
  intro e
  have hx : ∃ x, x < W ∧ x ≠ r 0 := by
    by_cases c : r 0 = 0
    · exact ⟨1, by omega, by omega⟩
    · exact ⟨0, by omega, fun z => c z.symm⟩
  obtain ⟨x, h1, h2⟩ := hx
  have : fvx W m c r 0 x ∈ FVs W m c r m 0 := by
    unfold FVs
    refine List.mem_append.mpr (Or.inl (List.mem_flatMap.mpr ⟨0, List.mem_range.mpr hm, ?_⟩))
    unfold fro
    refine List.mem_flatMap.mpr ⟨x, List.mem_range.mpr h1, ?_⟩
    rw [if_neg h2]
    exact List.mem_cons.mpr (Or.inl rfl)
  rw [e] at this
  cases this
theorem k9b {S : Nat} (hS : S < 32) (hm : m < 9) (r : Nat → Nat) : ∀ p s x, k9 w (LW S m) (tkL w (LW S m) r) p s x ≤ 156 := fun p s x => Nat.le_trans (k9_le p s x) (LWp_len S hS m hm 5 (by omega))
theorem farN_eq {S I : Nat} {r : Nat → Nat} (hS : S < 32) (hW : 2 ≤ W) (hm0 : 0 < m) (hm : m ≤ 8) (hI : 1500 ≤ I) : (FVs W m (k9 w (LW S m) (tkL w (LW S m) r)) r m 0).foldl min I = farN w W m r S := fold_mnl (FVs_ne hW hm0) (fun u hu => by
  have := FVs_le (k9b hS (by omega) r) (by omega) hm r m 0 u hu
  omega)
theorem farN_le {S : Nat} {r : Nat → Nat} (hS : S < 32) (hW : 2 ≤ W) (hm0 : 0 < m) (hm : m ≤ 8) : farN w W m r S ≤ 1500 := FVs_le (k9b hS (by omega) r) (by omega) hm r m 0 _ (mnl_mem (FVs_ne hW hm0)).1
theorem farN_fr {r r' : Nat → Nat} (h : ∀ q k, (q = 164 ∨ q = 165) → gi w' q k = gi w q k) (S : Nat) : farN w' W m r S = farN w W m r S := by
  unfold farN
  rw [k9_fr h]
  have : tkL w' (LW S m) r = tkL w (LW S m) r := by funext i; exact tkL_fr h _ _ _
  rw [this]
theorem wp_farBy {a S : Nat} (hR : IRef t w) (hTo : ITon t W w) (hJn : IJoin t W w) (hV : IVs W 0 w) (ha : a < 6) (hS : S < 32) (hW2 : 2 ≤ W) (h0 : 0 < vs w a) : wp (f_X8_farBy (nI a) (nI S)) w (fun r w' => r = nI (farN w W (vs w a) (vw w a) S) ∧ Fk w w' ∧ gr w' 73 0 = t + 1) := by
  have ht := hR.1
  have hW := hTo.1
  obtain ⟨s1, s2, s3, s4⟩ := hV.g hW ha
  have hr : ∀ p, p < vs w a → vw w a p < W ∧ gi w (21 + 1 + a) p = nI (vw w a p) := fun p hp => ⟨(s4 p hp).1, by rw [show 21 + 1 + a = 22 + a by omega]; exact (s4 p hp).2.1⟩
  generalize hm : vs w a = m at s1 s2 hr h0
  generalize hrr : vw w a = r at hr
  have hJ : Jok m (Jr w r (LW S m)) := Jr_ok hTo (fun p hp => (hr p hp).1) (by omega) h0
  have hC : Cap (Jr w r (LW S m)) := Jr_cap w r (by omega) h0
  unfold f_X8_farBy
  rw [wp_gdn ha (by omega), wp_tongue hR, wp_aIn (by omega) (by omega), s2, wp_bnd]
  refine wp_mono (wp_begin8 (m := m) ht hTo.2.1) (fun _ w1 h1 => ?_)
  obtain ⟨b1, b2, b3, b4, b5⟩ := h1
  rw [cl_nI (by omega)]
  refine wp_fix1 (fun n x w2 => ∃ y, y ≤ 5 ∧ n = 5 - y ∧ x = nI y ∧ Wn (Jr w r (LWp S m y)) w2 ∧ gr w2 73 0 = t + 1 ∧ gi w2 53 3 = nI W ∧ gi w2 53 4 = nI m ∧ Fk w w2) (fun n x w2 self hI hs => ?_) FU 5 0 w1 (by have := FU_big; omega) ⟨0, by omega, by omega, rfl, b1, b2, b3, b4, b5⟩
  obtain ⟨y, y1, y2, rfl, y3, y4, y5, y6, y7⟩ := hI
  unfold f_X8_farBy_33 f_X8_farBy_65
  by_cases hy : y < 5
  · rw [if_neg (nge_l 5 hy (by omega)), bitx (nI S) (by omega), bt_nI (by omega), ad1]
    have hj := Jr_succ (w := w) (r := r) (S := S) (m := m) (j := y) (by omega) hy
    cases hb : S.testBit y
    · rw [if_neg (by simp)]
      rw [hb] at hj
      refine hs (5 - (y + 1)) _ _ (by omega) ⟨y + 1, by omega, rfl, rfl, ?_, y4, y5, y6, y7⟩
      rw [hj]
      simp
      exact y3
    · rw [if_pos (by simp), wp_aIn (by omega) (by omega), y7.2 _ _ (by unfold cK8; omega), s2, wp_bnd]
      rw [hb, if_pos rfl] at hj
      obtain ⟨j1, j2⟩ := JC_pre (by omega) hJ hC (5 - (y + 1)) (by omega)
      rw [show 5 - (5 - (y + 1)) = y + 1 by omega, hj] at j1 j2
      refine wp_mono (wp_wantAs hR hTo hJn hy h0 s1 (by omega) hr y7 y4 y3 j1 j2) (fun _ w3 h3 => ?_)
      obtain ⟨a1, a2, a3, a4, a5⟩ := h3
      exact hs (5 - (y + 1)) _ _ (by omega) ⟨y + 1, by omega, rfl, rfl, by rw [hj]; exact a1, a3, by rw [a4]; exact y5, by rw [a5]; exact y6, a2⟩
  · have e : y = 5 := by omega
    subst e
    rw [if_pos (ge_l 5 (by omega) (by omega)), wp_bnd]
    have eT := y7.eT ht
    have s8 : S8 t W m (Jr w r (LW S m)) w2 := ⟨hTo.to eT, hJn.to hTo eT, ht, y4, by rw [y7.2 _ _ (by unfold cK8; omega)]; exact hR.2.2.2.2, y3, hJ, hC, by omega, s1, y5, y6⟩
    have hlen : (Jr w r (LW S m)).length ≤ 156 := by
      unfold Jr
      rw [List.length_map, its_len]
      exact LWp_len S hS m (by omega) 5 (by omega)
    refine wp_mono (wp_weigh s8 hlen h0) (fun _ w3 h3 => ?_)
    obtain ⟨d1, d2⟩ := h3
    have f3 : Fk w w3 := y7.tr (Fk.of d2 cWe_K8)
    rw [wp_bnd]
    refine wp_mono (wp_farFrom hTo h0 f3.e164 (show 21 + 1 + a < 50 by omega) (fun p hp => ⟨(hr p hp).1, by rw [f3.2 _ _ (by unfold cK8; omega)]; exact (hr p hp).2⟩) (s8.to d2) (d1.to y7.e164) hS) (fun v w4 h4 => ?_)
    rw [wp_rt]
    obtain ⟨rfl, f4⟩ := h4
    refine ⟨by rw [farN_eq hS hW2 h0 s1 (by omega)], f3.tr (Fk.ofr f4 (fun q k hq => cWe_K8 q k (Or.inl hq))), ?_⟩
    rw [f4.1, d2.1]
    exact y4
theorem wp_farOf {a S : Nat} (ht : isT t) (hTo : ITon t W w) (hV : IVs W 0 w) (ha : a < 6) (hS : S < 32) (hW2 : 2 ≤ W) (h0 : 0 < vs w a) : wp (f_X9_farOf (nI a) (nI S)) w (fun r w' => r = nI (farN w W (vs w a) (vw w a) S) ∧ Fn w w') := by
  have hW := hTo.1
  obtain ⟨s1, s2, s3, s4⟩ := hV.g hW ha
  have fV : ∀ w1, Fn w w1 → IVs W 0 w1 ∧ vs w1 a = vs w a ∧ vw w1 a = vw w a := by
    intro w1 f1
    refine ⟨hV.to0 (fun q k hq => f1.2 q k (by unfold cV0 at hq; unfold cN9; omega)), ?_, ?_⟩
    · unfold vs; rw [f1.2 _ _ (by unfold cN9; omega)]
    · funext p; unfold vw; rw [f1.2 _ _ (by unfold cN9; omega)]
  have hrW : ∀ p, p < vs w a → vw w a p < W := fun p hp => (s4 p hp).1
  unfold f_X9_farOf
  rw [wp_aIn (by omega) (by omega), s3, wp_a0 (by omega) (by omega), hTo.2.2.1, if_pos (ge_l 2 hW2 (by omega)), wp_bnd]
  generalize hm : vs w a = m at s1 s2 s3 s4 h0 hrW fV
  refine wp_mono (wp_layWays hS (by omega) h0) (fun _ w1 h1 => ?_)
  obtain ⟨r1, r2, r3⟩ := h1
  have f1 : Fn w w1 := Fn.ofr r3 c9_N9
  obtain ⟨V1, v1, u1⟩ := fV w1 f1
  rw [wp_bnd]
  refine wp_mono (wp_layRow V1 hW ha) (fun _ w2 h2 => ?_)
  rw [v1, u1] at h2
  obtain ⟨p1, p2⟩ := h2
  generalize hrr : vw w a = r at p1 hrW fV u1
  have s4' : ∀ p, p < m → gi w 168 (8 * a + p) = nI (r p) := fun p hp => by rw [← hrr]; exact (s4 p hp).2.2
  have lt := LW_lt S hS m (by omega) h0
  have hl : (LW S m).length ≤ 156 := LWp_len S hS m (by omega) 5 (by omega)
  have hnear := near_all S hS m (by omega)
  have f2 : Fn w w2 := f1.tr (Fn.ofr p2 (fun q k hq => by unfold cR at hq; unfold cN9; omega))
  have hg : ∀ i, i < (LW S m).length → tkL w (LW S m) r i < 1024 := fun i hi => tk_lt hTo (hrW _ (own_mem lt hi)) (map_lt (af_mem (i := i) lt) hrW)
  have hfar := fun I hI => farN_eq (w := w) (W := W) (r := r) (S := S) (I := I) hS hW2 h0 s1 hI
  have hkb := k9b (w := w) hS (show m < 9 by omega) r
  generalize hLL : LW S m = L at *
  generalize hcc : k9 w L (tkL w L r) = c at hfar hkb
  refine wp_fix1 (fun n x w3 => ∃ i, i ≤ L.length ∧ n = L.length - i ∧ x = nI i ∧ (∀ j, j < i → gi w3 182 j = nI (tkL w L r j)) ∧ Fr (fun q _ => q = 182) w2 w3) (fun n x w3 self hI hs => ?_) FU L.length 0 w2 (by have := FU_big; omega) ⟨0, by omega, by omega, rfl, fun j hj => by omega, Fr.rf⟩
  obtain ⟨i, i1, i2, rfl, i3, i4⟩ := hI
  have f3 : Fn w w3 := f2.tr (Fn.ofr i4 (fun q k h => by unfold cN9; omega))
  have rl3 : RLay L w3 := by
    refine ⟨?_, fun j hj => ?_⟩
    · rw [i4.2.2 _ _ (by omega), p2.2.2 _ _ (by unfold cR; omega)]; exact r1.1
    · rw [i4.2.2 _ _ (by omega), i4.2.2 _ _ (by omega), i4.2.2 _ _ (by omega), p2.2.2 _ _ (by unfold cR; omega), p2.2.2 _ _ (by unfold cR; omega), p2.2.2 _ _ (by unfold cR; omega)]; exact r1.2 j hj
  unfold f_X9_farOf_34
  rw [wp_rI, rl3.1]
  by_cases hi : L.length ≤ i
  · rw [if_pos (nI_le hi (by omega)), wp_bnd]
    have s9 : S9 t W m L (tkL w L r) w3 := by
      refine ⟨hTo.to (f3.eT ht), by omega, s1, rl3, hl, ⟨fun p hp => ?_, fun j hj => ?_⟩, lt, hnear, fun j hj => ⟨hg j hj, i3 j (by omega)⟩⟩
      · rw [i4.2.2 _ _ (by omega), p2.2.2 _ _ (by unfold cR; omega)]; exact r2.1 p hp
      · rw [i4.2.2 _ _ (by omega), p2.2.2 _ _ (by unfold cR; omega)]; exact r2.2 j hj
    refine wp_mono (wp_layLeast ht s9) (fun _ w4 h4 => ?_)
    obtain ⟨lev, f4⟩ := h4
    have f4' : Fn w w4 := f3.tr (Fn.of f4 c3_N9)
    rw [k9_fr f3.e164, hcc] at lev
    have s94 := s9.to ht f4
    have keep : ∀ w5, Fr cR w4 w5 → S9 t W m L (tkL w L r) w5 ∧ Lev W m c 0 w5 ∧ Fn w w5 := by
      intro w5 f5
      refine ⟨s94.to ht (f5.fg.sub (fun q k hq => Or.inl hq) (fun q k (hq : False) => hq.elim)), fun p' a1 a2 s hsv => ?_, f4'.tr (Fn.ofr f5 (fun q k hq => by unfold cR at hq; unfold cN9; omega))⟩
      obtain ⟨v, n, z, g1, g2, g3, g4, g5, g6⟩ := lev p' a1 a2 s hsv
      exact ⟨v, n, z, g1, by rw [f5.2.2 _ _ (by unfold cR; omega)]; exact g2, by rw [f5.2.1]; exact g3, by rw [f5.2.1]; exact g4, g5, g6⟩
    refine wp_fix2 (fun n x4 x5 w5 => ∃ p, p ≤ m ∧ n = m - p ∧ x4 = nI ((FVs W m c r p 0).foldl min 100000) ∧ x5 = nI p ∧ Fr cR w4 w5) (fun n x4 x5 w5 self5 hI hs5 => ?_) FU m _ _ w4 (by have := FU_big; omega) ⟨0, by omega, by omega, rfl, rfl, Fr.rf⟩
    obtain ⟨p, q1, q2, rfl, rfl, q3⟩ := hI
    unfold f_X9_farOf_74
    by_cases hp : m ≤ p
    · have e : p = m := by omega
      subst e
      rw [if_pos (nI_le hp (by omega)), wp_rt, hfar 100000 (by omega)]
      exact ⟨rfl, (keep _ q3).2.2⟩
    · have hpm : p < m := by omega
      rw [if_neg (nI_ge hpm (by omega)), wp_bnd]
      obtain ⟨-, -, f5⟩ := keep _ q3
      obtain ⟨V5, v5, u5⟩ := fV _ f5
      refine wp_mono (wp_layRow V5 hW ha) (fun _ w6 h6 => ?_)
      rw [v5, u5] at h6
      obtain ⟨row6, f6⟩ := h6
      have f6' : Fr cR w4 w6 := q3.tr f6
      have hVs := str_V (W := W) hrW (p := p) (by omega)
      have l103 : wp (f_X9_farOf_103 self5 (nI a) (nI m) (nI ((FVs W m c r p 0).foldl min 100000)) (nI p) (nI (str r p).2)) w6 (fun v w' => v = nI (farN w W m r S) ∧ Fn w w') := by
        unfold f_X9_farOf_103
        refine wp_fix2 (fun n x4 x7 w7 => ∃ j, j ≤ W ∧ n = W - j ∧ x7 = nI j ∧ x4 = nI ((FVs W m c r p j).foldl min 100000) ∧ (∀ i, i < p → gi w7 181 i = nI (r i)) ∧ Fr cR w4 w7) (fun n x4 x7 w7 self7 hI hs7 => ?_) FU W _ 0 w6 (by have := FU_big; omega) ⟨0, by omega, by omega, rfl, rfl, fun i hi => row6 i (by omega), f6'⟩
        obtain ⟨j, j1, j2, rfl, rfl, j3, j4⟩ := hI
        obtain ⟨s97, lev7, f7⟩ := keep _ j4
        have hfl := fold_le (I := 100000) (FVs W m c r p j)
        unfold f_X9_farOf_108 f_X9_farOf_173 f_X9_farOf_189
        rw [wp_a0 (by omega) (by omega), f7.2 _ _ (by unfold cN9; omega), hTo.2.2.1]
        by_cases hj : W ≤ j
        · have e : j = W := by omega
          subst e
          rw [if_pos (nI_le hj (by omega)), ad1]
          exact hs5 (m - (p + 1)) _ _ _ (by omega) ⟨p + 1, by omega, rfl, by rw [FVs_next], rfl, j4⟩
        · have hjW : j < W := by omega
          have hrp := hrW p hpm
          rw [if_neg (nI_ge hjW (by omega)), wp_sIn (by omega) (by omega)]
          generalize hw8 : si w7 181 p (nI j) = w8
          have f8 : Fr cR w4 w8 := by rw [← hw8]; exact j4.si rfl
          obtain ⟨s98, lev8, f8'⟩ := keep _ f8
          have row8 : ∀ i, i < p → gi w8 181 i = nI (r i) := fun i hi => by rw [← hw8, gi_si_n (by omega)]; exact j3 i hi
          have own8 : gi w8 181 p = nI j := by rw [← hw8, gi_si_s]
          rw [mu8, nI_add, wp_aIn (by omega) (by omega), f8'.2 _ _ (by unfold cN9; omega), s4' p hpm, ad1]
          by_cases hjr : j = r p
          · rw [if_pos (by rw [hjr]), if_pos (nI_le (Nat.le_refl _) (by omega))]
            exact hs7 (W - (j + 1)) _ _ _ (by omega) ⟨j + 1, by omega, rfl, rfl, by rw [FVs_skip hjr], row8, f8⟩
          · have hu := rd_un9 s98 hpm hVs hjW own8 (fun h => by
              rw [row8 _ (by omega)]
              show nI (r (p - 2)) = nI (if p < 2 then 0 else r (p - 2))
              rw [if_neg (by omega)]) (fun h => by
              rw [row8 _ (by omega)]
              show nI (r (p - 1)) = nI (if p < 1 then 0 else r (p - 1))
              rw [if_neg (by omega)])
            rw [k9_fr f8'.e164, hcc] at hu
            have hVn := hVs.nx hjW
            obtain ⟨sn1, sn2⟩ := hVn.lt (by omega)
            obtain ⟨y1, y2⟩ := lev8.val (by omega) (show p + 1 ≤ m by omega) hVn
            have hkk := hkb p (str r p) j
            have eix : 256 * (p + 1) + 16 * (str r p).2 + j = ix (p + 1) (n9 p (str r p) j) := by
              unfold ix n9
              by_cases p0 : p = 0
              · have := hVs.2
                rw [if_neg (by omega)] at this
                rw [if_pos p0, this]
              · rw [if_neg p0]
            have i1 : ix (p + 1) (n9 p (str r p) j) < 2304 := ix_lt (by omega) (by omega) (by omega)
            have hfin : (FVs W m c r p (j + 1)).foldl min 100000 = min ((FVs W m c r p j).foldl min 100000) (c p (str r p) j + mn9 W c (p + 1) (m - (p + 1)) (n9 p (str r p) j)) := by
              rw [FVs_step hjr, fold_snoc]
              unfold fvx
              rw [show m - 1 - p = m - (p + 1) by omega]
            rw [if_neg (fun z => hjr ((nI_eq (by omega) (by omega)).mp z)), wp_bnd, hu.wp, wp_bnd, ad1, (rd_at (p + 1) (str r p).2 j).wp, eix, wp_aIn i1 (by omega), y1, nI_add]
            generalize hX : c p (str r p) j + mn9 W c (p + 1) (m - (p + 1)) (n9 p (str r p) j) = X at hfin
            have hXl : X < 200000 := by omega
            by_cases hle : (FVs W m c r p j).foldl min 100000 ≤ X
            · rw [if_pos (nI_le hle (by omega))]
              exact hs7 (W - (j + 1)) _ _ _ (by omega) ⟨j + 1, by omega, rfl, rfl, by rw [hfin, show min ((FVs W m c r p j).foldl min 100000) X = (FVs W m c r p j).foldl min 100000 by omega], row8, f8⟩
            · rw [if_neg (nI_ge (by omega) (by omega))]
              exact hs7 (W - (j + 1)) _ _ _ (by omega) ⟨j + 1, by omega, rfl, rfl, by rw [hfin, show min ((FVs W m c r p j).foldl min 100000) X = X by omega], row8, f8⟩
      by_cases p0 : p = 0
      · rw [if_pos (le_l 0 (by omega) (by omega))]
        have e : (str r p).2 = 0 := by unfold str; show (if p < 1 then 0 else r (p - 1)) = 0; rw [if_pos (by omega)]
        rw [e] at l103
        exact l103
      · rw [if_neg (nle_l 0 (by omega) (by omega)), show nI p - 1 = nI (p - 1) from pk_sub (b := 1) (by omega), wp_aIn (by omega) (by omega), row6 _ (by omega)]
        have e : (str r p).2 = r (p - 1) := by unfold str; show (if p < 1 then 0 else r (p - 1)) = _; rw [if_neg (by omega)]
        rw [e] at l103
        exact l103
  · have hi' : i < L.length := by omega
    have tk9 := rd_token9 (hTo.to (f3.eT ht)) (r := r) rl3 (by omega) s1 lt (fun p hp => ⟨hrW p hp, by rw [i4.2.2 _ _ (by omega)]; exact p1 p hp⟩) hi'
    rw [tkL_fr f3.e164] at tk9
    rw [if_neg (nI_ge hi' (by omega)), wp_bnd, tk9.wp, wp_sIn (by omega) (by omega), ad1]
    refine hs (L.length - (i + 1)) _ _ (by omega) ⟨i + 1, by omega, rfl, rfl, fun j hj => ?_, i4.si rfl⟩
    by_cases e : j = i
    · rw [e, gi_si_s]
    · rw [gi_si_n (by omega)]; exact i3 j (by omega)
end FAR9
