/-! nearest: the first of the least rows -/
section NEAR
variable {w w' w0 w1 w2 : Wd} {t W m : Nat} {J : List (It × Nat)} {L : List (Nat × Bool)} {g : Nat → Nat}
def mnl : List Nat → Nat
  | [] => 0
  | a :: l => l.foldl min a
theorem fmin_le : ∀ (l : List Nat) (a : Nat), l.foldl min a ≤ a ∧ (∀ u ∈ l, l.foldl min a ≤ u) ∧ (l.foldl min a = a ∨ l.foldl min a ∈ l)
  | [], a => ⟨Nat.le_refl _, (fun u hu => by cases hu), Or.inl rfl⟩
  | b :: l, a => by
    obtain ⟨h1, h2, h3⟩ := fmin_le l (min a b)
    show l.foldl min (min a b) ≤ a ∧ (∀ u ∈ b :: l, l.foldl min (min a b) ≤ u) ∧ (l.foldl min (min a b) = a ∨ l.foldl min (min a b) ∈ b :: l)
    refine ⟨by omega, fun u hu => ?_, ?_⟩
    · rcases List.mem_cons.mp hu with rfl | hu
      · omega
      · exact h2 u hu
    · rcases h3 with h3 | h3
      · by_cases c : a ≤ b
        · left; omega
        · right; rw [h3]; exact List.mem_cons.mpr (Or.inl (by omega))
      · right; exact List.mem_cons_of_mem _ h3
theorem mnl_mem : ∀ {l : List Nat}, l ≠ [] → mnl l ∈ l ∧ ∀ u ∈ l, mnl l ≤ u
  | [], h => absurd rfl h
  | a :: l, _ => by
    obtain ⟨h1, h2, h3⟩ := fmin_le l a
    refine ⟨?_, fun u hu => ?_⟩
    · show l.foldl min a ∈ a :: l
      rcases h3 with h3 | h3
      · rw [h3]; exact List.mem_cons.mpr (Or.inl rfl)
      · exact List.mem_cons_of_mem _ h3
    · show l.foldl min a ≤ u
      rcases List.mem_cons.mp hu with rfl | hu
      · exact h1
      · exact h2 u hu
theorem MC.mnl {I : Nat} {l : List Nat} {v n : Nat} (h : MC I l v n) (hl : l ≠ []) : v = mnl l := by
  rcases h with ⟨h, -⟩ | ⟨h1, h2, -⟩
  · exact absurd h hl
  · obtain ⟨g1, g2⟩ := mnl_mem hl
    have := h2 _ g1
    have := g2 _ h1
    omega
/-- the least of all paths from a state -/
def mn9 (W : Nat) (c : Nat → Nat × Nat → Nat → Nat) (p k : Nat) (s : Nat × Nat) : Nat := mnl (AC W c n9 p k s)
def good (W m : Nat) (c : Nat → Nat × Nat → Nat → Nat) (p : Nat) (s : Nat × Nat) (x : Nat) : Prop := c p s x + mn9 W c (p + 1) (m - 1 - p) (n9 p s x) = mn9 W c p (m - p) s
theorem good_ex {c : Nat → Nat × Nat → Nat → Nat} (hW : 0 < W) {p : Nat} (hp : p < m) (s : Nat × Nat) : ∃ x, x < W ∧ good W m c p s x := by
  obtain ⟨k, hk⟩ : ∃ k, m - p = k + 1 := ⟨m - p - 1, by omega⟩
  have hk' : m - 1 - p = k := by omega
  unfold good mn9
  rw [hk, hk', AC_succ]
  have hne : ACp W c n9 p k s W ≠ [] := by rw [← AC_succ]; exact AC_ne hW
  obtain ⟨h1, h2⟩ := mnl_mem hne
  have h1' := h1
  unfold ACp at h1
  obtain ⟨x, hx, hz⟩ := List.mem_flatMap.mp h1
  obtain ⟨z, hz1, hz2⟩ := List.mem_map.mp hz
  have hx := List.mem_range.mp hx
  obtain ⟨a1, a2⟩ := mnl_mem (l := AC W c n9 (p + 1) k (n9 p s x)) (AC_ne hW)
  have b1 := a2 z hz1
  have b2 := h2 (c p s x + mnl (AC W c n9 (p + 1) k (n9 p s x))) (by unfold ACp; exact List.mem_flatMap.mpr ⟨x, List.mem_range.mpr hx, List.mem_map.mpr ⟨_, a1, rfl⟩⟩)
  have hz2 : c p s x + z = mnl (ACp W c n9 p k s W) := hz2
  exact ⟨x, hx, by omega⟩
/-- the first word that is good -/
noncomputable def gch (W m : Nat) (c : Nat → Nat × Nat → Nat → Nat) (p : Nat) (s : Nat × Nat) : Nat := by
  classical exact ((List.range W).find? (fun x => decide (good W m c p s x))).getD 0
theorem gch_spec {c : Nat → Nat × Nat → Nat → Nat} (hW : 0 < W) {p : Nat} (hp : p < m) (s : Nat × Nat) : gch W m c p s < W ∧ good W m c p s (gch W m c p s) ∧ ∀ x, x < gch W m c p s → ¬ good W m c p s x := by
  classical
  obtain ⟨x, hx, hg⟩ := good_ex (c := c) hW hp s
  have e : gch W m c p s = ((List.range W).find? (fun x => decide (good W m c p s x))).getD 0 := by
    unfold gch
    congr
  cases h : (List.range W).find? (fun x => decide (good W m c p s x)) with
  | none =>
    rw [List.find?_eq_none] at h
    exact absurd hg (by simpa using h x (List.mem_range.mpr hx))
  | some y =>
    rw [h] at e
    have e : gch W m c p s = y := e
    rw [List.find?_range_eq_some] at h
    obtain ⟨h1, h2, h3⟩ := h
    rw [e]
    refine ⟨List.mem_range.mp h2, by simpa using h1, fun z hz => ?_⟩
    have := h3 z hz
    simpa using this
theorem gch_eq {c : Nat → Nat × Nat → Nat → Nat} (hW : 0 < W) {p : Nat} (hp : p < m) (s : Nat × Nat) {x : Nat} (h1 : good W m c p s x) (h2 : ∀ y, y < x → ¬ good W m c p s y) : gch W m c p s = x := by
  obtain ⟨-, g1, g2⟩ := gch_spec (c := c) hW hp s
  rcases Nat.lt_trichotomy (gch W m c p s) x with h | h | h
  · exact absurd g1 (h2 _ h)
  · exact h
  · exact absurd h1 (g2 _ h)
noncomputable def gst (W m : Nat) (c : Nat → Nat × Nat → Nat → Nat) : Nat → Nat × Nat
  | 0 => (0, 0)
  | p + 1 => n9 p (gst W m c p) (gch W m c p (gst W m c p))
noncomputable def gwd (W m : Nat) (c : Nat → Nat × Nat → Nat → Nat) (p : Nat) : Nat := gch W m c p (gst W m c p)
theorem gst_succ {c : Nat → Nat × Nat → Nat → Nat} {p : Nat} : gst W m c (p + 1) = n9 p (gst W m c p) (gwd W m c p) := rfl
theorem gst_2 {c : Nat → Nat × Nat → Nat → Nat} {p : Nat} (hp : 1 ≤ p) : (gst W m c p).2 = gwd W m c (p - 1) := by
  obtain ⟨q, rfl⟩ : ∃ q, p = q + 1 := ⟨p - 1, by omega⟩
  rw [gst_succ]
  rfl
theorem gst_1 {c : Nat → Nat × Nat → Nat → Nat} {p : Nat} (hp : 2 ≤ p) : (gst W m c p).1 = gwd W m c (p - 2) := by
  obtain ⟨q, rfl⟩ : ∃ q, p = q + 2 := ⟨p - 2, by omega⟩
  rw [gst_succ]
  show (if q + 1 = 0 then 0 else (gst W m c (q + 1)).2) = _
  rw [if_neg (by omega), gst_2 (by omega)]
  rfl
theorem gwd_lt {c : Nat → Nat × Nat → Nat → Nat} (hW : 0 < W) {p : Nat} (hp : p < m) : gwd W m c p < W := (gch_spec hW hp _).1
theorem gst_V {c : Nat → Nat × Nat → Nat → Nat} (hW : 0 < W) : ∀ p, p ≤ m → V9 W p (gst W m c p)
  | 0, _ => V9_0 W
  | p + 1, h => (gst_V hW p (by omega)).nx (gwd_lt hW (by omega))
theorem S8.fr (h : S8 t W m J w) (e1 : gr w' 73 0 = gr w 73 0) (e2 : ∀ q k, (q ≤ 19 ∨ (163 ≤ q ∧ q ≤ 166) ∨ (74 ≤ q ∧ q ≤ 147) ∨ (q = 148 ∧ k = 0) ∨ (q = 53 ∧ (k = 3 ∨ k = 4))) → gi w' q k = gi w q k) : S8 t W m J w' := by
  obtain ⟨h1, h2, h3, h4, h5, h6, h7, h8, h9, h10, h11, h12⟩ := h
  have eT : Eqo (cTon t) w w' := fun q k hc => e2 q k (by unfold cTon at hc; unfold isT at h3; omega)
  refine ⟨h1.to eT, h2.to h1 eT, h3, by rw [e1]; exact h4, ?_, h6.to (fun q k hq1 hq2 => e2 q k (by omega)), h7, h8, h9, h10, ?_, ?_⟩
  · rw [e2 _ _ (by omega)]; exact h5
  · rw [e2 _ _ (by omega)]; exact h11
  · rw [e2 _ _ (by omega)]; exact h12
theorem wp_unlikeWith (h8 : S8 t W m J w) {p b h x : Nat} (hp : p < 8) (hb : p ≠ 0 → b < W) (hh : h < 8) (hx : x < W) : wp (f_X3_unlikeWith (nI p) (nI b) (nI h) (nI x)) w (fun r w' => r = nI (k8 w J p (b, h) x) ∧ Fr cSe w w') := by
  unfold f_X3_unlikeWith
  rw [wp_bnd]
  refine wp_mono (wp_ties h8 hp hb hx) (fun r w1 h1 => ?_)
  obtain ⟨rfl, f1⟩ := h1
  have s1 : S8 t W m J w1 := h8.to (f1.fg.sub (fun q k hq => Or.inl hq) (fun q k (hq : False) => hq.elim))
  have e164 : ∀ q k, (q = 164 ∨ q = 165) → gi w1 q k = gi w q k := fun q k hq => f1.2.2 q k (by unfold cSe; omega)
  by_cases p0 : p = 0
  · rw [if_pos (eq_l 0 p0), wp_rt]
    refine ⟨?_, f1⟩
    unfold k8
    rw [if_pos p0, Nat.add_zero]
  · have hbW := hb p0
    have hr := rd_halves s1 (p := p - 1) (side := 1) (x := b) (nb := x) (by omega) (by omega) hbW (Or.inl hx)
    rw [rh_fr e164] at hr
    obtain ⟨q1, q2⟩ := rh_lt h8 (show p - 1 < 8 by omega) 1 b x
    rw [if_neg (ne_l 0 p0 (by omega) (by omega)), show nI p - 1 = nI (p - 1) from pk_sub (b := 1) (by omega), wp_bnd]
    show wp (f_X7_rightHalves (nI (p - 1)) (nI 1) (nI b) (nI x)) w1 _
    rw [hr.wp, wp_nm, and8 h hh _ (by omega), wp_bnd, (rd_spans s1 (by omega) (and8_lt h hh _ (by omega))).wp, wp_rt, nI_add]
    refine ⟨?_, f1⟩
    unfold k8
    rw [if_neg p0]
def cLo (a q k : Nat) : Prop := cSe q k ∨ q = 21 + 1 + a
theorem wp_lowestRow {a : Nat} (hTo : ITon t W w) (e164 : ∀ q k, (q = 164 ∨ q = 165) → gi w1 q k = gi w q k) (ha : a < 6) (hm0 : 0 < m) (s1 : S8 t W m (Jof L g) w1) (wd1 : Wd8 W m w (Jof L g) w1) (hl : L.length ≤ 156) : wp (f_X3_lowestRow (21 + 1 + a)) w1 (fun _ w' => (∀ p, p < m → gi w' (21 + 1 + a) p = nI (gwd W m (k9 w L g) p)) ∧ Fr (cLo a) w1 w') := by
  have g8 := s1
  obtain ⟨-, -, ht, -, -, -, hJ, hC, hW0, hm, -, -⟩ := s1
  have hW := hTo.1
  obtain ⟨lv, v0, n0, u1, u2, u3, u4⟩ := wd1
  obtain ⟨ek8, en8⟩ := k8_fr e164 (Jof L g)
  rw [AC_eq hTo hJ hC (by omega) (V9_0 W) (rel_0 w _)] at u4
  have hv0 : v0 = mn9 W (k9 w L g) 0 m (0, 0) := u4.mnl (AC_ne hW0)
  unfold f_X3_lowestRow
  rw [wp_rI, u2]
  refine wp_fix4 (fun n x2 x3 x4 x5 w2 => ∃ p l b h, p ≤ m ∧ n = m - p ∧ x2 = nI l ∧ x3 = nI b ∧ x4 = nI h ∧ x5 = nI p ∧ l < 1000001 ∧ l = mn9 W (k9 w L g) p (m - p) (gst W m (k9 w L g) p) ∧ h < 8 ∧ Rl8 w (Jof L g) p (gst W m (k9 w L g) p) (b, h) ∧ (∀ j, j < p → gi w2 (21 + 1 + a) j = nI (gwd W m (k9 w L g) j)) ∧ Fr (cLo a) w1 w2) (fun n x2 x3 x4 x5 w2 self hI hs => ?_) FU m _ _ _ _ w1 (by have := FU_big; omega) ⟨0, v0, 16, 0, by omega, by omega, rfl, rfl, rfl, rfl, u1, hv0, by omega, rel_0 w _, fun j hj => by omega, Fr.rf⟩
  obtain ⟨p, l, b, h, p1, p2, rfl, rfl, rfl, rfl, p3, p4, p5, p6, p7, p8⟩ := hI
  unfold f_X3_lowestRow_14
  have s2 : ∀ w3, Fr (cLo a) w1 w3 → S8 t W m (Jof L g) w3 := fun w3 f3 => g8.fr (by rw [f3.1]) (fun q k hq => f3.2.2 q k (by unfold cLo cSe; omega))
  rw [wp_rI, (s2 _ p8).2.2.2.2.2.2.2.2.2.2.2]
  by_cases hp : m ≤ p
  · rw [if_pos (nI_le hp (by omega)), wp_rt]
    exact ⟨fun j hj => p7 j (by omega), p8⟩
  · have hpm : p < m := by omega
    rw [if_neg (nI_ge hpm (by omega))]
    have hV := gst_V (c := k9 w L g) hW0 p (by omega)
    generalize hst : gst W m (k9 w L g) p = s at p4 p6 hV
    have hbW : p ≠ 0 → b < W := by
      intro p0
      have h1 := p6.1
      rw [if_neg p0] at h1
      have h2 := hV.2
      rw [if_pos (by omega)] at h2
      have h1 : b = s.2 := h1
      omega
    have hbW' : b < W ∨ (b = 16 ∧ p = 0) := by
      by_cases p0 : p = 0
      · have h1 := p6.1
        rw [if_pos p0] at h1
        exact Or.inr ⟨h1, p0⟩
      · exact Or.inl (hbW p0)
    refine wp_fix1 (fun n x w3 => ∃ j, j ≤ gch W m (k9 w L g) p s ∧ n = W - j ∧ x = nI j ∧ (∀ i, i < p → gi w3 (21 + 1 + a) i = nI (gwd W m (k9 w L g) i)) ∧ Fr (cLo a) w1 w3) (fun n x w3 self3 hI hs3 => ?_) FU W 0 w2 (by have := FU_big; omega) ⟨0, by omega, by omega, rfl, p7, p8⟩
    obtain ⟨j, j1, j2, rfl, j3, j4⟩ := hI
    obtain ⟨c1, c2, c3⟩ := gch_spec (c := k9 w L g) hW0 hpm s
    have hjW : j < W := by omega
    unfold f_X3_lowestRow_26 f_X3_lowestRow_106
    have s3 := s2 _ j4
    have e3 : ∀ w4, Fr (cLo a) w1 w4 → ∀ q k, (q = 164 ∨ q = 165) → gi w4 q k = gi w q k := fun w4 f4 q k hq => by rw [f4.2.2 q k (by unfold cLo cSe; omega)]; exact e164 q k hq
    rw [wp_rI, s3.2.2.2.2.2.2.2.2.2.2.1, if_neg (nI_ge hjW (by omega)), wp_bnd]
    refine wp_mono (wp_unlikeWith s3 (by omega) hbW p5 hjW) (fun r w4 h4 => ?_)
    obtain ⟨rfl, f4⟩ := h4
    rw [(k8_fr (e3 _ j4) (Jof L g)).1, step_eq hTo hJ hC (by omega) hV hjW p6]
    have f4' : Fr (cLo a) w1 w4 := j4.tr (f4.sub (fun q k hq => Or.inl hq))
    have s4 := s2 _ f4'
    have hkl : k9 w L g p s j ≤ 156 := Nat.le_trans (k9_le p s j) hl
    rw [wp_bnd, (rd_stateOf s4 (by omega) hjW hbW').wp, rh_fr (e3 _ f4')]
    obtain ⟨r1, r2⟩ := rh_lt g8 (show p < 8 by omega) 0 j b
    rw [rh_fr e164] at r1
    have hcel := lv p (by omega) hpm j hjW _ r1
    obtain ⟨v, n, q1, q2, q3, q4⟩ := hcel
    have hAC := AC_eq hTo hJ hC (p := p + 1) (k := m - 1 - p) (by omega) (hV.nx hjW) (p6.nx (x := j) hJ)
    have en : n8 w (Jof L g) p (b, h) j = (j, rh w (Jof L g) p 0 j b) := rfl
    rw [en] at hAC
    rw [hAC] at q4
    have hv : v = mn9 W (k9 w L g) (p + 1) (m - 1 - p) (n9 p s j) := q4.mnl (AC_ne hW0)
    have q2' : gi w4 (54 + 1 + p) (8 * j + rh w (Jof L g) p 0 j b) = nI v := by rw [f4'.2.2 _ _ (by unfold cLo cSe; omega)]; exact q2
    rw [wp_gdn (by omega) (by omega), wp_aIc (by omega) (by omega) (by omega), q2', nI_add]
    by_cases hgo : k9 w L g p s j + v = l
    · have hgood : good W m (k9 w L g) p s j := by unfold good; rw [← hv, hgo]; exact p4
      have hje : gch W m (k9 w L g) p s = j := by
        rcases Nat.lt_or_ge j (gch W m (k9 w L g) p s) with z | z
        · exact absurd hgood (c3 j z)
        · omega
      have hgw : gwd W m (k9 w L g) p = j := by unfold gwd; rw [hst]; exact hje
      rw [if_pos (by rw [hgo]), wp_sIn (by omega) (by omega), wp_nm, pk_sub (by omega), wp_gd]
      refine ⟨by decide, ?_⟩
      rw [wp_nm, rem8 (by omega), ad1]
      have e8 : (8 * j + rh w (Jof L g) p 0 j b) % 8 = rh w (Jof L g) p 0 j b := by omega
      rw [e8]
      refine hs (m - (p + 1)) _ _ _ _ _ (by omega) ⟨p + 1, l - k9 w L g p s j, j, rh w (Jof L g) p 0 j b, by omega, rfl, rfl, rfl, rfl, rfl, by omega, ?_, by omega, ?_, fun i hi => ?_, f4'.si (Or.inr rfl)⟩
      · rw [gst_succ, hst, hgw, show m - (p + 1) = m - 1 - p by omega, ← hv]; omega
      · rw [gst_succ, hst, hgw]
        have := p6.nx (x := j) hJ
        exact this
      · by_cases e : i = p
        · rw [e, gi_si_s, hgw]
        · rw [gi_si_n (by omega), f4.2.2 _ _ (by unfold cSe; omega)]; exact j3 i (by omega)
    · rw [if_neg (fun z => hgo ((nI_eq (by omega) (by omega)).mp z)), ad1]
      have hng : ¬ good W m (k9 w L g) p s j := fun z => hgo (by unfold good at z; rw [← hv] at z; rw [z]; exact p4.symm)
      refine hs3 (W - (j + 1)) _ _ (by omega) ⟨j + 1, ?_, rfl, rfl, fun i hi => by rw [f4.2.2 _ _ (by unfold cSe; omega)]; exact j3 i hi, f4'⟩
      by_cases z : j = gch W m (k9 w L g) p s
      · rw [z] at hng; exact absurd c2 hng
      · omega
end NEAR
