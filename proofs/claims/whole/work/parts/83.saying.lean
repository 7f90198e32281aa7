/-! a saying is weighed: soundSo, rivals -/
section SAYING
variable {w w' w1 w2 : Wd} {t W m : Nat} {J : List (It × Nat)} {L : List (Nat × Bool)} {g : Nat → Nat}
/-- the class's cells of the weighing -/
def cK8 (q k : Nat) : Prop := 50 ≤ q ∧ q ≤ 148 ∧ ¬ (q = 148 ∧ k = 0)
def Fk (w w' : Wd) : Prop := (∀ q k, q ≠ 73 → gr w' q k = gr w q k) ∧ ∀ q k, ¬ cK8 q k → gi w' q k = gi w q k
theorem Fk.rf : Fk w w := ⟨fun _ _ _ => rfl, fun _ _ _ => rfl⟩
theorem Fk.tr (h : Fk w w1) (h2 : Fk w1 w2) : Fk w w2 := ⟨fun q k hq => (h2.1 q k hq).trans (h.1 q k hq), fun q k hq => (h2.2 q k hq).trans (h.2 q k hq)⟩
theorem Fk.of {C D : Nat → Nat → Prop} (f : Fg C D w w1) (h : ∀ q k, C q k → cK8 q k) : Fk w w1 := ⟨fun q k _ => by rw [f.1], fun q k hq => f.2.1 q k (fun hc => hq (h q k hc))⟩
theorem Fk.ofr {C : Nat → Nat → Prop} (f : Fr C w w1) (h : ∀ q k, C q k → cK8 q k) : Fk w w1 := ⟨fun q k _ => by rw [f.1], fun q k hq => f.2.2 q k (fun hc => hq (h q k hc))⟩
theorem cWe_K8 (q k : Nat) (h : cWe q k) : cK8 q k := by unfold cWe cSe at h; unfold cK8; omega
theorem c8_K8 (q k : Nat) (h : c8 q k) : cK8 q k := by unfold c8 at h; unfold cK8; omega
theorem cW_K8 (q k : Nat) (h : cW q k) : cK8 q k := by unfold cW at h; unfold cK8; omega
theorem core_K8 (ht : isT t) {q k : Nat} (h : core t q k) : ¬ cK8 q k := by
  unfold core cTxt cTon cBk cSl cHd at h
  unfold cK8
  omega
theorem Fk.eT (ht : isT t) (f : Fk w w') : Eqo (cTon t) w w' := fun q k hc => f.2 q k (core_K8 ht (Or.inr (Or.inl hc)))
theorem Fk.e164 (f : Fk w w') : ∀ q k, (q = 164 ∨ q = 165) → gi w' q k = gi w q k := fun q k hq => f.2 q k (by unfold cK8; omega)
theorem k8_fr (h : ∀ q k, (q = 164 ∨ q = 165) → gi w' q k = gi w q k) (J : List (It × Nat)) : k8 w' J = k8 w J ∧ n8 w' J = n8 w J := by
  constructor
  · funext p s x
    unfold k8
    rw [tcs_fr h, rh_fr h]
  · funext p s x
    unfold n8
    rw [rh_fr h]
theorem Wd8.to (hh : Wd8 W m w J w2) (h : ∀ q k, (q = 164 ∨ q = 165) → gi w q k = gi w' q k) : Wd8 W m w' J w2 := by
  obtain ⟨e1, e2⟩ := k8_fr (w := w') (w' := w) h J
  unfold Wd8 Lv8 Ce8 at hh ⊢
  rw [e1, e2] at hh
  exact hh
theorem wp_begin8 (ht : isT t) (hW : gi w t 0 = nI W) : wp (f_X3_begin t (nI m)) w (fun _ w' => Wn [] w' ∧ gr w' 73 0 = t + 1 ∧ gi w' 53 3 = nI W ∧ gi w' 53 4 = nI m ∧ Fk w w') := by
  unfold f_X3_begin f_X7_begin
  rw [wp_wI, wp_rI, gi_si_n (by unfold isT at ht; omega), hW, wp_wI, wp_bnd, wp_wR]
  refine wp_fix1 (fun n y w2 => ∃ p, p ≤ 8 ∧ n = 8 - p ∧ y = nI p ∧ (∀ p', p' < p → gi w2 74 p' = nI 0 ∧ gi w2 120 p' = nI 0) ∧ gr w2 73 0 = t + 1 ∧ gi w2 53 3 = nI W ∧ gi w2 53 4 = nI m ∧ Fk w w2) (fun n y w2 self hI hs => ?_) FU 8 0 _ (by have := FU_big; omega) ⟨0, by omega, by omega, rfl, fun p' h => by omega, ?_, ?_, ?_, ?_⟩
  · obtain ⟨p, p1, p2, rfl, p3, p4, p5, p6, p7⟩ := hI
    unfold f_X7_begin_7
    by_cases hp : p < 8
    · rw [if_neg (nge_l 8 hp (by omega)), wp_sIn (by omega) (by omega), wp_sIn (by omega) (by omega), ad1]
      refine hs (8 - (p + 1)) _ _ (by omega) ⟨p + 1, by omega, rfl, rfl, fun p' hp' => ?_, ?_, ?_, ?_, p7.tr ⟨fun q k _ => rfl, fun q k hq => ?_⟩⟩
      · by_cases e : p' = p
        · rw [e, gi_si_n (by omega), gi_si_s, gi_si_s]; exact ⟨rfl, rfl⟩
        · rw [gi_si_n (by omega), gi_si_n (by omega), gi_si_n (by omega), gi_si_n (by omega)]; exact p3 p' (by omega)
      · exact p4
      · rw [gi_si_n (by omega), gi_si_n (by omega)]; exact p5
      · rw [gi_si_n (by omega), gi_si_n (by omega)]; exact p6
      · unfold cK8 at hq
        rw [gi_si_n (by omega), gi_si_n (by omega)]
    · rw [if_pos (ge_l 8 (by omega) (by omega)), wp_rt, wp_rt]
      refine ⟨fun p' hp' => ⟨⟨(p3 p' (by omega)).1, fun j e he => by simp [tyR, rcs] at he⟩, ⟨(p3 p' (by omega)).2, fun j e he => by simp [spR, rcs] at he⟩⟩, p4, p5, p6, p7⟩
  · rw [gr_sr]; simp
  · rw [gi_sr, gi_si_s]
  · rw [gi_sr, gi_si_n (by omega), gi_si_s]
  · refine ⟨fun q k hq => ?_, fun q k hq => ?_⟩
    · rw [gr_sr, if_neg (by omega)]; rfl
    · unfold cK8 at hq
      rw [gi_sr, gi_si_n (by omega), gi_si_n (by omega)]
theorem rd_before8 {i : Nat} (hL : CLay L w) (hl : L.length ≤ 84) (hi : i < L.length) : Rd (f_X1_before (nI i)) w (m1 (bf L i)) := by
  obtain ⟨o1, o2⟩ := hL.2 i hi
  unfold Rd f_X1_before f_X1_before_13 f_X1_before_25 bf
  by_cases i0 : i = 0
  · rw [if_pos (eq_l 0 i0), wp_rt, if_pos (Or.inl i0)]
    exact ⟨rfl, rfl⟩
  · rw [if_neg (ne_l 0 i0 (by omega) (by omega)), wp_aIn (by omega) (by omega), o2]
    cases hbg : beg L i
    · obtain ⟨q1, q2⟩ := hL.2 (i - 1) (by omega)
      rw [if_pos (show nI (b2 false) = 0 from rfl), show nI i - 1 = nI (i - 1) from pk_sub (b := 1) (by omega), wp_aIn (by omega) (by omega), q1, wp_rt, if_neg (by simp [i0])]
      exact ⟨rfl, rfl⟩
    · rw [if_neg (show ¬ nI (b2 true) = 0 by decide), wp_rt, if_pos (Or.inr rfl)]
      exact ⟨rfl, rfl⟩
theorem rd_behind8 {i : Nat} (hL : CLay L w) (hl : L.length ≤ 84) (hi : i < L.length) : Rd (f_X1_behind (nI i)) w (m1 (af L i)) := by
  unfold Rd f_X1_behind f_X1_behind_21 f_X1_behind_33 af
  rw [wp_rI, hL.1, ad1]
  by_cases il : L.length ≤ i + 1
  · rw [if_pos (nI_le il (by omega)), wp_rt, if_pos (beg_out il)]
    exact ⟨rfl, rfl⟩
  · obtain ⟨q1, q2⟩ := hL.2 (i + 1) (by omega)
    rw [if_neg (nI_ge (by omega) (by omega)), wp_aIn (by omega) (by omega), q2]
    cases hbg : beg L (i + 1)
    · rw [if_pos (show nI (b2 false) = 0 from rfl), wp_aIn (by omega) (by omega), q1, wp_rt, if_neg (by simp)]
      exact ⟨rfl, rfl⟩
    · rw [if_neg (show ¬ nI (b2 true) = 0 by decide), wp_rt, if_pos rfl]
      exact ⟨rfl, rfl⟩
theorem Cap.pre {A B : List (It × Nat)} (h : Cap (A ++ B)) : Cap A := by
  intro p hp
  obtain ⟨h1, h2⟩ := h p hp
  unfold tyR at h1 ⊢
  unfold spR at h2 ⊢
  rw [rcs_app] at h1 h2
  have a1 := (rcs_len (P := isTy p) (key := tkey) B (rcs (isTy p) tkey A [])).1
  have a2 := (rcs_len (P := isSn p) (key := skey) B (rcs (isSn p) skey A [])).1
  omega
theorem Jok.pre {A B : List (It × Nat)} (h : Jok m (A ++ B)) : Jok m A := fun j hj => h j (List.mem_append.mpr (Or.inl hj))
theorem Jof_len : (Jof L g).length = L.length := by
  unfold Jof
  rw [List.length_map, List.length_range]
theorem Jof_take {i : Nat} (hi : i < L.length) : (Jof L g).take (i + 1) = (Jof L g).take i ++ [(itL L i, g i)] := by
  have hi' : i < (Jof L g).length := by rw [Jof_len]; exact hi
  rw [List.take_succ_eq_append_getElem hi']
  congr 1
  have : (Jof L g)[i] = (itL L i, g i) := by simp [Jof]
  rw [this]
theorem CLay.toW (h : CLay L w) (e : ∀ q k, 50 ≤ q → q ≤ 52 → gi w' q k = gi w q k) : CLay L w' := by
  refine ⟨by rw [e _ _ (by omega) (by omega)]; exact h.1, fun i hi => ?_⟩
  rw [e _ _ (by omega) (by omega), e _ _ (by omega) (by omega)]
  exact h.2 i hi
/-- what is known of a saying -/
def Sg (t W y m : Nat) (g : Nat → Nat) (w : Wd) : Prop := IRef t w ∧ ITon t W w ∧ IJoin t W w ∧ 0 < W ∧ y < 5 ∧ 1 ≤ m ∧ m ≤ 8 ∧ gi w 20 3 = nI (CL y m).length ∧ gi w 169 0 = nI (CL y m).length ∧ gi w 20 4 = nI y ∧ gi w 170 0 = nI y ∧ gi w 20 5 = nI m ∧ gi w 171 0 = nI m ∧ ∀ i, i < (CL y m).length → g i < 1024 ∧ gi w 29 i = nI (g i) ∧ gi w 172 i = nI (g i)
theorem Jof_ok {y : Nat} (hy : y < 5) (hm : m < 9) (h0 : 0 < m) (hg : ∀ i, i < (CL y m).length → g i < 1024) : Jok m (Jof (CL y m) g) := by
  intro j hj
  unfold Jof at hj
  obtain ⟨i, hi, rfl⟩ := List.mem_map.mp hj
  have hi := List.mem_range.mp hi
  refine ⟨?_, hg i hi⟩
  have h1 := its_ok y hy m hm h0
  rw [List.all_eq_true] at h1
  exact h1 _ (by unfold its; exact List.mem_map.mpr ⟨i, List.mem_range.mpr hi, rfl⟩)
theorem filt_len {α β : Type} (f : α → β) (P : β → Bool) : ∀ l : List α, ((l.map f).filter P).length = (l.filter (fun x => P (f x))).length
  | [] => rfl
  | a :: l => by
    rw [List.map_cons]
    cases h : P (f a)
    · rw [List.filter_cons_of_neg (by rw [h]; simp), List.filter_cons_of_neg (by show ¬ P (f a) = true; rw [h]; simp), filt_len f P l]
    · rw [List.filter_cons_of_pos h, List.filter_cons_of_pos (by show P (f a) = true; exact h), List.length_cons, List.length_cons, filt_len f P l]
theorem Jof_cap {y : Nat} (hy : y < 5) (hm : m < 9) : Cap (Jof (CL y m) g) := by
  intro p hp
  obtain ⟨h1, h2⟩ := its_cap y hy m hm p hp
  unfold its at h1 h2
  rw [filt_len] at h1 h2
  have a1 := (rcs_len (P := isTy p) (key := tkey) (Jof (CL y m) g) []).2
  have a2 := (rcs_len (P := isSn p) (key := skey) (Jof (CL y m) g) []).2
  unfold Jof at a1 a2
  rw [filt_len] at a1 a2
  unfold tyR spR Jof
  have b1 : (([] : List (TK × Nat)).length) = 0 := rfl
  have b2 : (([] : List (SK × Nat)).length) = 0 := rfl
  refine ⟨?_, ?_⟩
  · rw [b1, Nat.zero_add] at a1
    exact Nat.le_trans a1 h1
  · rw [b2, Nat.zero_add] at a2
    exact Nat.le_trans a2 h2
theorem wp_weighSaying {y : Nat} (hS : Sg t W y m g w) : wp f_X8_weighSaying w (fun _ w' => S8 t W m (Jof (CL y m) g) w' ∧ Wd8 W m w (Jof (CL y m) g) w' ∧ Fk w w') := by
  obtain ⟨hR, hTo, hJn, hW0, hy, hm1, hm8, e203, -, e204, -, e205, -, hg⟩ := hS
  have ht := hR.1
  have cl := clen_le y hy m (by omega)
  unfold clen at cl
  have hJ : Jok m (Jof (CL y m) g) := Jof_ok hy (by omega) hm1 (fun i hi => (hg i hi).1)
  have hC : Cap (Jof (CL y m) g) := Jof_cap hy (by omega)
  unfold f_X8_weighSaying
  rw [wp_tongue hR, wp_rI, e205, wp_bnd]
  refine wp_mono (wp_begin8 (m := m) ht hTo.2.1) (fun _ w1 h1 => ?_)
  obtain ⟨b1, b2, b3, b4, b5⟩ := h1
  rw [wp_rI, b5.2 _ _ (by unfold cK8; omega), e204, wp_rI, b5.2 _ _ (by unfold cK8; omega), e205, wp_bnd]
  refine wp_mono (wp_follow hy (by omega) hm1) (fun _ w2 h2 => ?_)
  obtain ⟨l1, l2⟩ := h2
  have f2 : Fk w w2 := b5.tr (Fk.ofr l2 c8_K8)
  generalize hLL : CL y m = L at *
  refine wp_fix1 (fun n x w3 => ∃ i, i ≤ L.length ∧ n = L.length - i ∧ x = nI i ∧ CLay L w3 ∧ Wn ((Jof L g).take i) w3 ∧ gr w3 73 0 = t + 1 ∧ gi w3 53 3 = nI W ∧ gi w3 53 4 = nI m ∧ Fk w w3) (fun n x w3 self hI hs => ?_) FU L.length 0 w2 (by have := FU_big; omega) ⟨0, by omega, by omega, rfl, l1, b1.to (fun q k h1 h2 => l2.2.2 q k (by unfold c8; omega)), by rw [l2.1]; exact b2, by rw [l2.2.2 _ _ (by unfold c8; omega)]; exact b3, by rw [l2.2.2 _ _ (by unfold c8; omega)]; exact b4, f2⟩
  obtain ⟨i, i1, i2, rfl, i3, i4, i5, i6, i7, i8⟩ := hI
  unfold f_X8_weighSaying_41
  rw [wp_rI, i3.1]
  by_cases hi : L.length ≤ i
  · rw [if_pos (nI_le hi (by omega)), wp_bnd]
    have eT := i8.eT ht
    rw [List.take_of_length_le (by rw [Jof_len]; exact hi)] at i4
    have s8 : S8 t W m (Jof L g) w3 := ⟨hTo.to eT, hJn.to hTo eT, ht, i5, by rw [i8.2 _ _ (by unfold cK8; omega)]; exact hR.2.2.2.2, i4, hJ, hC, hW0, hm8, i6, i7⟩
    refine wp_mono (wp_weigh s8 (by rw [Jof_len]; omega) hm1) (fun _ w4 h4 => ?_)
    rw [wp_rt]
    exact ⟨s8.to h4.2, h4.1.to i8.e164, i8.tr (Fk.of h4.2 cWe_K8)⟩
  · have hi' : i < L.length := by omega
    obtain ⟨o1, -⟩ := i3.2 i hi'
    obtain ⟨g1, g2, -⟩ := hg i hi'
    rw [if_neg (nI_ge hi' (by omega)), wp_bnd, (rd_before8 i3 cl hi').wp, wp_aIn (by omega) (by omega), o1, wp_bnd, (rd_behind8 i3 cl hi').wp, wp_aIn (by omega) (by omega), i8.2 _ _ (by unfold cK8; omega), g2, wp_bnd]
    have hsplit : (Jof L g).take (i + 1) ++ (Jof L g).drop (i + 1) = Jof L g := List.take_append_drop _ _
    have hJ' : Jok m ((Jof L g).take (i + 1)) := Jok.pre (B := (Jof L g).drop (i + 1)) (by rw [hsplit]; exact hJ)
    have hC' : Cap ((Jof L g).take (i + 1)) := Cap.pre (B := (Jof L g).drop (i + 1)) (by rw [hsplit]; exact hC)
    rw [Jof_take hi'] at hJ' hC'
    refine wp_mono (wp_want (j := (itL L i, g i)) hm8 i4 hJ' hC') (fun _ w4 h4 => ?_)
    obtain ⟨a1, a2⟩ := h4
    rw [ad1]
    refine hs (L.length - (i + 1)) _ _ (by omega) ⟨i + 1, by omega, rfl, rfl, i3.toW (fun q k h1 h2 => a2.2.2 q k (by unfold cW; omega)), by rw [Jof_take hi']; exact a1, by rw [a2.1]; exact i5, by rw [a2.2.2 _ _ (by unfold cW; omega)]; exact i6, by rw [a2.2.2 _ _ (by unfold cW; omega)]; exact i7, i8.tr (Fk.ofr a2 cW_K8)⟩
/-- the reference's cells of the weighing -/
def cN9 (q k : Nat) : Prop := (q = 161 ∧ (k = 19 ∨ k = 23)) ∨ (176 ≤ q ∧ q ≤ 185)
def Fn (w w' : Wd) : Prop := gr w' = gr w ∧ ∀ q k, ¬ cN9 q k → gi w' q k = gi w q k
theorem Fn.rf : Fn w w := ⟨rfl, fun _ _ _ => rfl⟩
theorem Fn.tr (h : Fn w w1) (h2 : Fn w1 w2) : Fn w w2 := ⟨h2.1.trans h.1, fun q k hq => (h2.2 q k hq).trans (h.2 q k hq)⟩
theorem Fn.of {C D : Nat → Nat → Prop} (f : Fg C D w w1) (h : ∀ q k, C q k → cN9 q k) : Fn w w1 := ⟨f.1, fun q k hq => f.2.1 q k (fun hc => hq (h q k hc))⟩
theorem Fn.ofr {C : Nat → Nat → Prop} (f : Fr C w w1) (h : ∀ q k, C q k → cN9 q k) : Fn w w1 := ⟨f.1, fun q k hq => f.2.2 q k (fun hc => hq (h q k hc))⟩
theorem c9_N9 (q k : Nat) (h : c9 q k) : cN9 q k := by unfold c9 at h; unfold cN9; omega
theorem c3_N9 (q k : Nat) (h : c3 q k) : cN9 q k := by unfold c3 at h; unfold cN9; omega
theorem core_N9 (ht : isT t) {q k : Nat} (h : core t q k) : ¬ cN9 q k := by
  unfold core cTxt cTon cBk cSl cHd at h
  unfold cN9
  omega
theorem Fn.eT (ht : isT t) (f : Fn w w') : Eqo (cTon t) w w' := fun q k hc => f.2 q k (core_N9 ht (Or.inr (Or.inl hc)))
theorem Fn.e164 (f : Fn w w') : ∀ q k, (q = 164 ∨ q = 165) → gi w' q k = gi w q k := fun q k hq => f.2 q k (by unfold cN9; omega)
theorem k9_fr (h : ∀ q k, (q = 164 ∨ q = 165) → gi w' q k = gi w q k) (L : List (Nat × Bool)) (g : Nat → Nat) : k9 w' L g = k9 w L g := by
  funext p s x
  unfold k9
  rw [un_fr h]
theorem near_CL {y : Nat} (hy : y < 5) (hm : m < 9) : nearOk (CL y m) = true := by
  have := near_all (2 ^ y) (two32 y hy) m hm
  rw [LW_one y hy m hm] at this
  exact this
theorem wp_laySaying {y : Nat} (ht : isT t) (hTo : ITon t W w) (hW0 : 0 < W) (hy : y < 5) (hm1 : 1 ≤ m) (hm8 : m ≤ 8) (e170 : gi w 170 0 = nI y) (e171 : gi w 171 0 = nI m) (hg : ∀ i, i < (CL y m).length → g i < 1024 ∧ gi w 172 i = nI (g i)) : wp f_X9_laySaying w (fun _ w' => S9 t W m (CL y m) g w' ∧ Lev W m (k9 w (CL y m) g) 0 w' ∧ Fn w w') := by
  have cl := clen_le y hy m (by omega)
  unfold clen at cl
  unfold f_X9_laySaying
  rw [wp_a0 (by omega) (by omega), e170, wp_a0 (by omega) (by omega), e171, bitw hy, wp_bnd]
  refine wp_mono (wp_layWays (two32 y hy) (by omega) hm1) (fun _ w1 h1 => ?_)
  rw [LW_one y hy _ (by omega)] at h1
  obtain ⟨r1, r2, r3⟩ := h1
  have lt := CL_lt y hy m (by omega) hm1
  have hnear := near_CL (m := m) hy (by omega)
  generalize hLL : CL y m = L at *
  refine wp_fix1 (fun n x w2 => ∃ i, i ≤ L.length ∧ n = L.length - i ∧ x = nI i ∧ (∀ j, j < i → gi w2 182 j = nI (g j)) ∧ Fr (fun q _ => q = 182) w1 w2) (fun n x w2 self hI hs => ?_) FU L.length 0 w1 (by have := FU_big; omega) ⟨0, by omega, by omega, rfl, fun j hj => by omega, Fr.rf⟩
  obtain ⟨i, i1, i2, rfl, i3, i4⟩ := hI
  have f2 : Fn w w2 := (Fn.ofr r3 c9_N9).tr (Fn.ofr i4 (fun q k h => by unfold cN9; omega))
  unfold f_X9_laySaying_20
  rw [wp_rI, i4.2.2 _ _ (by omega), r1.1]
  by_cases hi : L.length ≤ i
  · rw [if_pos (nI_le hi (by omega)), wp_a0 (by omega) (by omega), f2.2 _ _ (by unfold cN9; omega), e171, wp_bnd]
    have s9 : S9 t W m L g w2 := by
      refine ⟨hTo.to (f2.eT ht), hW0, hm8, ⟨?_, fun j hj => ?_⟩, by omega, ⟨fun p hp => ?_, fun j hj => ?_⟩, lt, hnear, fun j hj => ⟨(hg j hj).1, i3 j (by omega)⟩⟩
      · rw [i4.2.2 _ _ (by omega)]; exact r1.1
      · rw [i4.2.2 _ _ (by omega), i4.2.2 _ _ (by omega), i4.2.2 _ _ (by omega)]; exact r1.2 j hj
      · rw [i4.2.2 _ _ (by omega)]; exact r2.1 p hp
      · rw [i4.2.2 _ _ (by omega)]; exact r2.2 j hj
    refine wp_mono (wp_layLeast ht s9) (fun _ w3 h3 => ?_)
    rw [wp_rt]
    refine ⟨s9.to ht h3.2, ?_, f2.tr (Fn.of h3.2 c3_N9)⟩
    rw [← k9_fr f2.e164]
    exact h3.1
  · have hi' : i < L.length := by omega
    rw [if_neg (nI_ge hi' (by omega)), wp_aIn (by omega) (by omega), f2.2 _ _ (by unfold cN9; omega), (hg i hi').2, wp_sIn (by omega) (by omega), ad1]
    refine hs (L.length - (i + 1)) _ _ (by omega) ⟨i + 1, by omega, rfl, rfl, fun j hj => ?_, i4.si rfl⟩
    by_cases e : j = i
    · rw [e, gi_si_s]
    · rw [gi_si_n (by omega)]; exact i3 j (by omega)
theorem MC.two {I I' : Nat} {l : List Nat} {v n v' n' : Nat} (h : MC I l v n) (h' : MC I' l v' n') (hl : l ≠ []) : v = v' ∧ n = n' := by
  rcases h with ⟨h, -⟩ | ⟨h1, h2, h3⟩
  · exact absurd h hl
  · rcases h' with ⟨h, -⟩ | ⟨g1, g2, g3⟩
    · exact absurd h hl
    · have := h2 v' g1
      have := g2 v h1
      have e : v = v' := by omega
      subst e
      exact ⟨rfl, by rw [h3, g3]⟩
/-- both sides one behind the other leave Inv -/
theorem same_KN (hR : IRef t w) (ht : isT t) (h1 : Fk w w1) (h73 : gr w1 73 0 = t + 1) (h2 : Fn w1 w2) : Same t w w2 := by
  refine ⟨fun q k hc => ?_, ?_, ?_, ?_⟩
  · rw [h2.2 q k (core_N9 ht hc), h1.2 q k (core_K8 ht hc)]
  · rw [h2.1, h1.1 _ _ (by omega)]
  · rw [h2.1, h1.1 _ _ (by omega)]
  · rw [h2.1, h73]; unfold isT at ht; omega
/-- a saying that there is -/
theorem say_of (hR : IRef t w) (hTo : ITon t W w) (hJ : IJoin t W w) (hS : ISy W 0 w) (h0 : ¬ gi w 20 3 = 0) : ∃ y m g, Sg t W y m g w := by
  obtain ⟨n, h1, h2, h3, h4⟩ := hS
  have hn : n ≠ 0 := fun e => h0 (by rw [show (20 : Nat) = 20 + 10 * 0 by omega, h2, e]; rfl)
  obtain ⟨hW, y, m, g1, g2, g3, g4, g5, g6, g7, g8, g9⟩ := h4 hn
  subst g4
  refine ⟨y, m, fun i => (gi w 29 i).toNatClampNeg, hR, hTo, hJ, hW, g1, g2, g3, h2, h3, g5, g6, g7, g8, fun i hi => ?_⟩
  obtain ⟨k, k1, k2, k3⟩ := g9 i hi
  have k2 : gi w 29 i = nI k := k2
  have k3 : gi w 172 i = nI k := by rw [show 84 * 0 + i = i by omega] at k3; exact k3
  have e : (gi w 29 i).toNatClampNeg = k := by rw [k2, cl_nI (by omega)]
  refine ⟨by show (gi w 29 i).toNatClampNeg < 1024; rw [e]; exact k1, ?_, ?_⟩
  · show gi w 29 i = nI (gi w 29 i).toNatClampNeg; rw [e]; exact k2
  · show gi w 172 i = nI (gi w 29 i).toNatClampNeg; rw [e]; exact k3
theorem Sg.len {y : Nat} (h : Sg t W y m g w) : ¬ gi w 20 3 = 0 ∧ ¬ gi w 169 0 = 0 := by
  obtain ⟨-, -, -, -, hy, hm1, hm8, e1, e2, -⟩ := h
  have h1 := clen_pos y hy m (by omega) (by omega)
  have h2 := clen_le y hy m (by omega)
  unfold clen at h1 h2
  rw [e1, e2]
  exact ⟨ne_l 0 (by omega) (by omega) (by omega), ne_l 0 (by omega) (by omega) (by omega)⟩
theorem sayN (hS : ISy W 0 w) (h0 : gi w 20 3 = 0) : gi w 169 0 = 0 := by
  obtain ⟨n, h1, h2, h3, -⟩ := hS
  have h2 : gi w 20 3 = nI n := h2
  have h3 : gi w 169 0 = nI n := h3
  rw [h3, ← h2, h0]
/-- both sides have weighed a saying -/
theorem wp_both {y : Nat} (hS : Sg t W y m g w) {R : Type} {K8 K9 : M R} {Q : R → R → Wd → Prop} (h : ∀ w1, S8 t W m (Jof (CL y m) g) w1 → Wd8 W m w (Jof (CL y m) g) w1 → Fk w w1 → wp K8 w1 (fun a w2 => Fk w w2 ∧ gr w2 73 0 = t + 1 ∧ ∀ w3, S9 t W m (CL y m) g w3 → Lev W m (k9 w (CL y m) g) 0 w3 → Fn w2 w3 → wp K9 w3 (fun b w4 => Q a b w4))) : wp (bnd f_X8_weighSaying (fun _ => K8)) w (fun a w2 => Fk w w2 ∧ wp (bnd f_X9_laySaying (fun _ => K9)) w2 (fun b w4 => Q a b w4)) := by
  rw [wp_bnd]
  refine wp_mono (wp_weighSaying hS) (fun _ w1 h1 => ?_)
  refine wp_mono (h w1 h1.1 h1.2.1 h1.2.2) (fun a w2 h2 => ?_)
  obtain ⟨f2, -, h3⟩ := h2
  obtain ⟨hR, hTo, hJn, hW0, hy, hm1, hm8, e203, e169, e204, e170, e205, e171, hg⟩ := hS
  have ht := hR.1
  refine ⟨f2, ?_⟩
  rw [wp_bnd]
  refine wp_mono (wp_laySaying (y := y) (m := m) (g := g) ht (hTo.to (f2.eT ht)) hW0 hy hm1 hm8 (by rw [f2.2 _ _ (by unfold cK8; omega)]; exact e170) (by rw [f2.2 _ _ (by unfold cK8; omega)]; exact e171) (fun i hi => ⟨(hg i hi).1, by rw [f2.2 _ _ (by unfold cK8; omega)]; exact (hg i hi).2.2⟩)) (fun _ w3 h4 => ?_)
  obtain ⟨a1, a2, a3⟩ := h4
  rw [k9_fr f2.e164] at a2
  exact h3 w3 a1 a2 a3
theorem Sg.ac {y : Nat} (hS : Sg t W y m g w) : AC W (k8 w (Jof (CL y m) g)) (n8 w (Jof (CL y m) g)) 0 m (16, 0) = AC W (k9 w (CL y m) g) n9 0 m (0, 0) := by
  obtain ⟨hR, hTo, hJn, hW0, hy, hm1, hm8, e203, e169, e204, e170, e205, e171, hg⟩ := hS
  exact AC_eq hTo (Jof_ok hy (by omega) hm1 (fun i hi => (hg i hi).1)) (Jof_cap hy (by omega)) (by omega) (V9_0 W) (rel_0 w _)
theorem Lev.zero {c : Nat → Nat × Nat → Nat → Nat} (h : Lev W m c 0 w) : Cel W c 0 m (0, 0) w := h 0 (by omega) (by omega) _ (V9_0 W)
theorem pr_soundSo (hw : Inv w) : Pair f_X8_soundSo f_X9_soundSo w := by
  obtain ⟨t, W, hR, hT, hTo, hJ, hV, hS, hK, hL, hH⟩ := id hw
  have ht := hR.1
  unfold Pair f_X8_soundSo f_X9_soundSo f_X8_soundSo_39
  rw [wp_rI]
  by_cases h0 : gi w 20 3 = 0
  · rw [if_pos h0, wp_rt, wp_a0 (by omega) (by omega), if_pos (sayN hS h0), wp_rt]
    exact ⟨rfl, hw⟩
  · obtain ⟨y, m, g, hSg⟩ := say_of hR hTo hJ hS h0
    rw [if_neg h0]
    have e169 := hSg.len.2
    refine wp_mono (wp_both hSg (K8 := rI 53 1 (fun v3 => if v3 = 0 then (rL 53 2 (fun v4 => (rt v4 : M Int64))) else (rt 0))) (K9 := aL 185 2304 0 (fun v4 => (rt v4 : M Int64))) (Q := fun a b w4 => b = a ∧ Inv w4) (fun w1 s1 wd1 f1 => ?_)) (fun a w2 h2 => ?_)
    · obtain ⟨-, v, n, q1, q2, q3, q4⟩ := wd1
      rw [hSg.ac] at q4
      have hne : AC W (k9 w (CL y m) g) n9 0 m (0, 0) ≠ [] := AC_ne hSg.2.2.2.1
      have fin : ∀ r : Int64, r = lN ((AC W (k9 w (CL y m) g) n9 0 m (0, 0)).count 0) → Fk w w1 ∧ gr w1 73 0 = t + 1 ∧ ∀ w3, S9 t W m (CL y m) g w3 → Lev W m (k9 w (CL y m) g) 0 w3 → Fn w1 w3 → wp (aL 185 2304 0 (fun v4 => (rt v4 : M Int64))) w3 (fun b w4 => b = r ∧ Inv w4) := by
        intro r hr
        refine ⟨f1, s1.2.2.2.1, fun w3 s3 l3 f3 => ?_⟩
        obtain ⟨v', n', z', c1, c2, c3, c4, c5, c6⟩ := l3.zero
        show wp (aL 185 2304 (nI 0) _) w3 _
        rw [wp_aLn (by omega) (by omega), wp_rt]
        refine ⟨?_, Same.inv hR hT hTo hJ hV hS hK hL hH (same_KN hR ht f1 s1.2.2.2.1 f3)⟩
        rw [hr, ← c6]
        exact c4
      rw [wp_rI, q2]
      rcases q4 with ⟨h, -⟩ | ⟨h1, h2, h3⟩
      · exact absurd h hne
      · by_cases v0 : v = 0
        · rw [if_pos (eq_l 0 v0), wp_rL, q3, wp_rt]
          refine fin _ ?_
          rw [h3, v0]
        · rw [if_neg (ne_l 0 v0 (by omega) (by omega)), wp_rt]
          refine fin _ ?_
          rw [List.count_eq_zero.mpr (fun z => by have := h2 0 z; omega)]
          rfl
    · obtain ⟨f2, h3⟩ := h2
      rw [wp_a0 (by omega) (by omega), f2.2 _ _ (by unfold cK8; omega), if_neg e169]
      exact h3
theorem pr_rivals (hw : Inv w) : Pair f_X8_rivals f_X9_rivals w := by
  obtain ⟨t, W, hR, hT, hTo, hJ, hV, hS, hK, hL, hH⟩ := id hw
  have ht := hR.1
  unfold Pair f_X8_rivals f_X9_rivals
  rw [wp_rI]
  by_cases h0 : gi w 20 3 = 0
  · rw [if_pos h0, wp_rt, wp_a0 (by omega) (by omega), if_pos (sayN hS h0), wp_rt]
    exact ⟨rfl, hw⟩
  · obtain ⟨y, m, g, hSg⟩ := say_of hR hTo hJ hS h0
    rw [if_neg h0]
    have e169 := hSg.len.2
    refine wp_mono (wp_both hSg (K8 := rL 53 2 (fun v3 => (rt v3 : M Int64))) (K9 := aL 184 2304 0 (fun v4 => (rt v4 : M Int64))) (Q := fun a b w4 => b = a ∧ Inv w4) (fun w1 s1 wd1 f1 => ?_)) (fun a w2 h2 => ?_)
    · obtain ⟨-, v, n, q1, q2, q3, q4⟩ := wd1
      rw [hSg.ac] at q4
      have hne : AC W (k9 w (CL y m) g) n9 0 m (0, 0) ≠ [] := AC_ne hSg.2.2.2.1
      rw [wp_rL, q3, wp_rt]
      refine ⟨f1, s1.2.2.2.1, fun w3 s3 l3 f3 => ?_⟩
      obtain ⟨v', n', z', c1, c2, c3, c4, c5, c6⟩ := l3.zero
      show wp (aL 184 2304 (nI 0) _) w3 _
      rw [wp_aLn (by omega) (by omega), wp_rt]
      refine ⟨?_, Same.inv hR hT hTo hJ hV hS hK hL hH (same_KN hR ht f1 s1.2.2.2.1 f3)⟩
      rw [(q4.two c5 hne).2]
      exact c3
    · obtain ⟨f2, h3⟩ := h2
      rw [wp_a0 (by omega) (by omega), f2.2 _ _ (by unfold cK8; omega), if_neg e169]
      exact h3
end SAYING
