/-! best: the pair -/
section BEST2
variable {w w' w0 w1 w2 : Wd} {t W m : Nat}
theorem sum_fm {α β : Type} (f : α → List β) (h : β → Nat) : ∀ l : List α, ((l.flatMap f).map h).sum = (l.map (fun y => ((f y).map h).sum)).sum
  | [] => rfl
  | a :: l => by
    rw [List.flatMap_cons, List.map_append, List.sum_append, sum_fm f h l, List.map_cons, List.sum_cons]
theorem sum_mono {α : Type} {f h : α → Nat} : ∀ {l : List α}, (∀ x ∈ l, f x ≤ h x) → (l.map f).sum ≤ (l.map h).sum
  | [], _ => Nat.le_refl _
  | a :: l, e => by
    have h1 := e a (by simp)
    have h2 := sum_mono (l := l) (fun x hx => e x (by simp [hx]))
    rw [List.map_cons, List.map_cons, List.sum_cons, List.sum_cons]
    omega
/-- a set's costs are the sum of its ways' -/
theorem k9_sum {S : Nat} (hm : m < 9) (r : Nat → Nat) (p : Nat) (s : Nat × Nat) (x : Nat) : k9 w (LW S m) (tkL w (LW S m) r) p s x = ((List.range 5).map (fun y => if S.testBit y then ((its (CL y m)).map (fun i => if ltt i = p then uit w (rr p s.1 s.2 x) (i, tkt w r i) else 0)).sum else 0)).sum := by
  unfold k9
  rw [un_sum, Jof_Jr]
  unfold Jr
  have e : its (LW S m) = _ := its_LWp (S := S) hm 5 (by omega)
  rw [e, List.map_map, sum_fm]
  refine sum_congr (fun y _ => ?_)
  split
  · rfl
  · rfl
theorem k9_mono {S S' : Nat} (hm : m < 9) (h : ∀ y, y < 5 → S.testBit y = true → S'.testBit y = true) (r : Nat → Nat) (p : Nat) (s : Nat × Nat) (x : Nat) : k9 w (LW S m) (tkL w (LW S m) r) p s x ≤ k9 w (LW S' m) (tkL w (LW S' m) r) p s x := by
  rw [k9_sum hm, k9_sum hm]
  refine sum_mono (fun y hy => ?_)
  have hy := List.mem_range.mp hy
  by_cases c : S.testBit y = true
  · rw [if_pos c, if_pos (h y hy c)]
    exact Nat.le_refl _
  · rw [if_neg c]
    exact Nat.zero_le _
theorem PC_mono {σ : Type} {c c' : Nat → σ → Nat → Nat} {nx : Nat → σ → Nat → σ} (h : ∀ p s x, c p s x ≤ c' p s x) : ∀ (l : List Nat) (p : Nat) (s : σ), PC c nx p s l ≤ PC c' nx p s l
  | [], _, _ => Nat.le_refl _
  | x :: l, p, s => by
    have h1 := h p s x
    have h2 := PC_mono (nx := nx) h l (p + 1) (nx p s x)
    show c p s x + _ ≤ c' p s x + _
    omega
theorem mn9_mono {c c' : Nat → Nat × Nat → Nat → Nat} (hW : 0 < W) (h : ∀ p s x, c p s x ≤ c' p s x) (p k : Nat) (s : Nat × Nat) : mn9 W c p k s ≤ mn9 W c' p k s := by
  unfold mn9
  obtain ⟨h1, -⟩ := mnl_mem (l := AC W c' n9 p k s) (AC_ne hW)
  obtain ⟨-, h2⟩ := mnl_mem (l := AC W c n9 p k s) (AC_ne hW)
  have h1' := h1
  unfold AC at h1
  obtain ⟨l, hl, e⟩ := List.mem_map.mp h1
  have h3 := h2 (PC c n9 p s l) (by unfold AC; exact List.mem_map.mpr ⟨l, hl, rfl⟩)
  have h4 := PC_mono h (nx := n9) l p s
  have e : PC c' n9 p s l = mnl (AC W c' n9 p k s) := e
  omega
theorem mem_FVs {c : Nat → Nat × Nat → Nat → Nat} {r : Nat → Nat} {u : Nat} : u ∈ FVs W m c r m 0 ↔ ∃ p x, p < m ∧ x < W ∧ x ≠ r p ∧ u = fvx W m c r p x := by
  unfold FVs
  constructor
  · intro h
    rcases List.mem_append.mp h with h | h
    · obtain ⟨p, hp, hu⟩ := List.mem_flatMap.mp h
      unfold fro at hu
      obtain ⟨x, hx, hv⟩ := List.mem_flatMap.mp hu
      by_cases e : x = r p
      · rw [if_pos e] at hv; cases hv
      · rw [if_neg e] at hv
        exact ⟨p, x, List.mem_range.mp hp, List.mem_range.mp hx, e, by simpa using hv⟩
    · unfold fro at h
      cases h
  · rintro ⟨p, x, hp, hx, hne, rfl⟩
    refine List.mem_append.mpr (Or.inl (List.mem_flatMap.mpr ⟨p, List.mem_range.mpr hp, ?_⟩))
    unfold fro
    refine List.mem_flatMap.mpr ⟨x, List.mem_range.mpr hx, ?_⟩
    rw [if_neg hne]
    exact List.mem_cons.mpr (Or.inl rfl)
theorem farN_mono {S S' : Nat} (hW : 2 ≤ W) (hm0 : 0 < m) (hm : m < 9) (h : ∀ y, y < 5 → S.testBit y = true → S'.testBit y = true) (r : Nat → Nat) : farN w W m r S ≤ farN w W m r S' := by
  unfold farN
  have hk := k9_mono (w := w) hm h r
  generalize k9 w (LW S m) (tkL w (LW S m) r) = c at hk
  generalize k9 w (LW S' m) (tkL w (LW S' m) r) = c' at hk
  obtain ⟨h1, -⟩ := mnl_mem (FVs_ne (c := c') (r := r) hW hm0)
  obtain ⟨-, h2⟩ := mnl_mem (FVs_ne (c := c) (r := r) hW hm0)
  obtain ⟨p, x, a1, a2, a3, a4⟩ := mem_FVs.mp h1
  have h3 := h2 _ (mem_FVs.mpr ⟨p, x, a1, a2, a3, rfl⟩)
  have h4 := hk p (str r p) x
  have h5 := mn9_mono (W := W) (by omega) hk (p + 1) (m - 1 - p) (n9 p (str r p) x)
  rw [a4]
  unfold fvx at h3 ⊢
  omega
theorem farN_0 (hW : 2 ≤ W) (hm0 : 0 < m) (hm : m < 9) (r : Nat → Nat) : farN w W m r 0 = 0 := by
  have hz : ∀ p s x, k9 w (LW 0 m) (tkL w (LW 0 m) r) p s x ≤ 0 := by
    intro p s x
    rw [k9_sum hm]
    simp [Nat.zero_testBit]
    decide
  unfold farN
  generalize k9 w (LW 0 m) (tkL w (LW 0 m) r) = c at hz
  obtain ⟨h1, -⟩ := mnl_mem (FVs_ne (c := c) (r := r) hW hm0)
  obtain ⟨p, x, -, -, -, a4⟩ := mem_FVs.mp h1
  have h2 := hz p (str r p) x
  have h3 := mn9_le hz (show 0 < W by omega) (p := p + 1) (k := m - 1 - p) (s := n9 p (str r p) x)
  rw [a4]
  unfold fvx
  omega
-- hours
def hrk (w : Wd) (k : Nat) : Nat := (gi w 166 k).toNatClampNeg
def hsm (w : Wd) (S : Nat) : Nat := sm (fun k => if S.testBit k then hrk w k else 0) 5
theorem hrk_ok (hTo : ITon t W w) {k : Nat} (hk : k < 5) : gi w (t + 5) k = nI (hrk w k) ∧ gi w 166 k = nI (hrk w k) ∧ hrk w k < 100 := by
  obtain ⟨h1, n, h2, h3⟩ := hTo.2.2.2.2.2 k hk
  have e : hrk w k = n := by unfold hrk; rw [h3, cl_nI (by omega)]
  rw [e]
  exact ⟨by rw [h1]; exact h3, h3, h2⟩
theorem hsm_le (hTo : ITon t W w) (S : Nat) : hsm w S ≤ 500 := by
  have := sm_le (f := fun k => if S.testBit k then hrk w k else 0) (b := 100) 5 (fun i hi => by
    have := (hrk_ok hTo hi).2.2
    show (if S.testBit i then hrk w i else 0) ≤ 100
    split <;> omega)
  unfold hsm
  omega
theorem hsm_0 : hsm w 0 = 0 := by
  unfold hsm
  simp [sm, Nat.zero_testBit]
theorem rd_hours8 (ht : isT t) (hTo : ITon t W w) {S : Nat} (hS : S < 32) : Rd (f_X6_hoursOf t (nI S)) w (nI (hsm w S)) := by
  unfold Rd f_X6_hoursOf
  refine wp_fix2 (fun n u v w' => ∃ k, k ≤ 5 ∧ n = 5 - k ∧ v = nI k ∧ u = nI (sm (fun k => if S.testBit k then hrk w k else 0) k) ∧ w' = w) (fun n u v w' self hI hs => ?_) FU 5 0 0 w (by have := FU_big; omega) ⟨0, by omega, by omega, rfl, rfl, rfl⟩
  obtain ⟨k, k1, k2, rfl, rfl, rfl⟩ := hI
  unfold f_X6_hoursOf_4
  by_cases hk : k < 5
  · obtain ⟨a1, -, a3⟩ := hrk_ok hTo hk
    rw [if_neg (nge_l 5 hk (by omega)), wp_aIn (by omega) (by omega), a1, bitx (nI S) (by omega), bt_nI (by omega), wp_nm, ad1]
    refine hs (5 - (k + 1)) _ _ _ (by omega) ⟨k + 1, by omega, rfl, rfl, ?_, rfl⟩
    rw [sm_succ]
    cases S.testBit k
    · show _ + (0 : Int32) * _ = nI (_ + 0)
      rw [Int32.zero_mul, Int32.add_zero]; rfl
    · show _ + (1 : Int32) * _ = nI (_ + hrk w' k)
      rw [Int32.one_mul, nI_add]
  · rw [if_pos (ge_l 5 (by omega) (by omega)), wp_rt, show k = 5 by omega]
    exact ⟨rfl, rfl⟩
theorem rd_hours9 (hTo : ITon t W w) {S : Nat} (hS : S < 32) : Rd (f_X9_hoursOf (nI S)) w (nI (hsm w S)) := by
  unfold Rd f_X9_hoursOf
  refine wp_fix2 (fun n u v w' => ∃ k, k ≤ 5 ∧ n = 5 - k ∧ v = nI k ∧ u = nI (sm (fun k => if S.testBit k then hrk w k else 0) k) ∧ w' = w) (fun n u v w' self hI hs => ?_) FU 5 0 0 w (by have := FU_big; omega) ⟨0, by omega, by omega, rfl, rfl, rfl⟩
  obtain ⟨k, k1, k2, rfl, rfl, rfl⟩ := hI
  unfold f_X9_hoursOf_4 f_X9_hoursOf_28
  by_cases hk : k < 5
  · obtain ⟨-, a2, a3⟩ := hrk_ok hTo hk
    rw [if_neg (nge_l 5 hk (by omega)), wp_bnd, (rd_has _ (by omega)).wp, bt_nI (by omega), ad1]
    have go : ∀ z, z = (if S.testBit k then hrk w' k else 0) → wp (nm (nI (sm (fun k => if S.testBit k then hrk w' k else 0) k) + nI z) (fun v1 => self v1 (nI (k + 1)))) w' (fun r w'' => r = nI (hsm w' S) ∧ w'' = w') := by
      intro z hz
      rw [wp_nm, nI_add]
      refine hs (5 - (k + 1)) _ _ _ (by omega) ⟨k + 1, by omega, rfl, rfl, ?_, rfl⟩
      rw [sm_succ, hz]
    cases hb : S.testBit k
    · rw [if_pos (by rfl)]
      exact go 0 (by rw [hb]; rfl)
    · rw [if_neg (by decide), wp_aIn (by omega) (by omega), a2]
      exact go _ (by rw [hb]; rfl)
  · rw [if_pos (ge_l 5 (by omega) (by omega)), wp_rt, show k = 5 by omega]
    exact ⟨rfl, rfl⟩
theorem hsm_fr (h : ∀ k, gi w' 166 k = gi w 166 k) (S : Nat) : hsm w' S = hsm w S := by
  unfold hsm hrk
  refine sm_congr _ (fun k _ => ?_)
  rw [h]
/-- the best set and how far -/
def Bs (H F : Nat → Nat) (hh lo fa mo : Nat) : Prop := lo ≤ fa ∧ fa < 32 ∧ H fa ≤ hh ∧ F fa = mo ∧ (∀ S, lo ≤ S → S < 32 → H S ≤ hh → F S ≤ mo) ∧ ∀ S, lo ≤ S → S < fa → H S ≤ hh → F S < mo
def Bs9 (H F : Nat → Nat) (hh hi be fr : Nat) : Prop := (∀ S, 1 ≤ S → S < hi → H S ≤ hh → F S ≤ fr) ∧ ((fr = 0 ∧ be = 0) ∨ (1 ≤ be ∧ be < hi ∧ H be ≤ hh ∧ F be = fr ∧ 0 < fr ∧ ∀ S, 1 ≤ S → S < be → H S ≤ hh → F S < fr))
theorem Bs.eq {H F : Nat → Nat} {hh fa mo be fr : Nat} (H0 : H 0 ≤ hh) (F0 : F 0 = 0) (h : Bs H F hh 0 fa mo) (h9 : Bs9 H F hh 32 be fr) : be = fa ∧ fr = mo := by
  obtain ⟨-, a2, a3, a4, a5, a6⟩ := h
  obtain ⟨b1, b2⟩ := h9
  rcases b2 with ⟨rfl, rfl⟩ | ⟨c1, c2, c3, c4, c5, c6⟩
  · have hmo : mo = 0 := by
      by_cases e : fa = 0
      · rw [e] at a4; omega
      · have := b1 fa (by omega) a2 a3; omega
    have hfa : fa = 0 := by
      by_cases e : fa = 0
      · exact e
      · have := a6 0 (by omega) (by omega) H0; omega
    exact ⟨hfa.symm, hmo.symm⟩
  · have h1 := a5 be (by omega) c2 c3
    have hfa : fa ≠ 0 := fun e => by rw [e] at a4; omega
    have h2 := b1 fa (by omega) a2 a3
    have hmo : mo = fr := by omega
    refine ⟨?_, hmo.symm⟩
    rcases Nat.lt_trichotomy be fa with z | z | z
    · have := a6 be (by omega) z c3; omega
    · exact z
    · have := c6 fa (by omega) z a3; omega
theorem or5 : ∀ S, S < 32 → ∀ k, k < 5 → nI S ||| nI (2 ^ k) = nI (S ||| 2 ^ k) ∧ S ||| 2 ^ k < 32 ∧ (S.testBit k = false → S < S ||| 2 ^ k) := by decide +kernel
theorem or5b (S k y : Nat) (h : S.testBit y = true) : (S ||| 2 ^ k).testBit y = true := by
  rw [Nat.testBit_or, h]
  rfl
/-- the ceiling is no lower than what it covers -/
theorem wp_ceiling {F : Nat → Nat} {S : Nat} (hS : S < 32) (hF : F S ≤ 1000000) (hmono : ∀ k, k < 5 → F S ≤ F (S ||| 2 ^ k)) (hA : ∀ S', S < S' → S' < 32 → ∃ v, F S' ≤ v ∧ v ≤ 1000000 ∧ gi w 160 S' = nI v) : wp (f_X8_ceilingOf (nI S)) w (fun r w' => w' = w ∧ ∃ v, F S ≤ v ∧ v ≤ 1000000 ∧ r = nI v) := by
  unfold f_X8_ceilingOf
  refine wp_fix2 (fun n u x w' => ∃ k v, k ≤ 5 ∧ n = 5 - k ∧ x = nI k ∧ u = nI v ∧ F S ≤ v ∧ v ≤ 1000000 ∧ w' = w) (fun n u x w' self hI hs => ?_) FU 5 1000000 0 w (by have := FU_big; omega) ⟨0, 1000000, by omega, by omega, rfl, rfl, hF, by omega, rfl⟩
  obtain ⟨k, v, k1, k2, rfl, rfl, k3, k4, rfl⟩ := hI
  unfold f_X8_ceilingOf_6 f_X8_ceilingOf_34
  by_cases hk : k < 5
  · obtain ⟨o1, o2, o3⟩ := or5 S hS k hk
    rw [if_neg (nge_l 5 hk (by omega)), bitx (nI S) (by omega), bt_nI (by omega), ad1]
    cases hb : S.testBit k
    · obtain ⟨v', b1, b2, b3⟩ := hA _ (o3 hb) o2
      have := hmono k hk
      rw [if_pos (by rfl), shl1 (by omega), o1, wp_aIn o2 (by omega), b3, wp_nm, min_nI (by omega) (by omega)]
      exact hs (5 - (k + 1)) _ _ _ (by omega) ⟨k + 1, min v v', by omega, rfl, rfl, rfl, by omega, by omega, rfl⟩
    · rw [if_neg (by decide)]
      exact hs (5 - (k + 1)) _ _ _ (by omega) ⟨k + 1, v, by omega, rfl, rfl, rfl, k3, k4, rfl⟩
  · rw [if_pos (ge_l 5 (by omega) (by omega)), wp_rt]
    exact ⟨rfl, v, k3, k4, rfl⟩
/-- all but the weighing and the row of sets is as before -/
def Fb (w w' : Wd) : Prop := (∀ q k, q ≠ 73 → gr w' q k = gr w q k) ∧ (gr w' 73 0 = 5 ∨ gr w' 73 0 = 13) ∧ ∀ q k, ¬ cK8 q k → q ≠ 160 → gi w' q k = gi w q k
theorem Fb.si (h : Fb w w1) {k : Nat} {v : Int32} : Fb w (si w1 160 k v) := ⟨h.1, h.2.1, fun q j hq h1 => by rw [gi_si_n (by omega)]; exact h.2.2 q j hq h1⟩
theorem Fb.tr (ht : isT t) (h : Fb w w1) (f : Fk w1 w2) (h73 : gr w2 73 0 = t + 1) : Fb w w2 := ⟨fun q k hq => (f.1 q k hq).trans (h.1 q k hq), by rw [h73]; unfold isT at ht; omega, fun q k hq h1 => (f.2 q k hq).trans (h.2.2 q k hq h1)⟩
theorem core_160 (ht : isT t) {q k : Nat} (h : core t q k) : q ≠ 160 := by
  unfold core cTxt cTon cBk cSl cHd at h
  omega
theorem wp_farthest {a hh : Nat} (hR : IRef t w) (hTo : ITon t W w) (hJn : IJoin t W w) (hV : IVs W 0 w) (ha : a < 6) (hW2 : 2 ≤ W) (h0 : 0 < vs w a) (hhl : hh < 496) : wp (f_X8_farthestWays (nI a) (nI hh)) w (fun r w' => (∃ fa mo, Bs (hsm w) (farN w W (vs w a) (vw w a)) hh 0 fa mo ∧ r = nI fa ∧ mo ≤ 1000000 ∧ gi w' 160 fa = nI mo) ∧ Fb w w') := by
  have ht := hR.1
  have hW := hTo.1
  obtain ⟨s1, s2, s3, s4⟩ := hV.g hW ha
  have hFl : ∀ S, S < 32 → farN w W (vs w a) (vw w a) S ≤ 1500 := fun S hS => farN_le hS hW2 h0 s1
  have hF0 := farN_0 (w := w) hW2 h0 (show vs w a < 9 by omega) (vw w a)
  have hmono : ∀ S k, farN w W (vs w a) (vw w a) S ≤ farN w W (vs w a) (vw w a) (S ||| 2 ^ k) := fun S k => farN_mono hW2 h0 (by omega) (fun y _ h => or5b S k y h) _
  have hfar : ∀ w1, Fb w w1 → ∀ S, S < 32 → wp (f_X8_farBy (nI a) (nI S)) w1 (fun r w' => r = nI (farN w W (vs w a) (vw w a) S) ∧ Fk w1 w' ∧ gr w' 73 0 = t + 1) := by
    intro w1 f1 S hS
    obtain ⟨q1, q2, q3, q4, q5⟩ := hR
    have e : ∀ q k, ¬ cK8 q k → q ≠ 160 → gi w1 q k = gi w q k := f1.2.2
    have eT : Eqo (cTon t) w w1 := fun q k hc => e q k (core_K8 ht (Or.inr (Or.inl hc))) (core_160 ht (k := k) (Or.inr (Or.inl hc)))
    have R1 : IRef t w1 := ⟨q1, by rw [f1.1 _ _ (by omega)]; exact q2, by rw [f1.1 _ _ (by omega)]; exact q3, f1.2.1, by rw [e _ _ (by unfold cK8; omega) (by omega)]; exact q5⟩
    have V1 : IVs W 0 w1 := hV.to0 (fun q k hq => e q k (by unfold cV0 at hq; unfold cK8; omega) (by unfold cV0 at hq; omega))
    have v1 : vs w1 a = vs w a := by unfold vs; rw [e _ _ (by unfold cK8; omega) (by omega)]
    have u1 : vw w1 a = vw w a := by funext p; unfold vw; rw [e _ _ (by unfold cK8; omega) (by omega)]
    have := wp_farBy R1 (hTo.to eT) (hJn.to hTo eT) V1 ha hS hW2 (by rw [v1]; exact h0)
    rw [v1, u1, farN_fr (r' := vw w a) (fun q k hq => e q k (by unfold cK8; omega) (by omega))] at this
    exact this
  generalize hFF : farN w W (vs w a) (vw w a) = F at *
  unfold f_X8_farthestWays
  refine wp_fix3 (fun n x3 x4 x5 w1 => ∃ s mo fa, s ≤ 32 ∧ n = s ∧ x3 = nI mo ∧ x4 = nI fa ∧ x5 = nI s - 1 ∧ mo ≤ 1000000 ∧ (∀ S, s ≤ S → S < 32 → ∃ v, F S ≤ v ∧ v ≤ 1000000 ∧ gi w1 160 S = nI v) ∧ ((0 < s ∧ mo = 0 ∧ fa = 0 ∧ ∀ S, s ≤ S → S < 32 → ¬ hsm w S ≤ hh) ∨ (Bs (hsm w) F hh s fa mo ∧ gi w1 160 fa = nI mo)) ∧ Fb w w1) (fun n x3 x4 x5 w1 self hI hs => ?_) FU 32 _ _ _ w (by have := FU_big; omega) ⟨32, 0, 0, by omega, rfl, rfl, rfl, by decide, by omega, fun S h1 h2 => by omega, Or.inl ⟨by omega, rfl, rfl, fun S h1 h2 => by omega⟩, ⟨fun _ _ _ => rfl, hR.2.2.2.1, fun _ _ _ _ => rfl⟩⟩
  obtain ⟨s, mo, fa, i1, rfl, rfl, rfl, rfl, i2, i3, i4, i5⟩ := hI
  unfold f_X8_farthestWays_9
  by_cases n0 : n = 0
  · subst n0
    rw [if_pos (by decide), wp_rt]
    rcases i4 with ⟨z, -⟩ | ⟨z1, z2⟩
    · omega
    · exact ⟨⟨fa, mo, z1, rfl, i2, z2⟩, i5⟩
  · obtain ⟨S, rfl⟩ : ∃ S, n = S + 1 := ⟨n - 1, by omega⟩
    have hS : S < 32 := by omega
    rw [sb1, if_neg (nI_pos (by omega)), wp_sIn hS (by omega)]
    generalize hw2 : si w1 160 S 1000000 = w2
    have f2 : Fb w w2 := by rw [← hw2]; exact i5.si
    have a2 : ∀ S', S < S' → S' < 32 → ∃ v, F S' ≤ v ∧ v ≤ 1000000 ∧ gi w2 160 S' = nI v := by
      intro S' h1 h2
      obtain ⟨v, v1, v2, v3⟩ := i3 S' (by omega) h2
      exact ⟨v, v1, v2, by rw [← hw2, gi_si_n (by omega)]; exact v3⟩
    have e2 : ∀ q k, ¬ cK8 q k → q ≠ 160 → gi w2 q k = gi w q k := f2.2.2
    have eT : Eqo (cTon t) w w2 := fun q k hc => e2 q k (core_K8 ht (Or.inr (Or.inl hc))) (core_160 ht (k := k) (Or.inr (Or.inl hc)))
    have R2 : IRef t w2 := by
      obtain ⟨q1, q2, q3, q4, q5⟩ := hR
      exact ⟨q1, by rw [f2.1 _ _ (by omega)]; exact q2, by rw [f2.1 _ _ (by omega)]; exact q3, f2.2.1, by rw [e2 _ _ (by unfold cK8; omega) (by omega)]; exact q5⟩
    have hho := rd_hours8 ht (hTo.to eT) hS
    rw [hsm_fr (w := w) (fun k => e2 _ _ (by unfold cK8; omega) (by omega))] at hho
    have hhs := hsm_le hTo S
    rw [wp_tongue R2, wp_bnd, hho.wp]
    have dec : nI S + (-1) = nI S - 1 := by rw [Int32.sub_eq_add_neg]
    have old : (Bs (hsm w) F hh (S + 1) fa mo ∧ gi w1 160 fa = nI mo) → fa ≠ S := fun z => by have := z.1.1; omega
    by_cases haf : hsm w S ≤ hh
    · rw [if_pos (nI_le haf (by omega))]
      -- what is kept, and the best so far
      have l77 : ∀ (w3 : Wd) (v : Nat), F S ≤ v → v ≤ 1000000 → (mo ≤ v → v = F S) → Fb w w3 → (∀ S', S < S' → S' < 32 → gi w3 160 S' = gi w2 160 S') → wp (f_X8_farthestWays_77 self (nI a) (nI hh) (nI mo) (nI fa) (nI S) (nI v)) w3 (fun r w' => (∃ fa mo, Bs (hsm w) F hh 0 fa mo ∧ r = nI fa ∧ mo ≤ 1000000 ∧ gi w' 160 fa = nI mo) ∧ Fb w w') := by
        intro w3 v hv1 hv2 hv3 f3 hk3
        unfold f_X8_farthestWays_77 f_X8_farthestWays_99
        rw [wp_sIn hS (by omega), dec]
        have A4 : ∀ S', S ≤ S' → S' < 32 → ∃ v', F S' ≤ v' ∧ v' ≤ 1000000 ∧ gi (si w3 160 S (nI v)) 160 S' = nI v' := by
          intro S' h1 h2
          by_cases e : S' = S
          · rw [e]; exact ⟨v, hv1, hv2, by rw [gi_si_s]⟩
          · obtain ⟨u, u1, u2, u3⟩ := a2 S' (by omega) h2
            exact ⟨u, u1, u2, by rw [gi_si_n (by omega), hk3 S' (by omega) h2]; exact u3⟩
        by_cases c : v < mo
        · rw [if_pos (nI_lt c (by omega))]
          refine hs S _ _ _ _ (by omega) ⟨S, mo, fa, by omega, rfl, rfl, rfl, rfl, i2, A4, Or.inr ?_, f3.si⟩
          rcases i4 with ⟨-, z, -⟩ | z
          · omega
          · have hne := old z
            obtain ⟨⟨b1, b2, b3, b4, b5, b6⟩, b7⟩ := z
            refine ⟨⟨by omega, b2, b3, b4, fun S' h1 h2 h3 => ?_, fun S' h1 h2 h3 => ?_⟩, ?_⟩
            · by_cases e : S' = S
              · rw [e]; omega
              · exact b5 S' (by omega) h2 h3
            · by_cases e : S' = S
              · rw [e]; omega
              · exact b6 S' (by omega) h2 h3
            · rw [gi_si_n (by omega), hk3 fa (by omega) b2, ← hw2, gi_si_n (by omega)]; exact b7
        · rw [if_neg (nI_nlt (by omega) (by omega))]
          have hvF := hv3 (by omega)
          refine hs S _ _ _ _ (by omega) ⟨S, v, S, by omega, rfl, rfl, rfl, rfl, hv2, A4, Or.inr ⟨⟨by omega, hS, haf, hvF.symm, fun S' h1 h2 h3 => ?_, fun S' h1 h2 h3 => by omega⟩, by rw [gi_si_s]⟩, f3.si⟩
          by_cases e : S' = S
          · rw [e]; omega
          · rcases i4 with ⟨-, -, -, z⟩ | ⟨⟨-, -, -, -, b5, -⟩, -⟩
            · exact absurd h3 (z S' (by omega) h2)
            · have := b5 S' (by omega) h2 h3
              omega
      have l55 : ∀ (v : Nat), F S ≤ v → v ≤ 1000000 → wp (f_X8_farthestWays_55 self (nI a) (nI hh) (nI mo) (nI fa) (nI S) (nI v)) w2 (fun r w' => (∃ fa mo, Bs (hsm w) F hh 0 fa mo ∧ r = nI fa ∧ mo ≤ 1000000 ∧ gi w' 160 fa = nI mo) ∧ Fb w w') := by
        intro v hv1 hv2
        unfold f_X8_farthestWays_55
        by_cases c : v < mo
        · rw [if_pos (nI_lt c (by omega))]
          exact l77 w2 v hv1 hv2 (fun z => by omega) f2 (fun S' _ _ => rfl)
        · rw [if_neg (nI_nlt (by omega) (by omega))]
          by_cases c0 : v = 0
          · rw [if_pos (le_l 0 (by omega) (by omega))]
            exact l77 w2 v hv1 hv2 (fun _ => by omega) f2 (fun S' _ _ => rfl)
          · rw [if_neg (nle_l 0 (by omega) (by omega)), wp_bnd]
            refine wp_mono (hfar w2 f2 S hS) (fun r w3 h3 => ?_)
            obtain ⟨rfl, g1, g2⟩ := h3
            have := hFl S hS
            exact l77 w3 (F S) (Nat.le_refl _) (by omega) (fun _ => rfl) (f2.tr ht g1 g2) (fun S' _ _ => g1.2 _ _ (by unfold cK8; omega))
      by_cases S0 : S = 0
      · rw [if_pos (eq_l 0 S0)]
        exact l55 0 (by rw [S0, hF0]; omega) (by omega)
      · rw [if_neg (ne_l 0 S0 (by omega) (by omega)), wp_bnd]
        have := hFl S hS
        refine wp_mono (wp_ceiling (F := F) hS (by omega) (fun k _ => hmono S k) a2) (fun r w3 h3 => ?_)
        obtain ⟨rfl, v, v1, v2, rfl⟩ := h3
        exact l55 v v1 v2
    · rw [if_neg (nI_ge (by omega) (by omega))]
      unfold f_X8_farthestWays_99
      have := hFl S hS
      have hS0 : S ≠ 0 := fun e => haf (by rw [e, hsm_0]; omega)
      rw [dec]
      refine hs S _ _ _ _ (by omega) ⟨S, mo, fa, by omega, rfl, rfl, rfl, rfl, i2, fun S' h1 h2 => ?_, ?_, f2⟩
      · by_cases e : S' = S
        · rw [e]; exact ⟨1000000, by omega, by omega, by rw [← hw2, gi_si_s]; rfl⟩
        · exact a2 S' (by omega) h2
      · rcases i4 with ⟨z1, z2, z3, z4⟩ | z
        · refine Or.inl ⟨by omega, z2, z3, fun S' h1 h2 => ?_⟩
          by_cases e : S' = S
          · rw [e]; exact haf
          · exact z4 S' (by omega) h2
        · have hne := old z
          obtain ⟨⟨b1, b2, b3, b4, b5, b6⟩, b7⟩ := z
          refine Or.inr ⟨⟨by omega, b2, b3, b4, fun S' h1 h2 h3 => ?_, fun S' h1 h2 h3 => ?_⟩, ?_⟩
          · exact b5 S' (by by_cases e : S' = S; (· rw [e] at h3; exact absurd h3 haf); (· omega)) h2 h3
          · exact b6 S' (by by_cases e : S' = S; (· rw [e] at h3; exact absurd h3 haf); (· omega)) h2 h3
          · rw [← hw2, gi_si_n (by omega)]; exact b7
theorem wp_best9 {a hh z : Nat} (ht : isT t) (hTo : ITon t W w) (hV : IVs W 0 w) (ha : a < 6) (hW2 : 2 ≤ W) (h0 : 0 < vs w a) (hhl : hh < 496) (hz : z < 2) : wp (fix3 FU (f_X9_best_65 (nI a) (nI hh) (nI z)) 0 0 1) w (fun r w' => (∃ be fr, Bs9 (hsm w) (farN w W (vs w a) (vw w a)) hh 32 be fr ∧ r = (if z = 0 then nI be else nI fr)) ∧ Fn w w') := by
  have hW := hTo.1
  obtain ⟨s1, s2, s3, s4⟩ := hV.g hW ha
  have hFl : ∀ S, S < 32 → farN w W (vs w a) (vw w a) S ≤ 1500 := fun S hS => farN_le hS hW2 h0 s1
  have hfar : ∀ w1, Fn w w1 → ∀ S, S < 32 → wp (f_X9_farOf (nI a) (nI S)) w1 (fun r w' => r = nI (farN w W (vs w a) (vw w a) S) ∧ Fn w1 w') := by
    intro w1 f1 S hS
    have V1 : IVs W 0 w1 := hV.to0 (fun q k hq => f1.2 q k (by unfold cV0 at hq; unfold cN9; omega))
    have v1 : vs w1 a = vs w a := by unfold vs; rw [f1.2 _ _ (by unfold cN9; omega)]
    have u1 : vw w1 a = vw w a := by funext p; unfold vw; rw [f1.2 _ _ (by unfold cN9; omega)]
    have := wp_farOf (w := w1) (S := S) ht (hTo.to (f1.eT ht)) V1 ha hS hW2 (by rw [v1]; exact h0)
    rw [v1, u1, farN_fr (r' := vw w a) f1.e164] at this
    exact this
  generalize hFF : farN w W (vs w a) (vw w a) = F at *
  refine wp_fix3 (fun n x4 x5 x6 w1 => ∃ s be fr, 1 ≤ s ∧ s ≤ 32 ∧ n = 32 - s ∧ x4 = nI be ∧ x5 = nI fr ∧ x6 = nI s ∧ fr ≤ 1500 ∧ Bs9 (hsm w) F hh s be fr ∧ Fn w w1) (fun n x4 x5 x6 w1 self hI hs => ?_) FU 31 _ _ _ w (by have := FU_big; omega) ⟨1, 0, 0, by omega, by omega, by omega, rfl, rfl, rfl, by omega, ⟨fun S h1 h2 => by omega, Or.inl ⟨rfl, rfl⟩⟩, Fn.rf⟩
  obtain ⟨s, be, fr, i1, i2, i3, rfl, rfl, rfl, i4, i5, i6⟩ := hI
  unfold f_X9_best_65 f_X9_best_127
  by_cases hs32 : s < 32
  · have hho := rd_hours9 (hTo.to (i6.eT ht)) hs32
    rw [hsm_fr (w := w) (fun k => i6.2 _ _ (by unfold cN9; omega))] at hho
    have hhs := hsm_le hTo s
    rw [if_neg (nge_l 32 hs32 (by omega)), wp_bnd, hho.wp]
    have l93 : ∀ (w2 : Wd) (v : Nat), v ≤ 1500 → (hsm w s ≤ hh → v = F s) → (¬ hsm w s ≤ hh → v = 0) → Fn w w2 → wp (f_X9_best_93 self (nI a) (nI hh) (nI z) (nI be) (nI fr) (nI s) (nI v)) w2 (fun r w' => (∃ be fr, Bs9 (hsm w) F hh 32 be fr ∧ r = (if z = 0 then nI be else nI fr)) ∧ Fn w w') := by
      intro w2 v hv1 hv2 hv3 f2
      unfold f_X9_best_93 f_X9_best_110
      rw [ad1]
      obtain ⟨b1, b2⟩ := i5
      by_cases c : v ≤ fr
      · rw [if_pos (nI_le c (by omega))]
        refine hs (32 - (s + 1)) _ _ _ _ (by omega) ⟨s + 1, be, fr, by omega, by omega, rfl, rfl, rfl, rfl, i4, ⟨fun S h1 h2 h3 => ?_, ?_⟩, f2⟩
        · by_cases e : S = s
          · rw [e] at h3 ⊢; have := hv2 h3; omega
          · exact b1 S h1 (by omega) h3
        · rcases b2 with z | ⟨c1, c2, c3, c4, c5, c6⟩
          · exact Or.inl z
          · exact Or.inr ⟨c1, by omega, c3, c4, c5, c6⟩
      · rw [if_neg (nI_ge (by omega) (by omega))]
        have haf : hsm w s ≤ hh := by
          rcases Nat.lt_or_ge hh (hsm w s) with q | q
          · have := hv3 (by omega); omega
          · exact q
        have hvF := hv2 haf
        refine hs (32 - (s + 1)) _ _ _ _ (by omega) ⟨s + 1, s, v, by omega, by omega, rfl, rfl, rfl, rfl, hv1, ⟨fun S h1 h2 h3 => ?_, Or.inr ⟨by omega, by omega, haf, hvF.symm, by omega, fun S h1 h2 h3 => ?_⟩⟩, f2⟩
        · by_cases e : S = s
          · rw [e]; omega
          · have := b1 S h1 (by omega) h3; omega
        · have := b1 S h1 (by omega) h3; omega
    by_cases haf : hsm w s ≤ hh
    · rw [if_neg (nI_nlt haf (by omega)), wp_bnd]
      refine wp_mono (hfar w1 i6 s hs32) (fun r w2 h2 => ?_)
      obtain ⟨rfl, f2⟩ := h2
      exact l93 w2 (F s) (hFl s hs32) (fun _ => rfl) (fun q => absurd haf q) (i6.tr f2)
    · rw [if_pos (nI_lt (by omega) (by omega))]
      exact l93 w1 0 (by omega) (fun q => absurd q haf) (fun _ => rfl) i6
  · have e : s = 32 := by omega
    subst e
    rw [if_pos (ge_l 32 (by omega) (by omega))]
    by_cases z0 : z = 0
    · rw [if_pos (eq_l 0 z0), wp_rt]
      exact ⟨⟨be, fr, i5, by rw [if_pos z0]⟩, i6⟩
    · rw [if_neg (ne_l 0 z0 (by omega) (by omega)), wp_rt]
      exact ⟨⟨be, fr, i5, by rw [if_neg z0]⟩, i6⟩
theorem pr_best (hw : Inv w) (x1 x2 x3 : Int32) : Pair (f_X8_best x1 x2 x3) (f_X9_best x1 x2 x3) w := by
  obtain ⟨t, W, hR, hT, hTo, hJ, hV, hS, hK, hL, hH⟩ := id hw
  have ht := hR.1
  have hW := hTo.1
  unfold Pair f_X8_best f_X9_best f_X8_best_27 f_X9_best_29 f_X8_best_68
  rw [wp_bnd]
  rcases ix_cases x1 6 (by omega) with ⟨a, ha, rfl⟩ | h1
  · refine (wp_bel (n := 6) ha (by omega)).mpr ?_
    rw [if_neg (by decide), wp_bnd]
    rcases ix_cases x2 496 (by omega) with ⟨hh, hhl, rfl⟩ | h2
    · refine (wp_bel (n := 496) hhl (by omega)).mpr ?_
      rw [if_neg (by decide), wp_bnd]
      rcases ix_cases x3 2 (by omega) with ⟨z, hz, rfl⟩ | h3
      · refine (wp_bel (n := 2) hz (by omega)).mpr ?_
        obtain ⟨s1, s2, s3, s4⟩ := hV.g hW ha
        rw [if_neg (by decide), wp_bnd, (rd_refuse hR hTo hV ha).wp]
        have ref : ∀ (w1 : Wd) (v : Int32), wp (aI 167 18 (nI a) (fun v4 => if v4 = 0 then (rt (-2)) else (aI 163 2 0 (fun v6 => if 2 ≤ v6 then (fix3 FU (f_X9_best_65 (nI a) (nI hh) (nI z)) 0 0 1) else (rt (-4))))) : M Int32) w1 (fun b w2 => b = v ∧ Inv w2) → wp (bnd (f_X9_isVerse (nI a)) (fun v1 => if v1 = 0 then (rt (-1)) else (bnd (f_X9_in (nI hh).toInt64 0 495) (fun v2 => if v2 = 0 then (rt (-1)) else (bnd (f_X9_in (nI z).toInt64 0 1) (fun v3 => if v3 = 0 then (rt (-1)) else (aI 167 18 (nI a) (fun v4 => if v4 = 0 then (rt (-2)) else (aI 163 2 0 (fun v6 => if 2 ≤ v6 then (fix3 FU (f_X9_best_65 (nI a) (nI hh) (nI z)) 0 0 1) else (rt (-4))))))))))) : M Int32) w1 (fun b w2 => b = v ∧ Inv w2) := by
          intro w1 v h
          rw [wp_bnd, wp_ver ha, if_neg (by decide), wp_bnd, wp_inN (n := 496) (by decide) hhl (by omega), if_neg (by decide), wp_bnd, wp_inN (n := 2) (by decide) hz (by omega), if_neg (by decide)]
          exact h
        by_cases h0 : vs w a = 0
        · rw [if_pos h0, if_neg (by decide), wp_rt]
          refine ref w _ ?_
          rw [wp_aIn (by omega) (by omega), s3, if_pos (eq_l 0 h0), wp_rt]
          exact ⟨rfl, hw⟩
        · rw [if_neg h0]
          by_cases hW2 : 2 ≤ W
          · rw [if_pos hW2, if_pos rfl, wp_bnd]
            refine wp_mono (wp_farthest hR hTo hJ hV ha hW2 (by omega) hhl) (fun v w1 h1 => ?_)
            obtain ⟨⟨fa, mo, B, rfl, hmo, h160⟩, f1⟩ := h1
            have hfa := B.2.1
            have e1 : ∀ q k, ¬ cK8 q k → q ≠ 160 → gi w1 q k = gi w q k := f1.2.2
            have eT : Eqo (cTon t) w w1 := fun q k hc => e1 q k (core_K8 ht (Or.inr (Or.inl hc))) (core_160 ht (k := k) (Or.inr (Or.inl hc)))
            have V1 : IVs W 0 w1 := hV.to0 (fun q k hq => e1 q k (by unfold cV0 at hq; unfold cK8; omega) (by unfold cV0 at hq; omega))
            have v1 : vs w1 a = vs w a := by unfold vs; rw [e1 _ _ (by unfold cK8; omega) (by omega)]
            have u1 : vw w1 a = vw w a := by funext p; unfold vw; rw [e1 _ _ (by unfold cK8; omega) (by omega)]
            have hfr : farN w1 W (vs w1 a) (vw w1 a) = farN w W (vs w a) (vw w a) := by
              funext S
              rw [v1, u1, farN_fr (r' := vw w a) (fun q k hq => e1 q k (by unfold cK8; omega) (by omega))]
            have hhr : hsm w1 = hsm w := by
              funext S
              exact hsm_fr (fun k => e1 _ _ (by unfold cK8; omega) (by omega)) S
            have r9 := wp_best9 (w := w1) (z := z) ht (hTo.to eT) V1 ha hW2 (by rw [v1]; omega) hhl hz
            rw [hfr, hhr] at r9
            have fin : wp (aI 167 18 (nI a) (fun v4 => if v4 = 0 then (rt (-2)) else (aI 163 2 0 (fun v6 => if 2 ≤ v6 then (fix3 FU (f_X9_best_65 (nI a) (nI hh) (nI z)) 0 0 1) else (rt (-4))))) : M Int32) w1 (fun b w2 => b = (if z = 0 then nI fa else nI mo) ∧ Inv w2) := by
              rw [wp_aIn (by omega) (by omega), e1 _ _ (by unfold cK8; omega) (by omega), s3, if_neg (ne_l 0 h0 (by omega) (by omega)), wp_a0 (by omega) (by omega), e1 _ _ (by unfold cK8; omega) (by omega), hTo.2.2.1, if_pos (ge_l 2 hW2 (by omega))]
              refine wp_mono r9 (fun b w2 h2 => ?_)
              obtain ⟨⟨be, fr, B9, rfl⟩, f2⟩ := h2
              obtain ⟨q1, q2⟩ := Bs.eq (by rw [hsm_0]; omega) (farN_0 hW2 (by omega) (by omega) _) B B9
              rw [q1, q2]
              refine ⟨rfl, Same.inv hR hT hTo hJ hV hS hK hL hH ⟨fun q k hc => ?_, ?_, ?_, ?_⟩⟩
              · rw [f2.2 q k (core_N9 ht hc), e1 q k (core_K8 ht hc) (core_160 ht hc)]
              · rw [f2.1, f1.1 _ _ (by omega)]
              · rw [f2.1, f1.1 _ _ (by omega)]
              · rw [f2.1]; exact f1.2.1
            by_cases z0 : z = 0
            · rw [if_pos (eq_l 0 z0), wp_rt]
              rw [if_pos z0] at fin
              exact ref w1 _ fin
            · rw [if_neg (ne_l 0 z0 (by omega) (by omega)), wp_aIn hfa (by omega), h160, wp_rt]
              rw [if_neg z0] at fin
              exact ref w1 _ fin
          · rw [if_neg hW2, if_neg (by decide), wp_rt]
            refine ref w _ ?_
            rw [wp_aIn (by omega) (by omega), s3, if_neg (ne_l 0 h0 (by omega) (by omega)), wp_a0 (by omega) (by omega), hTo.2.2.1, if_neg (nge_l 2 (by omega) (by omega)), wp_rt]
            exact ⟨rfl, hw⟩
      · refine (wp_beo (n := 2) h3).mpr ?_
        rw [if_pos rfl, wp_rt, wp_bnd, wp_ver ha, if_neg (by decide), wp_bnd, wp_inN (n := 496) (by decide) hhl (by omega), if_neg (by decide), wp_bnd, wp_inoN (n := 2) (by decide) h3 (by omega), if_pos rfl]
        exact wp_rt.mpr ⟨rfl, hw⟩
    · refine (wp_beo (n := 496) h2).mpr ?_
      rw [if_pos rfl, wp_rt, wp_bnd, wp_ver ha, if_neg (by decide), wp_bnd, wp_inoN (n := 496) (by decide) h2 (by omega), if_pos rfl]
      exact wp_rt.mpr ⟨rfl, hw⟩
  · refine (wp_beo (n := 6) h1).mpr ?_
    rw [if_pos rfl, wp_rt, wp_bnd, wp_vero h1, if_pos rfl]
    exact wp_rt.mpr ⟨rfl, hw⟩
end BEST2
