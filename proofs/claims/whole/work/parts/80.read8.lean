/-! the class: what is unlike, read out of the records -/
section READ8
variable {w w' : Wd} {t W m : Nat} {J : List (It × Nat)}
def S8 (t W m : Nat) (J : List (It × Nat)) (w : Wd) : Prop := ITon t W w ∧ IJoin t W w ∧ isT t ∧ gr w 73 0 = t + 1 ∧ gi w 148 0 = 16 ∧ Wn J w ∧ Jok m J ∧ Cap J ∧ 0 < W ∧ m ≤ 8 ∧ gi w 53 3 = nI W ∧ gi w 53 4 = nI m
def cSe (q k : Nat) : Prop := q = 148 ∧ (k = 1 ∨ k = 2)
/-- cells of the weighing -/
def cWe (q k : Nat) : Prop := cSe q k ∨ (55 ≤ q ∧ q ≤ 62) ∨ q = 72 ∨ (q = 53 ∧ k = 1)
def dWe (q k : Nat) : Prop := (64 ≤ q ∧ q ≤ 71) ∨ (q = 53 ∧ k = 2)
theorem S8.to (h : S8 t W m J w) (f : Fg cWe dWe w w') : S8 t W m J w' := by
  obtain ⟨h1, h2, h3, h4, h5, h6, h7, h8, h9, h10, h11, h12⟩ := h
  have e : ∀ q k, ¬ cWe q k → gi w' q k = gi w q k := f.2.1
  have eT : Eqo (cTon t) w w' := fun q k hc => e q k (by unfold cTon at hc; unfold isT at h3; unfold cWe cSe; omega)
  refine ⟨h1.to eT, h2.to h1 eT, h3, by rw [f.1]; exact h4, ?_, h6.to (fun q k hq1 hq2 => e q k (by unfold cWe cSe; omega)), h7, h8, h9, h10, ?_, ?_⟩
  · rw [e _ _ (by unfold cWe cSe; omega)]; exact h5
  · rw [e _ _ (by unfold cWe cSe; omega)]; exact h11
  · rw [e _ _ (by unfold cWe cSe; omega)]; exact h12
theorem tk_fr (h : ∀ q k, (q = 164 ∨ q = 165) → gi w' q k = gi w q k) : wf w' = wf w ∧ wb w' = wb w ∧ wl w' = wl w ∧ jn w' = jn w := by
  refine ⟨?_, ?_, ?_, ?_⟩
  · funext j; unfold wf; rw [h _ _ (by omega)]
  · funext j; unfold wb; rw [h _ _ (by omega)]
  · funext j; unfold wl; rw [h _ _ (by omega)]
  · funext a b; unfold jn; rw [h _ _ (by omega)]
theorem tk_fr3 (h : ∀ q k, (q = 164 ∨ q = 165) → gi w' q k = gi w q k) : tk w' = tk w ∧ tkf w' = tkf w ∧ tkr w' = tkr w := by
  obtain ⟨h1, h2, h3, h4⟩ := tk_fr h
  have e1 : tkf w' = tkf w := by funext b x; unfold tkf; rw [h1, h3, h4]
  have e2 : tkr w' = tkr w := by funext x a; unfold tkr; rw [h1, h3, h4]
  exact ⟨by funext b x a; unfold tk; rw [e1, e2, h2], e1, e2⟩
theorem wp_rT73 {R : Type} {K : Nat → M R} {Q : R → Wd → Prop} (h : gr w 73 0 = t + 1) (ht : isT t) : wp (rT 73 0 K) w Q ↔ wp (K t) w Q := by
  rw [wp_rT, h]
  unfold isT at ht
  constructor
  · intro q; exact q.2
  · intro q; exact ⟨by omega, q⟩
def sv (b x s : Nat) : Option Nat := if s = 0 then none else if s = 1 then some b else some x
def svn (b x s : Nat) : Nat := if s = 1 then b else x
def tfv (w : Wd) (b x : Nat) (k : TK) : Nat := if tk w (sv b x k.1) (svn b x k.2.1) (sv b x k.2.2.1) = k.2.2.2 then 0 else 1
def tcs (w : Wd) (J : List (It × Nat)) (p b x : Nat) : Nat := wsum (tfv w b x) (tyR J p)
theorem wp_ties (h8 : S8 t W m J w) {p b x : Nat} (hp : p < 8) (hb : p ≠ 0 → b < W) (hx : x < W) : wp (f_X7_unlikeTies (nI p) (nI b) (nI x)) w (fun r w' => r = nI (tcs w J p b x) ∧ Fr cSe w w') := by
  obtain ⟨hTo, hJn, ht, hg, h148, hWn, hJ, hC, hW0, hm, -, -⟩ := h8
  have hW := hTo.1
  have hcap := (hC p hp).1
  unfold f_X7_unlikeTies
  show wp (sI 148 3 (nI 1) (nI b) (sI 148 3 (nI 2) (nI x) _)) w _
  rw [wp_sIn (by omega) (by omega), wp_sIn (by omega) (by omega)]
  generalize hw1 : si (si w 148 1 (nI b)) 148 2 (nI x) = w1
  have f1 : Fr cSe w w1 := by
    rw [← hw1]
    exact (Fr.rf.si ⟨rfl, Or.inl rfl⟩).si ⟨rfl, Or.inr rfl⟩
  have o1 : ∀ q k, q ≠ 148 → gi w1 q k = gi w q k := fun q k hq => f1.2.2 q k (by unfold cSe; omega)
  have s0 : gi w1 148 0 = nI 16 := by rw [f1.2.2 _ _ (by unfold cSe; omega)]; exact h148
  have s1 : gi w1 148 1 = nI b := by rw [← hw1, gi_si_n (by omega), gi_si_s]
  have s2 : gi w1 148 2 = nI x := by rw [← hw1, gi_si_s]
  have eT : Eqo (cTon t) w w1 := fun q k hc => o1 q k (by unfold cTon at hc; unfold isT at ht; omega)
  have hTo1 := hTo.to eT
  have hJ1 := hJn.to hTo eT
  obtain ⟨e1, -, -⟩ := tk_fr3 (w := w) (w' := w1) (fun q k hq => o1 q k (by omega))
  have hT := ((hWn p hp).1).to (w' := w1) (fun q k hq => o1 q k (by omega))
  obtain ⟨t1, t2⟩ := hT
  have hok : ∀ e ∈ tyR J p, kOK p e.1 := fun e he => tyR_ok hJ he
  refine wp_mono (Q := fun r w' => r = nI (tcs w J p b x) ∧ w' = w1) ?_ (fun r w' h => ⟨h.1, by rw [h.2]; exact f1⟩)
  unfold tcs
  rw [wsum_sm]
  generalize hRR : tyR J p = R at t1 t2 hok hcap
  refine wp_fix2 (fun n u v w' => ∃ j, j ≤ R.length ∧ n = R.length - j ∧ v = nI j ∧ u = nI (sm (at0 (fun e => e.2 * tfv w b x e.1) R) j) ∧ w' = w1) (fun n u v w' self hI hs => ?_) FU R.length 0 0 w1 (by have := FU_big; omega) ⟨0, by omega, by omega, rfl, rfl, rfl⟩
  obtain ⟨j, j1, j2, rfl, rfl, rfl⟩ := hI
  unfold f_X7_unlikeTies_20 f_X7_unlikeTies_111
  rw [wp_aIn (by omega) (by omega), t1]
  by_cases hj : R.length ≤ j
  · rw [if_pos (nI_le hj (by omega)), wp_rt, show j = R.length by omega]
    exact ⟨rfl, rfl⟩
  · obtain ⟨e, he⟩ : ∃ e, R[j]? = some e := ⟨R[j]'(by omega), List.getElem?_eq_getElem (by omega)⟩
    obtain ⟨q1, q2, q3, q4, q5⟩ := t2 j e he
    obtain ⟨k1, k2, k3, k4, k5⟩ := hok e (List.mem_of_getElem? he)
    have seat : ∀ s, s < 3 → gi w' 148 s = nI (oW (sv b x s)) := by
      intro s hs
      rcases (by omega : s = 0 ∨ s = 1 ∨ s = 2) with rfl | rfl | rfl
      · exact s0
      · exact s1
      · exact s2
    have sel : ∀ s, s < 3 → (p = 0 → s ≠ 1) → ∀ o, sv b x s = some o → o < W := by
      intro s hs h0 o ho
      unfold sv at ho
      by_cases c0 : s = 0
      · rw [if_pos c0] at ho; cases ho
      · rw [if_neg c0] at ho
        by_cases c1 : s = 1
        · rw [if_pos c1] at ho; cases ho; exact hb (fun z => h0 z c1)
        · rw [if_neg c1] at ho; cases ho; exact hx
    have hmid : oW (sv b x e.1.2.1) = svn b x e.1.2.1 ∧ svn b x e.1.2.1 < W := by
      unfold sv svn
      rcases k2 with c | c
      · rw [c]; exact ⟨rfl, hb (fun z => (k5 z).2.1 c)⟩
      · rw [c]; exact ⟨rfl, hx⟩
    have tok := rd_tok8 hTo1 hJ1 (a := sv b x e.1.2.2.1) (b := sv b x e.1.1) (x := svn b x e.1.2.1) hmid.2 (sel _ k3 (fun z => (k5 z).2.2)) (sel _ k1 (fun z => (k5 z).1))
    have tlt : tk w' (sv b x e.1.1) (svn b x e.1.2.1) (sv b x e.1.2.2.1) < 1024 := tk_lt hTo1 hmid.2 (sel _ k3 (fun z => (k5 z).2.2))
    rw [if_neg (nI_ge (by omega) (by omega)), wp_rT73 (t := t) (by rw [f1.1]; exact hg) ht]
    rw [wp_gdn (by omega) (by omega), wp_aIc (by omega) (by omega) (by omega), q1, wp_aIn (by omega) (by omega), seat _ k1]
    rw [wp_gdn (by omega) (by omega), wp_aIc (by omega) (by omega) (by omega), q2, wp_aIn (by omega) (by omega), seat _ (by omega), hmid.1]
    rw [wp_gdn (by omega) (by omega), wp_aIc (by omega) (by omega) (by omega), q3, wp_aIn (by omega) (by omega), seat _ k3]
    rw [wp_bnd, tok.wp, wp_gdn (by omega) (by omega), wp_aIc (by omega) (by omega) (by omega), q4]
    have go : ∀ z, z = e.2 * tfv w b x e.1 → wp (nm (nI (sm (at0 (fun e => e.2 * tfv w b x e.1) R) j) + nI z) (fun v1 => self v1 (nI j + 1))) w' (fun r w'' => r = nI (sm (at0 (fun e => e.2 * tfv w b x e.1) R) R.length) ∧ w'' = w') := by
      intro z hz
      rw [wp_nm, nI_add, ad1]
      refine hs (R.length - (j + 1)) _ _ _ (by omega) ⟨j + 1, by omega, rfl, rfl, ?_, rfl⟩
      rw [sm_succ, at0_some he, hz]
    by_cases c : tk w' (sv b x e.1.1) (svn b x e.1.2.1) (sv b x e.1.2.2.1) = e.1.2.2.2
    · rw [if_pos (by rw [c])]
      exact go 0 (by unfold tfv; rw [if_pos (by rw [← e1]; exact c), Nat.mul_zero])
    · rw [if_neg (fun q => c ((nI_eq (by omega) (by omega)).mp q)), wp_gdn (by omega) (by omega), wp_aIc (by omega) (by omega) (by omega), q5]
      exact go e.2 (by unfold tfv; rw [if_neg (by rw [← e1]; exact c), Nat.mul_one])
-- halves
def rgt (w : Wd) (side x nb : Nat) (k : SK) : Bool := if k.1 = side then decide (128 * tkf w (some nb) x + 8 * wb w x = k.2 - k.2 % 8) else decide (tkr w x (some nb) = k.2 % 8)
def bb (f : SK → Bool) (R : List (SK × Nat)) (i : Nat) : Bool := (R[i]?.map (fun e => f e.1)).getD false
def btn (f : SK → Bool) (R : List (SK × Nat)) (n : Nat) : Nat := sm (fun i => if bb f R i then 2 ^ i else 0) n
def rh (w : Wd) (J : List (It × Nat)) (p side x nb : Nat) : Nat := btn (rgt w side x nb) (spR J p) (spR J p).length
theorem btn_lt (f : SK → Bool) (R : List (SK × Nat)) : ∀ n, btn f R n < 2 ^ n
  | 0 => by show 0 < 1; omega
  | n + 1 => by
    have := btn_lt f R n
    show btn f R n + (if bb f R n then 2 ^ n else 0) < 2 ^ (n + 1)
    rw [Nat.pow_succ]
    split <;> omega
theorem or_bit : ∀ j, j < 3 → ∀ a, a < 8 → a < 2 ^ j → nI a ||| nI (2 ^ j) = nI (a + 2 ^ j) := by decide +kernel
theorem or_0 : ∀ a, a < 8 → nI a ||| 0 = nI a := by decide +kernel
theorem rd_halves (h8 : S8 t W m J w) {p side x nb : Nat} (hp : p < 8) (hs2 : side < 2) (hx : x < W) (hn : nb < W ∨ (nb = 16 ∧ p = 0)) : Rd (f_X7_rightHalves (nI p) (nI side) (nI x) (nI nb)) w (nI (rh w J p side x nb)) := by
  obtain ⟨hTo, hJn, ht, hg, h148, hWn, hJ, hC, hW0, hm, -, -⟩ := h8
  have hW := hTo.1
  have hcap := (hC p hp).2
  obtain ⟨t1, t2⟩ := (hWn p hp).2
  have hok : ∀ e ∈ spR J p, e.1.1 < 2 ∧ e.1.2 < 1024 ∧ 1 ≤ p ∧ p + 1 < m := fun e he => spR_ok hJ he
  unfold Rd f_X7_rightHalves rh
  rw [mu17, nI_add, wp_nm]
  generalize hRR : spR J p = R at t1 t2 hok hcap
  refine wp_fix2 (fun n u v w' => ∃ j, j ≤ R.length ∧ n = R.length - j ∧ v = nI j ∧ u = nI (btn (rgt w side x nb) R j) ∧ w' = w) (fun n u v w' self hI hs => ?_) FU R.length 0 0 w (by have := FU_big; omega) ⟨0, by omega, by omega, rfl, rfl, rfl⟩
  obtain ⟨j, j1, j2, rfl, rfl, rfl⟩ := hI
  unfold f_X7_rightHalves_15 f_X7_rightHalves_106 f_X7_rightHalves_123
  rw [wp_aIn (by omega) (by omega), t1]
  by_cases hj : R.length ≤ j
  · rw [if_pos (nI_le hj (by omega)), wp_rt, show j = R.length by omega]
    exact ⟨rfl, rfl⟩
  · obtain ⟨e, he⟩ : ∃ e, R[j]? = some e := ⟨R[j]'(by omega), List.getElem?_eq_getElem (by omega)⟩
    obtain ⟨q1, q2, q3⟩ := t2 j e he
    obtain ⟨k1, k2, k3, k4⟩ := hok e (List.mem_of_getElem? he)
    have hnb : nb < W := by omega
    have hf := tkf_lt hTo (b := some nb) hx
    have hr := tkr_lt hTo (a := some nb) hx (fun o ho => by cases ho; exact hnb)
    have hwb := (hTo.fl hx).2.2.2.1
    have f1 : gi w' (t + 6) (17 * nb + x) = nI (128 * tkf w' (some nb) x + 8 * wb w' x) := (hJn.2 x nb hx hnb).1
    have f2 : gi w' (t + 7) (17 * nb + x) = nI (tkr w' x (some nb)) := (hJn.2 x nb hx hnb).2
    have hbl := btn_lt (rgt w' side x nb) R j
    have hj8 : btn (rgt w' side x nb) R j < 8 := by
      have : 2 ^ j ≤ 2 ^ 3 := Nat.pow_le_pow_right (by omega) (by omega)
      omega
    have hbb : bb (rgt w' side x nb) R j = rgt w' side x nb e.1 := by unfold bb; rw [he]; rfl
    have go : ∀ b : Bool, b = rgt w' side x nb e.1 → wp (if nI (if b then 1 else 0) = 0 then nm (nI (btn (rgt w' side x nb) R j) ||| 0) (fun v1 => self v1 (nI j + 1)) else nm (nI (btn (rgt w' side x nb) R j) ||| (1 <<< (nI j &&& 31))) (fun v1 => self v1 (nI j + 1))) w' (fun r w'' => r = nI (btn (rgt w' side x nb) R R.length) ∧ w'' = w') := by
      intro b hb
      cases b
      · rw [if_pos (by decide), wp_nm, or_0 _ hj8, ad1]
        refine hs (R.length - (j + 1)) _ _ _ (by omega) ⟨j + 1, by omega, rfl, rfl, ?_, rfl⟩
        show nI _ = nI (btn (rgt w' side x nb) R j + (if bb (rgt w' side x nb) R j then 2 ^ j else 0))
        rw [hbb, ← hb]
        rfl
      · rw [if_neg (by decide), wp_nm, shl1 (by omega), or_bit j (by omega) _ hj8 hbl, ad1]
        refine hs (R.length - (j + 1)) _ _ _ (by omega) ⟨j + 1, by omega, rfl, rfl, ?_, rfl⟩
        show nI _ = nI (btn (rgt w' side x nb) R j + (if bb (rgt w' side x nb) R j then 2 ^ j else 0))
        rw [hbb, ← hb]
        rfl
    rw [if_neg (nI_ge (by omega) (by omega)), wp_gdn (by omega) (by omega), wp_aIc (by omega) (by omega) (by omega), q2, wp_gd]
    refine ⟨by decide, ?_⟩
    rw [rem8 (by omega), wp_nm, wp_gdn (by omega) (by omega), wp_aIc (by omega) (by omega) (by omega), q1]
    by_cases c : e.1.1 = side
    · rw [if_pos (by rw [c]), wp_rT73 hg ht, wp_aIn (by omega) (by omega), f1, wp_gdn (by omega) (by omega), wp_aIc (by omega) (by omega) (by omega), q2, pk_sub (by omega)]
      by_cases c2 : 128 * tkf w' (some nb) x + 8 * wb w' x = e.1.2 - e.1.2 % 8
      · rw [if_pos (by rw [c2])]
        exact go true (by unfold rgt; rw [if_pos c]; simp [c2])
      · rw [if_neg (fun q => c2 ((nI_eq (by omega) (by omega)).mp q))]
        exact go false (by unfold rgt; rw [if_pos c]; simp [c2])
    · rw [if_neg (fun q => c ((nI_eq (by omega) (by omega)).mp q)), wp_rT73 hg ht, wp_aIn (by omega) (by omega), f2]
      by_cases c2 : tkr w' x (some nb) = e.1.2 % 8
      · rw [if_pos (by rw [c2])]
        exact go true (by unfold rgt; rw [if_neg c]; simp [c2])
      · rw [if_neg (fun q => c2 ((nI_eq (by omega) (by omega)).mp q))]
        exact go false (by unfold rgt; rw [if_neg c]; simp [c2])
def scs (J : List (It × Nat)) (p h : Nat) : Nat := sm (fun j => if h.testBit j then 0 else at0 (·.2) (spR J p) j) (spR J p).length
theorem rd_spans (h8 : S8 t W m J w) {p h : Nat} (hp : p < 8) (hh : h < 8) : Rd (f_X7_unlikeSpans (nI p) (nI h)) w (nI (scs J p h)) := by
  obtain ⟨hTo, hJn, ht, hg, h148, hWn, hJ, hC, hW0, hm, -, -⟩ := h8
  have hcap := (hC p hp).2
  obtain ⟨t1, t2⟩ := (hWn p hp).2
  unfold Rd f_X7_unlikeSpans scs
  generalize hRR : spR J p = R at t1 t2 hcap
  refine wp_fix2 (fun n u v w' => ∃ j, j ≤ R.length ∧ n = R.length - j ∧ v = nI j ∧ u = nI (sm (fun j => if h.testBit j then 0 else at0 (·.2) R j) j) ∧ w' = w) (fun n u v w' self hI hs => ?_) FU R.length 0 0 w (by have := FU_big; omega) ⟨0, by omega, by omega, rfl, rfl, rfl⟩
  obtain ⟨j, j1, j2, rfl, rfl, rfl⟩ := hI
  unfold f_X7_unlikeSpans_5 f_X7_unlikeSpans_40
  rw [wp_aIn (by omega) (by omega), t1]
  by_cases hj : R.length ≤ j
  · rw [if_pos (nI_le hj (by omega)), wp_rt, show j = R.length by omega]
    exact ⟨rfl, rfl⟩
  · obtain ⟨e, he⟩ : ∃ e, R[j]? = some e := ⟨R[j]'(by omega), List.getElem?_eq_getElem (by omega)⟩
    obtain ⟨q1, q2, q3⟩ := t2 j e he
    have go : ∀ z, z = (if h.testBit j then 0 else at0 (·.2) R j) → wp (nm (nI (sm (fun j => if h.testBit j then 0 else at0 (·.2) R j) j) + nI z) (fun v1 => self v1 (nI j + 1))) w' (fun r w'' => r = nI (sm (fun j => if h.testBit j then 0 else at0 (·.2) R j) R.length) ∧ w'' = w') := by
      intro z hz
      rw [wp_nm, nI_add, ad1]
      refine hs (R.length - (j + 1)) _ _ _ (by omega) ⟨j + 1, by omega, rfl, rfl, ?_, rfl⟩
      rw [sm_succ, hz]
    rw [if_neg (nI_ge (by omega) (by omega)), bitx (nI h) (by omega), bt_nI (by omega)]
    cases hb : h.testBit j
    · rw [if_neg (by simp), wp_gdn (by omega) (by omega), wp_aIc (by omega) (by omega) (by omega), q3]
      exact go e.2 (by rw [hb, if_neg (by simp), at0_some he])
    · rw [if_pos (by simp)]
      exact go 0 (by rw [hb, if_pos rfl])
end READ8
