/-! the class: the weighing -/
section WEIGH
variable {w w0 w' : Wd} {t W m : Nat} {J : List (It × Nat)}
theorem tcs_fr (h : ∀ q k, (q = 164 ∨ q = 165) → gi w' q k = gi w q k) (J : List (It × Nat)) (p b x : Nat) : tcs w' J p b x = tcs w J p b x := by
  obtain ⟨e1, -, -⟩ := tk_fr3 h
  unfold tcs tfv
  rw [e1]
theorem rh_fr (h : ∀ q k, (q = 164 ∨ q = 165) → gi w' q k = gi w q k) (J : List (It × Nat)) (p s x b : Nat) : rh w' J p s x b = rh w J p s x b := by
  obtain ⟨-, e1, e2⟩ := tk_fr3 h
  obtain ⟨-, e3, -, -⟩ := tk_fr h
  unfold rh
  have : rgt w' s x b = rgt w s x b := by funext k; unfold rgt; rw [e1, e2, e3]
  rw [this]
theorem sum_le {α : Type} {f : α → Nat} : ∀ l : List α, (∀ x ∈ l, f x ≤ 1) → (l.map f).sum ≤ l.length
  | [], _ => Nat.zero_le _
  | a :: l, h => by
    have h1 := h a (by simp)
    have h2 := sum_le l (fun x hx => h x (by simp [hx]))
    rw [List.map_cons, List.sum_cons, List.length_cons]
    omega
theorem tcs_le (p b x : Nat) : tcs w J p b x ≤ J.length := by
  rw [sem_ties]
  refine sum_le J (fun j _ => ?_)
  unfold uit
  split
  · split <;> omega
  · omega
theorem sm_mono {f h : Nat → Nat} : ∀ n, (∀ i, i < n → f i ≤ h i) → sm f n ≤ sm h n
  | 0, _ => Nat.le_refl _
  | n + 1, e => by
    have h1 := sm_mono n (fun i hi => e i (by omega))
    have h2 := e n (by omega)
    rw [sm_succ, sm_succ]
    omega
theorem scs_le (p h : Nat) : scs J p h ≤ J.length := by
  have h1 : scs J p h ≤ wsum (fun _ => 1) (spR J p) := by
    unfold scs
    rw [wsum_sm]
    refine sm_mono _ (fun j hj => ?_)
    obtain ⟨e, he⟩ : ∃ e, (spR J p)[j]? = some e := ⟨(spR J p)[j]'hj, List.getElem?_eq_getElem hj⟩
    rw [at0_some he, at0_some he]
    split <;> omega
  have h2 : wsum (fun _ => 1) (spR J p) ≤ J.length := by
    unfold spR
    rw [wsum_rcs]
    show 0 + _ ≤ _
    rw [Nat.zero_add]
    refine sum_le J (fun j _ => ?_)
    split <;> omega
  omega
theorem k8_le (p : Nat) (s : Nat × Nat) (x : Nat) : k8 w J p s x ≤ 2 * J.length := by
  unfold k8
  have h1 := tcs_le (w := w) (J := J) p s.1 x
  have h2 := scs_le (J := J) (p - 1) (s.2 &&& rh w J (p - 1) 1 s.1 x)
  split <;> omega
theorem rh_lt (h8 : S8 t W m J w) {p : Nat} (hp : p < 8) (side x nb : Nat) : rh w J p side x nb < 2 ^ (spR J p).length ∧ 2 ^ (spR J p).length ≤ 8 := by
  obtain ⟨-, -, -, -, -, -, -, hC, -⟩ := h8
  have := (hC p hp).2
  refine ⟨btn_lt _ _ _, ?_⟩
  have : 2 ^ (spR J p).length ≤ 2 ^ 3 := Nat.pow_le_pow_right (by omega) this
  omega
theorem rd_stateOf (h8 : S8 t W m J w) {p b x : Nat} (hp : p < 8) (hx : x < W) (hb : b < W ∨ (b = 16 ∧ p = 0)) : Rd (f_X3_stateOf (nI p) (nI b) (nI x)) w (nI (8 * x + rh w J p 0 x b)) := by
  unfold Rd f_X3_stateOf
  have := rd_halves h8 (side := 0) hp (by omega) hx hb
  rw [wp_bnd]
  show wp (f_X7_rightHalves (nI p) (nI 0) (nI x) (nI b)) w _
  rw [this.wp, wp_rt, mu8, nI_add]
  exact ⟨rfl, rfl⟩
theorem wp_take {p i u v n n' : Nat} (hp : p < 8) (hi : i < 128) (hu : u < 2 ^ 31) (hv : v < 2 ^ 31) (g1 : gi w (54 + 1 + p) i = nI v) (g2 : gl w (63 + 1 + p) i = lN n) : wp (f_X3_take (nI p) (nI i) (nI u) (lN n')) w (fun _ w' => gi w' (54 + 1 + p) i = nI (if u < v then u else v) ∧ gl w' (63 + 1 + p) i = lN (if u < v then n' else if u = v then n + n' else n) ∧ Fg (fun q k => q = 54 + 1 + p ∧ k = i) (fun q k => q = 63 + 1 + p ∧ k = i) w w') := by
  unfold f_X3_take f_X3_take_59
  rw [wp_gdn (by omega) (by omega), wp_aIc (by omega) (by omega) (by omega), g1]
  by_cases c1 : v ≤ u
  · rw [if_pos (nI_le c1 hu), wp_gdn (by omega) (by omega), wp_aIc (by omega) (by omega) (by omega), g1]
    by_cases c2 : u = v
    · rw [if_pos (by rw [c2]), wp_gdn (by omega) (by omega), wp_aLc (by omega) (by omega) (by omega), g2, lN_add, wp_sLc (by omega) (by omega) (by omega), wp_rt]
      refine ⟨?_, ?_, Fg.rf.sl ⟨rfl, rfl⟩⟩
      · rw [gi_sl, g1, if_neg (by omega)]
      · rw [gl_sl_s, if_neg (by omega), if_pos c2]
    · rw [if_neg (fun q => c2 ((nI_eq (by omega) (by omega)).mp q)), wp_rt]
      refine ⟨?_, ?_, Fg.rf⟩
      · rw [g1, if_neg (by omega)]
      · rw [g2, if_neg (by omega), if_neg c2]
  · rw [if_neg (nI_ge (by omega) (by omega)), wp_gdn (by omega) (by omega), wp_sIc (by omega) (by omega) (by omega), wp_gdn (by omega) (by omega), wp_sLc (by omega) (by omega) (by omega), wp_rt]
    refine ⟨?_, ?_, (Fg.rf.si ⟨rfl, rfl⟩).sl ⟨rfl, rfl⟩⟩
    · rw [gi_sl, gi_si_s, if_pos (by omega)]
    · rw [gl_sl_s, if_pos (by omega)]
/-- a cell of the class tells what it must -/
def Ce8 (W m : Nat) (w0 : Wd) (J : List (It × Nat)) (p x h : Nat) (w : Wd) : Prop := ∃ v n, v < 1000001 ∧ gi w (54 + 1 + p) (8 * x + h) = nI v ∧ gl w (63 + 1 + p) (8 * x + h) = lN n ∧ MC 1000000 (AC W (k8 w0 J) (n8 w0 J) (p + 1) (m - 1 - p) (x, h)) v n
def cX (p x q k : Nat) : Prop := cSe q k ∨ (q = 54 + 1 + p ∧ 8 * x ≤ k ∧ k < 8 * x + 8)
def dX (p x q k : Nat) : Prop := q = 63 + 1 + p ∧ 8 * x ≤ k ∧ k < 8 * x + 8
theorem cX_We {p x : Nat} (hp : p < 8) (q k : Nat) (h : cX p x q k) : cWe q k := by
  unfold cX at h
  unfold cWe
  rcases h with h | h
  · exact Or.inl h
  · omega
theorem dX_We {p x : Nat} (hp : p < 8) (q k : Nat) (h : dX p x q k) : dWe q k := by
  unfold dX at h
  unfold dWe
  omega
theorem Ce8.to {p x h : Nat} (hc : Ce8 W m w0 J p x h w) (e1 : gi w' (54 + 1 + p) (8 * x + h) = gi w (54 + 1 + p) (8 * x + h)) (e2 : gl w' (63 + 1 + p) (8 * x + h) = gl w (63 + 1 + p) (8 * x + h)) : Ce8 W m w0 J p x h w' := by
  obtain ⟨v, n, h1, h2, h3, h4⟩ := hc
  exact ⟨v, n, h1, by rw [e1]; exact h2, by rw [e2]; exact h3, h4⟩
theorem and8 : ∀ a, a < 8 → ∀ b, b < 8 → nI a &&& nI b = nI (a &&& b) := by decide +kernel
theorem and8_lt : ∀ a, a < 8 → ∀ b, b < 8 → a &&& b < 8 := by decide +kernel
theorem fg164 {w w' : Wd} (f : Fg cWe dWe w w') : ∀ q k, (q = 164 ∨ q = 165) → gi w' q k = gi w q k := fun q k hq => f.2.1 q k (by unfold cWe cSe; omega)
theorem wp_weighWord (h8 : S8 t W m J w0) (hJl : J.length ≤ 156) {p x : Nat} (hp : p < m) (hx : x < W) (f0 : Fg cWe dWe w0 w) (hN : p + 1 < m → ∀ y, y < W → ∀ h, h < 2 ^ (spR J (p + 1)).length → Ce8 W m w0 J (p + 1) y h w) (h72 : ∀ h, h < 8 → gi w 72 h = nI (scs J p h)) : wp (f_X3_weighWord (nI p) (nI x)) w (fun _ w' => (∀ h, h < 2 ^ (spR J p).length → Ce8 W m w0 J p x h w') ∧ Fg (cX p x) (dX p x) w w') := by
  have g8 := h8
  obtain ⟨hTo, hJn, ht, hg, h148, hWn, hJ, hC, hW0, hm, h533, h534⟩ := h8
  have hW := hTo.1
  have hp8 : p < 8 := by omega
  have hcap := (hC p hp8).2
  have s8 := g8.to f0
  obtain ⟨-, h2l⟩ := rh_lt s8 hp8 0 0 0
  have hpos : 0 < 2 ^ (spR J p).length := Nat.two_pow_pos _
  have hbd : ∀ p s x, k8 w0 J p s x ≤ 312 := fun p s x => by have := k8_le (w := w0) (J := J) p s x; omega
  generalize hNN : 2 ^ (spR J p).length = N at h2l hpos
  -- the loop over the next word, where there is one
  have main : p + 1 < m → ∀ w2, Fg (cX p x) (dX p x) w w2 → (∀ h, h < N → gi w2 (54 + 1 + p) (8 * x + h) = nI 1000000 ∧ gl w2 (63 + 1 + p) (8 * x + h) = lN 0) → wp (fix1 FU (f_X3_weighWord_95 (nI p) (nI x) (nI N) 0) 0) w2 (fun _ w' => (∀ h, h < N → Ce8 W m w0 J p x h w') ∧ Fg (cX p x) (dX p x) w w') := by
    intro hpm w2 f2 hi
    obtain ⟨k0, hk0⟩ : ∃ k0, m - 1 - p = k0 + 1 := ⟨m - 1 - p - 1, by omega⟩
    have hk1 : m - 1 - (p + 1) = k0 := by omega
    let CC : Nat → Nat → Wd → Prop := fun j h w => ∃ v n, v < 1000001 ∧ gi w (54 + 1 + p) (8 * x + h) = nI v ∧ gl w (63 + 1 + p) (8 * x + h) = lN n ∧ MC 1000000 (ACp W (k8 w0 J) (n8 w0 J) (p + 1) k0 (x, h) j) v n
    refine wp_fix1 (fun n y w3 => ∃ j, j ≤ W ∧ n = W - j ∧ y = nI j ∧ Fg (cX p x) (dX p x) w w3 ∧ ∀ h, h < N → CC j h w3) (fun n y w3 self hI hs => ?_) FU W 0 w2 (by have := FU_big; omega) ⟨0, by omega, by omega, rfl, f2, fun h hh => ⟨1000000, 0, by omega, (hi h hh).1, (hi h hh).2, Or.inl ⟨rfl, rfl, rfl⟩⟩⟩
    obtain ⟨j, j1, j2, rfl, j3, j4⟩ := hI
    have f3 : Fg cWe dWe w0 w3 := f0.tr (j3.sub (cX_We hp8) (dX_We hp8))
    have s83 := g8.to f3
    unfold f_X3_weighWord_95 f_X3_weighWord_219
    rw [wp_rI, s83.2.2.2.2.2.2.2.2.2.2.1]
    by_cases hj : W ≤ j
    · have e : j = W := by omega
      subst e
      rw [if_pos (nI_le hj (by omega)), wp_rt]
      refine ⟨fun h hh => ?_, j3⟩
      obtain ⟨v, n, q1, q2, q3, q4⟩ := j4 h hh
      exact ⟨v, n, q1, q2, q3, by rw [hk0, AC_succ]; exact q4⟩
    · have hjW : j < W := by omega
      rw [if_neg (nI_ge hjW (by omega)), if_pos rfl, ad1, wp_bnd, (rd_stateOf s83 (by omega) hjW (Or.inl hx)).wp, wp_bnd, rh_fr (fg164 f3)]
      refine wp_mono (wp_ties s83 (by omega) (fun _ => hx) hjW) (fun r w4 h4 => ?_)
      obtain ⟨rfl, f4⟩ := h4
      rw [tcs_fr (fg164 f3)]
      obtain ⟨hrl, hr8⟩ := rh_lt g8 (show p + 1 < 8 by omega) 0 j x
      have hcel := hN hpm j hjW _ hrl
      obtain ⟨v', n', d1, d2, d3, d4⟩ := hcel
      rw [hk1] at d4
      generalize hst : rh w0 J (p + 1) 0 j x = h' at hrl d2 d3 d4
      have f4' : Fg (cX p x) (dX p x) w w4 := j3.tr (f4.fg.sub (fun q k h => Or.inl h) (fun q k h => h))
      have f4'' : Fg cWe dWe w0 w4 := f0.tr (f4'.sub (cX_We hp8) (dX_We hp8))
      have s84 := g8.to f4''
      have d2' : gi w4 (54 + 1 + (p + 1)) (8 * j + h') = nI v' := by rw [f4'.2.1 _ _ (by unfold cX cSe; omega)]; exact d2
      rw [wp_gdn (by omega) (by omega), wp_aIc (by omega) (by omega) (by omega), d2', nI_add, wp_nm, wp_bnd]
      have hr := rd_halves s84 (p := p) (side := 1) (x := x) (nb := j) hp8 (by omega) hx (Or.inl hjW)
      rw [rh_fr (fg164 f4'')] at hr
      show wp (f_X7_rightHalves (nI p) (nI 1) (nI x) (nI j)) w4 _
      rw [hr.wp]
      obtain ⟨hr2, hr3⟩ := rh_lt g8 hp8 1 x j
      generalize hrr : rh w0 J p 1 x j = rr1 at hr2
      have htc := tcs_le (w := w0) (J := J) (p + 1) x j
      refine wp_fix1 (fun n y w5 => ∃ h, h ≤ N ∧ n = N - h ∧ y = nI h ∧ Fg (cX p x) (dX p x) w w5 ∧ ∀ h0, h0 < N → CC (if h0 < h then j + 1 else j) h0 w5) (fun n y w5 self5 hI hs5 => ?_) FU N 0 w4 (by have := FU_big; omega) ⟨0, by omega, by omega, rfl, f4', fun h0 hh0 => by
          rw [if_neg (by omega)]
          obtain ⟨v, n, q1, q2, q3, q4⟩ := j4 h0 hh0
          exact ⟨v, n, q1, by rw [f4.2.2 _ _ (by unfold cSe; omega)]; exact q2, by rw [f4.2.1]; exact q3, q4⟩⟩
      obtain ⟨h, i1, i2, rfl, i3, i4⟩ := hI
      unfold f_X3_weighWord_165
      by_cases hh : N ≤ h
      · rw [if_pos (nI_le hh (by omega)), ad1]
        refine hs (W - (j + 1)) _ _ (by omega) ⟨j + 1, by omega, rfl, rfl, i3, fun h0 hh0 => ?_⟩
        have := i4 h0 hh0
        rw [if_pos (by omega)] at this
        exact this
      · have hr8 : rr1 < 8 := by omega
        have hal := and8_lt h (by omega) rr1 hr8
        have e72 : gi w5 72 (h &&& rr1) = nI (scs J p (h &&& rr1)) := by
          rw [i3.2.1 _ _ (by unfold cX cSe; omega)]; exact h72 _ hal
        have e63 : gl w5 (63 + 1 + (p + 1)) (8 * j + h') = lN n' := by rw [i3.2.2 _ _ (by unfold dX; omega)]; exact d3
        have hsc := scs_le (J := J) p (h &&& rr1)
        rw [if_neg (nI_ge (by omega) (by omega)), and8 _ (by omega) _ hr8, wp_aIn hal (by omega), e72, ad1, wp_gdn (by omega) (by omega), wp_aLc (by omega) (by omega) (by omega), e63, mu8, nI_add, nI_add, wp_bnd]
        have cur := i4 h (by omega)
        rw [if_neg (by omega)] at cur
        obtain ⟨v, n, q1, q2, q3, q4⟩ := cur
        refine wp_mono (wp_take hp8 (by omega) (by omega) (by omega) q2 q3) (fun _ w6 h6 => ?_)
        obtain ⟨u1, u2, u3⟩ := h6
        have ek : k8 w0 J (p + 1) (x, h) j = tcs w0 J (p + 1) x j + scs J p (h &&& rr1) := by
          unfold k8
          rw [if_neg (by omega)]
          show tcs w0 J (p + 1) x j + scs J p (h &&& rh w0 J p 1 x j) = _
          rw [hrr]
        have en : n8 w0 J (p + 1) (x, h) j = (j, h') := by
          unfold n8
          show (j, rh w0 J (p + 1) 0 j x) = _
          rw [hst]
        have hstep := MC.step hW0 hbd (show 312 * (k0 + 1) < 1000000 by omega) q4 (v' := v') (n' := n') (by rw [en]; exact d4)
        rw [ek, show tcs w0 J (p + 1) x j + scs J p (h &&& rr1) + v' = tcs w0 J (p + 1) x j + v' + scs J p (h &&& rr1) by omega] at hstep
        have f6 : Fg (cX p x) (dX p x) w w6 := i3.tr (u3.sub (fun q k hq => Or.inr (by omega)) (fun q k hq => by unfold dX; omega))
        rw [ad1]
        refine hs5 (N - (h + 1)) _ _ (by omega) ⟨h + 1, by omega, rfl, rfl, f6, fun h0 hh0 => ?_⟩
        by_cases e : h0 = h
        · rw [if_pos (by omega), e]
          exact ⟨_, _, by split <;> omega, u1, u2, hstep⟩
        · have := i4 h0 hh0
          have ei : (if h0 < h + 1 then j + 1 else j) = (if h0 < h then j + 1 else j) := by
            by_cases c : h0 < h
            · rw [if_pos c, if_pos (by omega)]
            · rw [if_neg c, if_neg (by omega)]
          rw [ei]
          obtain ⟨v, n, q1, q2, q3, q4⟩ := this
          exact ⟨v, n, q1, by rw [u3.2.1 _ _ (by omega)]; exact q2, by rw [u3.2.2 _ _ (by omega)]; exact q3, q4⟩
  unfold f_X3_weighWord f_X7_spansAt
  obtain ⟨-, -, -, -, -, hWn1, -, -, -, -, h533', h534'⟩ := s8
  rw [wp_bnd, wp_aIn (by omega) (by omega), ((hWn1 p hp8).2).1, wp_rt, wp_nm, shl1 (by omega), hNN, wp_rI, h534', show nI m - 1 = nI (m - 1) from pk_sub (b := 1) (by omega)]
  unfold f_X3_weighWord_26
  by_cases hl : p = m - 1
  · rw [if_pos (by rw [hl])]
    refine wp_fix1 (fun n y w3 => ∃ h, h ≤ N ∧ n = N - h ∧ y = nI h ∧ Fg (cX p x) (dX p x) w w3 ∧ ∀ h0, h0 < h → gi w3 (54 + 1 + p) (8 * x + h0) = nI 0 ∧ gl w3 (63 + 1 + p) (8 * x + h0) = lN 1) (fun n y w3 self hI hs => ?_) FU N 0 w (by have := FU_big; omega) ⟨0, by omega, by omega, rfl, Fg.rf, fun h0 hh0 => by omega⟩
    obtain ⟨h, i1, i2, rfl, i3, i4⟩ := hI
    unfold f_X3_weighWord_31 f_X3_weighWord_61 f_X3_weighWord_85
    by_cases hh : N ≤ h
    · rw [if_pos (nI_le hh (by omega))]
      refine wp_fix1 (fun n y w4 => n = 0 ∧ y = nI 0 ∧ w4 = w3) (fun n y w4 self2 hI hs2 => ?_) FU 0 0 w3 (by have := FU_big; omega) ⟨rfl, rfl, rfl⟩
      obtain ⟨rfl, rfl, rfl⟩ := hI
      unfold f_X3_weighWord_95 f_X3_weighWord_219
      rw [wp_rI, i3.2.1 _ _ (by unfold cX cSe; omega), h533', if_neg (nI_ge hW0 (by omega)), if_neg (by decide), wp_rt]
      refine ⟨fun h0 hh0 => ⟨0, 1, by omega, (i4 h0 (by omega)).1, (i4 h0 (by omega)).2, ?_⟩, i3⟩
      rw [show m - 1 - p = 0 by omega]
      exact Or.inr ⟨by simp [AC, rws, PC], fun u hu => Nat.zero_le _, by simp [AC, rws, PC]⟩
    · rw [if_neg (nI_ge (by omega) (by omega)), wp_gdn (by omega) (by omega), if_neg (by decide), mu8, nI_add, wp_sIc (by omega) (by omega) (by omega), wp_gdn (by omega) (by omega), if_neg (by decide), wp_sLc (by omega) (by omega) (by omega), ad1]
      refine hs (N - (h + 1)) _ _ (by omega) ⟨h + 1, by omega, rfl, rfl, (i3.si (Or.inr (by omega))).sl (by unfold dX; omega), fun h0 hh0 => ?_⟩
      by_cases e : h0 = h
      · rw [e, gi_sl, gi_si_s, gl_sl_s]; exact ⟨rfl, rfl⟩
      · rw [gi_sl, gi_si_n (by omega), gl_sl_n (by omega), gl_si]; exact i4 h0 (by omega)
  · rw [if_neg (fun q => hl ((nI_eq (by omega) (by omega)).mp q))]
    refine wp_fix1 (fun n y w3 => ∃ h, h ≤ N ∧ n = N - h ∧ y = nI h ∧ Fg (cX p x) (dX p x) w w3 ∧ ∀ h0, h0 < h → gi w3 (54 + 1 + p) (8 * x + h0) = nI 1000000 ∧ gl w3 (63 + 1 + p) (8 * x + h0) = lN 0) (fun n y w3 self hI hs => ?_) FU N 0 w (by have := FU_big; omega) ⟨0, by omega, by omega, rfl, Fg.rf, fun h0 hh0 => by omega⟩
    obtain ⟨h, i1, i2, rfl, i3, i4⟩ := hI
    unfold f_X3_weighWord_31 f_X3_weighWord_61 f_X3_weighWord_85
    by_cases hh : N ≤ h
    · rw [if_pos (nI_le hh (by omega))]
      exact main (by omega) w3 i3 (fun h0 hh0 => i4 h0 (by omega))
    · rw [if_neg (nI_ge (by omega) (by omega)), wp_gdn (by omega) (by omega), if_pos rfl, mu8, nI_add, wp_sIc (by omega) (by omega) (by omega), wp_gdn (by omega) (by omega), if_pos rfl, wp_sLc (by omega) (by omega) (by omega), ad1]
      refine hs (N - (h + 1)) _ _ (by omega) ⟨h + 1, by omega, rfl, rfl, (i3.si (Or.inr (by omega))).sl (by unfold dX; omega), fun h0 hh0 => ?_⟩
      by_cases e : h0 = h
      · rw [e, gi_sl, gi_si_s, gl_sl_s]; exact ⟨rfl, rfl⟩
      · rw [gi_sl, gi_si_n (by omega), gl_sl_n (by omega), gl_si]; exact i4 h0 (by omega)
def Lv8 (W m : Nat) (w0 : Wd) (J : List (It × Nat)) (p : Nat) (w : Wd) : Prop := ∀ p', p ≤ p' → p' < m → ∀ x, x < W → ∀ h, h < 2 ^ (spR J p').length → Ce8 W m w0 J p' x h w
/-- what the class has weighed -/
def Wd8 (W m : Nat) (w0 : Wd) (J : List (It × Nat)) (w : Wd) : Prop := Lv8 W m w0 J 0 w ∧ ∃ v n, v < 1000001 ∧ gi w 53 1 = nI v ∧ gl w 53 2 = lN n ∧ MC 1000000 (AC W (k8 w0 J) (n8 w0 J) 0 m (16, 0)) v n
theorem wp_weigh (h8 : S8 t W m J w0) (hJl : J.length ≤ 156) (hm0 : 0 < m) : wp f_X3_weigh w0 (fun _ w' => Wd8 W m w0 J w' ∧ Fg cWe dWe w0 w') := by
  have g8 := h8
  obtain ⟨hTo, hJn, ht, hg, h148, hWn, hJ, hC, hW0, hm, h533, h534⟩ := h8
  have hW := hTo.1
  have hbd : ∀ p s x, k8 w0 J p s x ≤ 312 := fun p s x => by have := k8_le (w := w0) (J := J) p s x; omega
  let Q : Unit → Wd → Prop := fun _ w' => Wd8 W m w0 J w' ∧ Fg cWe dWe w0 w'
  have h2l : ∀ p, p < 8 → 2 ^ (spR J p).length ≤ 8 := fun p hp => (rh_lt g8 hp 0 0 0).2
  -- the end: over the first word
  have fin : ∀ w1, Lv8 W m w0 J 0 w1 → Fg cWe dWe w0 w1 → wp (wI 53 1 1000000 (wL 53 2 0 (fix1 FU (f_X3_weigh_81) 0))) w1 Q := by
    intro w1 hlv f1
    rw [wp_wI, wp_wL]
    obtain ⟨k0, hk0⟩ : ∃ k0, m = k0 + 1 := ⟨m - 1, by omega⟩
    refine wp_fix1 (fun n y w2 => ∃ j, j ≤ W ∧ n = W - j ∧ y = nI j ∧ Fg cWe dWe w0 w2 ∧ Lv8 W m w0 J 0 w2 ∧ ∃ v n, v < 1000001 ∧ gi w2 53 1 = nI v ∧ gl w2 53 2 = lN n ∧ MC 1000000 (ACp W (k8 w0 J) (n8 w0 J) 0 k0 (16, 0) j) v n) (fun n y w2 self hI hs => ?_) FU W 0 _ (by have := FU_big; omega) ⟨0, by omega, by omega, rfl, (f1.si (by unfold cWe; omega)).sl (by unfold dWe; omega), fun p' a1 a2 x hx h hh => (hlv p' a1 a2 x hx h hh).to (by rw [gi_sl, gi_si_n (by omega)]) (by rw [gl_sl_n (by omega), gl_si]), 1000000, 0, by omega, by rw [gi_sl, gi_si_s]; rfl, by rw [gl_sl_s]; rfl, Or.inl ⟨rfl, rfl, rfl⟩⟩
    obtain ⟨j, j1, j2, rfl, j3, j4, v, n, q1, q2, q3, q4⟩ := hI
    have s82 := g8.to j3
    unfold f_X3_weigh_81
    rw [wp_rI, s82.2.2.2.2.2.2.2.2.2.2.1]
    by_cases hj : W ≤ j
    · have e : j = W := by omega
      subst e
      rw [if_pos (nI_le hj (by omega)), wp_rt]
      exact ⟨⟨j4, v, n, q1, q2, q3, by rw [hk0, AC_succ]; exact q4⟩, j3⟩
    · have hjW : j < W := by omega
      rw [if_neg (nI_ge hjW (by omega)), wp_bnd]
      unfold f_X3_weighStart
      have hst := rd_stateOf s82 (p := 0) (b := 16) (x := j) (by omega) hjW (Or.inr ⟨rfl, rfl⟩)
      rw [rh_fr (fg164 j3), rh_0 hJ] at hst
      rw [wp_bnd]
      show wp (f_X3_stateOf (nI 0) (nI 16) (nI j)) w2 _
      rw [hst.wp, wp_bnd]
      refine wp_mono (wp_ties s82 (p := 0) (b := 16) (x := j) (by omega) (fun h => absurd rfl h) hjW) (fun r w3 h3 => ?_)
      obtain ⟨rfl, f3⟩ := h3
      rw [tcs_fr (fg164 j3)]
      have htc := tcs_le (w := w0) (J := J) 0 16 j
      have lv3 : Lv8 W m w0 J 0 w3 := fun p' a1 a2 x hx h hh => (j4 p' a1 a2 x hx h hh).to (f3.2.2 _ _ (by unfold cSe; omega)) (by rw [f3.2.1])
      obtain ⟨v', n', d1, d2, d3, d4⟩ := lv3 0 (by omega) hm0 j hjW 0 (Nat.two_pow_pos _)
      have q2' : gi w3 53 1 = nI v := by rw [f3.2.2 _ _ (by unfold cSe; omega)]; exact q2
      have q3' : gl w3 53 2 = lN n := by rw [f3.2.1]; exact q3
      have hstep := MC.step hW0 hbd (show 312 * (k0 + 1) < 1000000 by omega) q4 (v' := v') (n' := n') (by
        have en : n8 w0 J 0 (16, 0) j = (j, 0) := by unfold n8; rw [rh_0 hJ]
        rw [en, show k0 = m - 1 - 0 by omega]
        exact d4)
      have ek : k8 w0 J 0 (16, 0) j = tcs w0 J 0 16 j := by unfold k8; rw [if_pos rfl, Nat.add_zero]
      rw [ek] at hstep
      have f3' : Fg cWe dWe w0 w3 := j3.tr (f3.fg.sub (fun q k h => Or.inl h) (fun q k h => h))
      have d2' : gi w3 (54 + 1 + (0 : Int32).toNatClampNeg) (8 * j + 0) = nI v' := d2
      have d3' : gl w3 (63 + 1 + (0 : Int32).toNatClampNeg) (8 * j + 0) = lN n' := d3
      show wp (gd (inb (nI 0) 8) _) w3 _
      rw [wp_gdn (by omega) (by omega), wp_aIn (by omega) (by omega), d2', nI_add, wp_nm, wp_rI, q2']
      unfold f_X3_weighStart_48 f_X3_weighStart_73
      have nx : ∀ w4, Fg (fun q k => q = 53 ∧ k = 1) (fun q k => q = 53 ∧ k = 2) w3 w4 → gi w4 53 1 = nI (if tcs w0 J 0 16 j + v' < v then tcs w0 J 0 16 j + v' else v) → gl w4 53 2 = lN (if tcs w0 J 0 16 j + v' < v then n' else if tcs w0 J 0 16 j + v' = v then n + n' else n) → wp (self (nI j + 1)) w4 Q := by
        intro w4 f4 a1 a2
        rw [ad1]
        refine hs (W - (j + 1)) _ _ (by omega) ⟨j + 1, by omega, rfl, rfl, f3'.tr (f4.sub (fun q k h => by unfold cWe; omega) (fun q k h => by unfold dWe; omega)), fun p' b1 b2 x hx h hh => (lv3 p' b1 b2 x hx h hh).to (f4.2.1 _ _ (by omega)) (f4.2.2 _ _ (by omega)), _, _, by split <;> omega, a1, a2, hstep⟩
      by_cases c1 : v ≤ tcs w0 J 0 16 j + v'
      · rw [if_pos (nI_le c1 (by omega)), wp_rI, q2']
        by_cases c2 : tcs w0 J 0 16 j + v' = v
        · rw [if_pos (by rw [c2]), wp_rL, q3']
          show wp (gd (inb (nI 0) 8) _) w3 _
          rw [wp_gdn (by omega) (by omega), wp_aLn (by omega) (by omega), d3', lN_add, wp_wL, wp_rt]
          exact nx _ (Fg.rf.sl ⟨rfl, rfl⟩) (by rw [gi_sl, q2', if_neg (by omega)]) (by rw [gl_sl_s, if_neg (by omega), if_pos c2])
        · rw [if_neg (fun q => c2 ((nI_eq (by omega) (by omega)).mp q)), wp_rt]
          exact nx _ Fg.rf (by rw [q2', if_neg (by omega)]) (by rw [q3', if_neg (by omega), if_neg c2])
      · rw [if_neg (nI_ge (by omega) (by omega)), wp_wI, wp_wL, wp_rI, gi_sl, gi_si_s, if_pos rfl, wp_rL, gl_sl_s]
        show wp (gd (inb (nI 0) 8) _) _ _
        rw [wp_gdn (by omega) (by omega), wp_aLn (by omega) (by omega), gl_sl_n (by show (63 + 1 + 0 : Nat) ≠ 53 ∨ _; omega), gl_si, d3', show (0 : Int64) = lN 0 from rfl, lN_add, wp_wL, wp_rt]
        exact nx _ (((Fg.rf.si ⟨rfl, rfl⟩).sl ⟨rfl, rfl⟩).sl ⟨rfl, rfl⟩) (by rw [gi_sl, gi_sl, gi_si_s, if_pos (by omega)]) (by rw [gl_sl_s, if_pos (by omega), Nat.zero_add])
  unfold f_X3_weigh
  rw [wp_rI, h534, wp_nm]
  refine wp_fix1 (fun n y w1 => ∃ p, p ≤ m ∧ n = p ∧ y = nI p - 1 ∧ Lv8 W m w0 J p w1 ∧ Fg cWe dWe w0 w1) (fun n y w1 self hI hs => ?_) FU m _ w0 (by have := FU_big; omega) ⟨m, by omega, rfl, rfl, fun p' a1 a2 => by omega, Fg.rf⟩
  obtain ⟨p, p1, rfl, rfl, p2, p3⟩ := hI
  unfold f_X3_weigh_7
  by_cases p0 : n = 0
  · subst p0
    rw [if_pos (by decide)]
    exact fin w1 p2 p3
  · obtain ⟨q, rfl⟩ : ∃ q, n = q + 1 := ⟨n - 1, by omega⟩
    have hq8 : q < 8 := by omega
    rw [sb1, if_neg (nI_pos (by omega))]
    refine wp_fix1 (fun n y w2 => ∃ h, h ≤ 8 ∧ n = 8 - h ∧ y = nI h ∧ Lv8 W m w0 J (q + 1) w2 ∧ Fg cWe dWe w0 w2 ∧ ∀ h0, h0 < h → gi w2 72 h0 = nI (scs J q h0)) (fun n y w2 self2 hI hs2 => ?_) FU 8 0 w1 (by have := FU_big; omega) ⟨0, by omega, by omega, rfl, p2, p3, fun h0 hh0 => by omega⟩
    obtain ⟨h, i1, i2, rfl, i3, i4, i5⟩ := hI
    unfold f_X3_weigh_13
    by_cases hh : h < 8
    · rw [if_neg (nge_l 8 hh (by omega)), wp_bnd, (rd_spans (g8.to i4) hq8 hh).wp, wp_sIn (by omega) (by omega), ad1]
      refine hs2 (8 - (h + 1)) _ _ (by omega) ⟨h + 1, by omega, rfl, rfl, fun p' a1 a2 x hx h' hh' => (i3 p' a1 a2 x hx h' hh').to (by rw [gi_si_n (by omega)]) (by rw [gl_si]), i4.si (by unfold cWe; omega), fun h0 hh0 => ?_⟩
      by_cases e : h0 = h
      · rw [e, gi_si_s]
      · rw [gi_si_n (by omega)]; exact i5 h0 (by omega)
    · rw [if_pos (ge_l 8 (by omega) (by omega))]
      refine wp_fix1 (fun n y w3 => ∃ x, x ≤ W ∧ n = W - x ∧ y = nI x ∧ Lv8 W m w0 J (q + 1) w3 ∧ Fg cWe dWe w0 w3 ∧ (∀ h0, h0 < 8 → gi w3 72 h0 = nI (scs J q h0)) ∧ ∀ x', x' < x → ∀ h, h < 2 ^ (spR J q).length → Ce8 W m w0 J q x' h w3) (fun n y w3 self3 hI hs3 => ?_) FU W 0 w2 (by have := FU_big; omega) ⟨0, by omega, by omega, rfl, i3, i4, fun h0 hh0 => i5 h0 (by omega), fun x' hx' => by omega⟩
      obtain ⟨x, x1, x2, rfl, x3, x4, x5, x6⟩ := hI
      unfold f_X3_weigh_42
      rw [wp_rI, (g8.to x4).2.2.2.2.2.2.2.2.2.2.1]
      by_cases hx : W ≤ x
      · rw [if_pos (nI_le hx (by omega)), show nI q + (-1) = nI q - 1 by rw [Int32.sub_eq_add_neg]]
        refine hs q _ _ (by omega) ⟨q, by omega, rfl, rfl, fun p' a1 a2 x' hx' h' hh' => ?_, x4⟩
        by_cases e : p' = q
        · subst e
          exact x6 x' (by omega) h' hh'
        · exact x3 p' (by omega) a2 x' hx' h' hh'
      · have hxW : x < W := by omega
        rw [if_neg (nI_ge hxW (by omega)), wp_bnd]
        refine wp_mono (wp_weighWord g8 hJl (p := q) (x := x) (by omega) hxW x4 (fun hpm y hy h hh => x3 (q + 1) (by omega) hpm y hy h hh) x5) (fun _ w4 h4 => ?_)
        obtain ⟨a1, a2⟩ := h4
        rw [ad1]
        refine hs3 (W - (x + 1)) _ _ (by omega) ⟨x + 1, by omega, rfl, rfl, fun p' b1 b2 x' hx' h' hh' => ?_, x4.tr (a2.sub (cX_We hq8) (dX_We hq8)), fun h0 hh0 => ?_, fun x' hx' h' hh' => ?_⟩
        · exact (x3 p' b1 b2 x' hx' h' hh').to (a2.2.1 _ _ (by unfold cX cSe; omega)) (a2.2.2 _ _ (by unfold dX; omega))
        · rw [a2.2.1 _ _ (by unfold cX cSe; omega)]; exact x5 h0 hh0
        · by_cases e : x' = x
          · rw [e]; exact a1 h' hh'
          · have := h2l q hq8
            exact (x6 x' (by omega) h' hh').to (a2.2.1 _ _ (by unfold cX cSe; omega)) (a2.2.2 _ _ (by unfold dX; omega))
end WEIGH
