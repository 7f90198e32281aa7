/-! the reference: layState, layLeast -/
section LEAST2
variable {w0 w : Wd} {t W m : Nat} {L : List (Nat × Bool)} {g : Nat → Nat}
/-- all is laid for the weighing -/
def S9 (t W m : Nat) (L : List (Nat × Bool)) (g : Nat → Nat) (w : Wd) : Prop := ITon t W w ∧ 0 < W ∧ m ≤ 8 ∧ RLay L w ∧ L.length ≤ 156 ∧ Chn L w ∧ (∀ x ∈ L, x.1 < m) ∧ nearOk L = true ∧ ∀ i, i < L.length → g i < 1024 ∧ gi w 182 i = nI (g i)
def c3 (q _k : Nat) : Prop := q = 181 ∨ q = 183
def d3 (q _k : Nat) : Prop := q = 184 ∨ q = 185
theorem S9.to (h : S9 t W m L g w) (ht : isT t) {w' : Wd} (f : Fg c3 d3 w w') : S9 t W m L g w' := by
  obtain ⟨h1, h2, h3, h4, h5, h6, h7, h8, h9⟩ := h
  have e : ∀ q k, ¬ (q = 181 ∨ q = 183) → gi w' q k = gi w q k := fun q k hq => f.2.1 q k hq
  refine ⟨h1.to (fun q k hc => e q k (by unfold cTon at hc; unfold isT at ht; omega)), h2, h3, ⟨?_, fun i hi => ?_⟩, h5, ⟨fun p hp => ?_, fun i hi => ?_⟩, h7, h8, fun i hi => ?_⟩
  · rw [e _ _ (by omega)]; exact h4.1
  · rw [e _ _ (by omega), e _ _ (by omega), e _ _ (by omega)]; exact h4.2 i hi
  · rw [e _ _ (by omega)]; exact h6.1 p hp
  · rw [e _ _ (by omega)]; exact h6.2 i hi
  · rw [e _ _ (by omega)]; exact h9 i hi
theorem un_fr {w w' : Wd} (h : ∀ q k, (q = 164 ∨ q = 165) → gi w' q k = gi w q k) (L : List (Nat × Bool)) (g r : Nat → Nat) (p : Nat) : un w' L g r p = un w L g r p := by
  unfold un
  refine sm_congr _ (fun i _ => ?_)
  unfold uo
  rw [tkL_fr h]
theorem k9_le (p : Nat) (s : Nat × Nat) (x : Nat) : k9 w0 L g p s x ≤ L.length := un_le _ _ _ _ _
theorem ix_lt {p : Nat} {s : Nat × Nat} (hp : p ≤ 8) (h1 : s.1 < 16) (h2 : s.2 < 16) : ix p s < 2304 := by unfold ix; omega
theorem ix_inj {p p' : Nat} {s s' : Nat × Nat} (h1 : s.1 < 16) (h2 : s.2 < 16) (h1' : s'.1 < 16) (h2' : s'.2 < 16) (h : ix p s = ix p' s') : p = p' ∧ s = s' := by
  obtain ⟨a, b⟩ := s
  obtain ⟨c, d⟩ := s'
  unfold ix at h
  have h1 : a < 16 := h1
  have h2 : b < 16 := h2
  have h1' : c < 16 := h1'
  have h2' : d < 16 := h2'
  have h : 256 * p + 16 * a + b = 256 * p' + 16 * c + d := h
  have e1 : p = p' := by omega
  have e2 : a = c := by omega
  have e3 : b = d := by omega
  exact ⟨e1, by rw [e2, e3]⟩
theorem Cel.to {c : Nat → Nat × Nat → Nat → Nat} {p p' k : Nat} {s s' : Nat × Nat} {w' : Wd} (h : Cel W c p k s w) (f : Fg (cE p' s') (dE p' s') w w') (hne : ix p s ≠ ix p' s') : Cel W c p k s w' := by
  obtain ⟨v, n, z, h0, h1, h2, h3, h4, h5⟩ := h
  refine ⟨v, n, z, h0, ?_, ?_, ?_, h4, h5⟩
  · rw [f.2.1 _ _ (by unfold cE; omega)]; exact h1
  · rw [f.2.2 _ _ (by unfold dE; omega)]; exact h2
  · rw [f.2.2 _ _ (by unfold dE; omega)]; exact h3
theorem wp_layState (ht : isT t) (h9 : S9 t W m L g w0) {p : Nat} {s : Nat × Nat} (hp : p < m) (hs : V9 W p s) (f0 : Fg c3 d3 w0 w) (hN : ∀ s', V9 W (p + 1) s' → Cel W (k9 w0 L g) (p + 1) (m - 1 - p) s' w) : wp (f_X9_layState (nI p) (nI s.1) (nI s.2)) w (fun _ w' => Cel W (k9 w0 L g) p (m - p) s w' ∧ Fg (cE p s) (dE p s) w w') := by
  have g9 := h9
  obtain ⟨hTo, hW0, hm, hL, hl, hC, hb, hn, hg⟩ := h9
  have hW := hTo.1
  obtain ⟨s1, s2⟩ := hs.lt hW0
  have hix : ix p s < 2304 := ix_lt (by omega) (by omega) (by omega)
  have hk1 : m - p = m - 1 - p + 1 := by omega
  generalize hk : m - 1 - p = k at hN hk1
  have hc9 : ∀ p s x, k9 w0 L g p s x ≤ 156 := fun p s x => Nat.le_trans (k9_le p s x) hl
  have loop : ∀ w2 : Wd, Fg (cE p s) (dE p s) w w2 → (2 ≤ p → gi w2 181 (p - 2) = nI s.1) → (1 ≤ p → gi w2 181 (p - 1) = nI s.2) → gi w2 183 (ix p s) = nI 100000 → gl w2 184 (ix p s) = lN 0 → gl w2 185 (ix p s) = lN 0 → wp (f_X9_layState_60 (nI p) (nI s.2) (nI (ix p s))) w2 (fun _ w' => Cel W (k9 w0 L g) p (m - p) s w' ∧ Fg (cE p s) (dE p s) w w') := by
    intro w2 f2 q1 q2 q3 q4 q5
    unfold f_X9_layState_60
    refine wp_fix1 (fun n x w' => ∃ j, j ≤ W ∧ n = W - j ∧ x = nI j ∧ Fg (cE p s) (dE p s) w w' ∧ (2 ≤ p → gi w' 181 (p - 2) = nI s.1) ∧ (1 ≤ p → gi w' 181 (p - 1) = nI s.2) ∧ ∃ v n z, v < 100001 ∧ gi w' 183 (ix p s) = nI v ∧ gl w' 184 (ix p s) = lN n ∧ gl w' 185 (ix p s) = lN z ∧ MC 100000 (ACp W (k9 w0 L g) n9 p k s j) v n ∧ z = (ACp W (k9 w0 L g) n9 p k s j).count 0) (fun n x w' self hI hsf => ?_) FU W 0 w2 (by have := FU_big; omega) ⟨0, by omega, by omega, rfl, f2, q1, q2, 100000, 0, 0, by omega, q3, q4, q5, Or.inl ⟨rfl, rfl, rfl⟩, rfl⟩
    obtain ⟨j, j1, j2, rfl, j3, j4, j5, v, n, z, b1, b2, b3, b4, b5, b6⟩ := hI
    have f3 : Fg c3 d3 w0 w' := f0.tr (j3.sub (fun q k h => by unfold cE at h; unfold c3; omega) (fun q k h => by unfold dE at h; unfold d3; omega))
    have e163 : gi w' 163 0 = nI W := by rw [f3.2.1 _ _ (by unfold c3; omega)]; exact hTo.2.2.1
    unfold f_X9_layState_63
    rw [wp_a0 (by omega) (by omega), e163]
    by_cases hj : W ≤ j
    · rw [if_pos (nI_le hj (by omega)), wp_rt]
      have e : j = W := by omega
      subst e
      refine ⟨⟨v, n, z, b1, b2, b3, b4, ?_, ?_⟩, j3⟩
      · rw [hk1, AC_succ]; exact b5
      · rw [hk1, AC_succ]; exact b6
    · rw [if_neg (nI_ge (by omega) (by omega)), wp_sIn (by omega) (by omega)]
      have hjW : j < W := by omega
      generalize hw4 : si w' 181 p (nI j) = w4
      have f4 : Fg (cE p s) (dE p s) w w4 := by rw [← hw4]; exact j3.si (Or.inl rfl)
      have f4' : Fg c3 d3 w0 w4 := f0.tr (f4.sub (fun q k h => by unfold cE at h; unfold c3; omega) (fun q k h => by unfold dE at h; unfold d3; omega))
      have h94 := g9.to ht f4'
      obtain ⟨hTo4, -, -, hL4, -, hC4, -, -, hg4⟩ := h94
      have r1 : gi w4 181 p = nI j := by rw [← hw4, gi_si_s]
      have r2 : 2 ≤ p → gi w4 181 (p - 2) = nI s.1 := fun h => by rw [← hw4, gi_si_n (by omega)]; exact j4 h
      have r3 : 1 ≤ p → gi w4 181 (p - 1) = nI s.2 := fun h => by rw [← hw4, gi_si_n (by omega)]; exact j5 h
      have b2' : gi w4 183 (ix p s) = nI v := by rw [← hw4, gi_si_n (by omega)]; exact b2
      have b3' : gl w4 184 (ix p s) = lN n := by rw [← hw4, gl_si]; exact b3
      have b4' : gl w4 185 (ix p s) = lN z := by rw [← hw4, gl_si]; exact b4
      have hu := rd_unlike9 hTo4 (p := p) (r := rr p s.1 s.2 j) hL4 (by omega) hC4 (by omega) hg4 (fun i q hi hli hlk => by
        have a1 := look_le hlk
        have a2 := look_near hn hi hlk
        rw [hli] at a1 a2
        unfold rr
        by_cases c1 : q = p
        · rw [if_pos c1, c1]; exact ⟨by omega, hjW, r1⟩
        · rw [if_neg c1]
          by_cases c2 : q + 1 = p
          · rw [if_pos c2, show q = p - 1 by omega]; exact ⟨by omega, s2, r3 (by omega)⟩
          · rw [if_neg c2, show q = p - 2 by omega]; exact ⟨by omega, s1, r2 (by omega)⟩)
      rw [un_fr (w := w0) (fun q k hq => f4'.2.1 q k (by unfold c3; omega))] at hu
      have ek : un w0 L g (rr p s.1 s.2 j) p = k9 w0 L g p s j := rfl
      rw [ek] at hu
      have hkk := hc9 p s j
      generalize hoff : k9 w0 L g p s j = off at hu hkk
      rw [wp_bnd, hu.wp]
      have vn := hs.nx (x := j) hjW
      have vnl := vn.lt hW0
      obtain ⟨v', n', z', d1, d2, d3', d4, d5, d6⟩ := hN _ vn
      have hixn : ix (p + 1) (n9 p s j) < 2304 := ix_lt (by omega) (by omega) (by omega)
      have hne : ix (p + 1) (n9 p s j) ≠ ix p s := fun h => by
        have := (ix_inj (by omega) (by omega) (by omega) (by omega) h).1
        omega
      have d2' : gi w4 183 (ix (p + 1) (n9 p s j)) = nI v' := by rw [f4.2.1 _ _ (by unfold cE; omega)]; exact d2
      have d3'' : gl w4 184 (ix (p + 1) (n9 p s j)) = lN n' := by rw [f4.2.2 _ _ (by unfold dE; omega)]; exact d3'
      have d4' : gl w4 185 (ix (p + 1) (n9 p s j)) = lN z' := by rw [f4.2.2 _ _ (by unfold dE; omega)]; exact d4
      have hstep := MC.step hW0 hc9 (show 156 * (k + 1) < 100000 by omega) b5 d5
      rw [hoff] at hstep
      have hcnt : (ACp W (k9 w0 L g) n9 p k s (j + 1)).count 0 = z + (if off = 0 then z' else 0) := by
        rw [ACp_succ, List.count_append, count_shift, hoff, b6, d6]
      have main : ∀ a0 : Nat, a0 = (n9 p s j).1 → wp (f_X9_layState_101 self (nI p) (nI s.2) (nI (ix p s)) (nI j) (nI off) (nI a0) (nI p + 1)) w4 (fun _ w' => Cel W (k9 w0 L g) p (m - p) s w' ∧ Fg (cE p s) (dE p s) w w') := by
        intro a0 ha0
        unfold f_X9_layState_101
        have eix : 256 * (p + 1) + 16 * a0 + j = ix (p + 1) (n9 p s j) := by rw [ha0]; rfl
        rw [ad1, wp_bnd, (rd_at (w := w4) (p + 1) a0 j).wp, eix, wp_aIn hixn (by omega), d2', nI_add, wp_nm, wp_aLn hix (by omega), b4']
        have last : ∀ zz : Nat, zz = (if off = 0 then z' else 0) → wp (f_X9_layState_144 self (nI p) (nI s.2) (nI (ix p s)) (nI j) (nI (ix (p + 1) (n9 p s j))) (nI (off + v')) (lN zz) (lN z) (nI (ix p s))) w4 (fun _ w' => Cel W (k9 w0 L g) p (m - p) s w' ∧ Fg (cE p s) (dE p s) w w') := by
          intro zz hzz
          unfold f_X9_layState_144
          have fin : ∀ nn vv : Nat, vv = (if off + v' < v then off + v' else v) → nn = (if off + v' < v then n' else if off + v' = v then n + n' else n) → wp (self (nI j + 1)) (si (sl (sl w4 185 (ix p s) (lN (z + zz))) 184 (ix p s) (lN nn)) 183 (ix p s) (nI vv)) (fun _ w' => Cel W (k9 w0 L g) p (m - p) s w' ∧ Fg (cE p s) (dE p s) w w') := by
            intro nn vv hvv hnn
            rw [ad1]
            refine hsf (W - (j + 1)) _ _ (by omega) ⟨j + 1, by omega, rfl, rfl, ((f4.sl ⟨Or.inr rfl, rfl⟩).sl ⟨Or.inl rfl, rfl⟩).si (Or.inr ⟨rfl, rfl⟩), fun h => ?_, fun h => ?_, vv, nn, z + zz, ?_, ?_, ?_, ?_, ?_, ?_⟩
            · rw [gi_si_n (by omega), gi_sl, gi_sl]; exact r2 h
            · rw [gi_si_n (by omega), gi_sl, gi_sl]; exact r3 h
            · rw [hvv]; split <;> omega
            · rw [gi_si_s]
            · rw [gl_si, gl_sl_s]
            · rw [gl_si, gl_sl_n (by omega), gl_sl_s]
            · rw [hvv, hnn]; exact hstep
            · rw [hcnt, hzz]
          have l211 : ∀ nn : Nat, nn = (if off + v' < v then n' else if off + v' = v then n + n' else n) → wp (f_X9_layState_211 self (nI p) (nI s.2) (nI (ix p s)) (nI j) (nI (off + v')) (lN nn) (nI (ix p s))) (sl w4 185 (ix p s) (lN (z + zz))) (fun _ w' => Cel W (k9 w0 L g) p (m - p) s w' ∧ Fg (cE p s) (dE p s) w w') := by
            intro nn hnn
            unfold f_X9_layState_211 f_X9_layState_242
            rw [wp_sLn hix (by omega), wp_aIn hix (by omega), gi_sl, gi_sl, b2']
            by_cases hc : v ≤ off + v'
            · rw [if_pos (nI_le hc (by omega)), wp_aIn hix (by omega), gi_sl, gi_sl, b2', wp_sIn hix (by omega)]
              exact fin nn v (by rw [if_neg (by omega)]) hnn
            · rw [if_neg (nI_ge (by omega) (by omega)), wp_sIn hix (by omega)]
              exact fin nn (off + v') (by rw [if_pos (by omega)]) hnn
          rw [wp_sLn hix (by omega), lN_add, wp_aIn hix (by omega), gi_sl, b2']
          by_cases hc : v ≤ off + v'
          · rw [if_pos (nI_le hc (by omega)), wp_aIn hix (by omega), gi_sl, b2']
            by_cases hc2 : off + v' = v
            · rw [if_pos (by rw [hc2]), wp_aLn hix (by omega), gl_sl_n (by omega), b3', wp_aLn hixn (by omega), gl_sl_n (by omega), d3'', lN_add]
              exact l211 _ (by rw [if_neg (by omega), if_pos hc2])
            · rw [if_neg (fun q => hc2 ((nI_eq (by omega) (by omega)).mp q)), wp_aLn hix (by omega), gl_sl_n (by omega), b3']
              exact l211 _ (by rw [if_neg (by omega), if_neg hc2])
          · rw [if_neg (nI_ge (by omega) (by omega)), wp_aLn hixn (by omega), gl_sl_n (by omega), d3'']
            exact l211 _ (by rw [if_pos (by omega)])
        by_cases ho : off = 0
        · rw [if_pos (eq_l 0 ho), wp_aLn hixn (by omega), d4']
          exact last z' (by rw [if_pos ho])
        · rw [if_neg (ne_l 0 ho (by omega) (by omega))]
          exact last 0 (by rw [if_neg ho])
      by_cases p0 : p = 0
      · rw [if_pos (le_l 0 (by omega) (by omega))]
        exact main 0 (by unfold n9; rw [if_pos p0])
      · rw [if_neg (nle_l 0 (by omega) (by omega))]
        exact main s.2 (by unfold n9; rw [if_neg p0])
  unfold f_X9_layState
  rw [wp_bnd, (rd_at (w := w) p s.1 s.2).wp, show 256 * p + 16 * s.1 + s.2 = ix p s from rfl, wp_sIn hix (by omega), wp_sLn hix (by omega), wp_sLn hix (by omega)]
  generalize hw1 : sl (sl (si w 183 (ix p s) 100000) 184 (ix p s) 0) 185 (ix p s) 0 = w1
  have f1 : Fg (cE p s) (dE p s) w w1 := by rw [← hw1]; exact ((Fg.rf.si (Or.inr ⟨rfl, rfl⟩)).sl ⟨Or.inl rfl, rfl⟩).sl ⟨Or.inr rfl, rfl⟩
  have u1 : gi w1 183 (ix p s) = nI 100000 := by rw [← hw1, gi_sl, gi_sl, gi_si_s]; rfl
  have u2 : gl w1 184 (ix p s) = lN 0 := by rw [← hw1, gl_sl_n (by omega), gl_sl_s]; rfl
  have u3 : gl w1 185 (ix p s) = lN 0 := by rw [← hw1, gl_sl_s]; rfl
  unfold f_X9_layState_47
  have mid : ∀ w2 : Wd, Fg (cE p s) (dE p s) w w2 → (2 ≤ p → gi w2 181 (p - 2) = nI s.1) → gi w2 183 (ix p s) = nI 100000 → gl w2 184 (ix p s) = lN 0 → gl w2 185 (ix p s) = lN 0 → wp (if nI p ≤ 0 then (f_X9_layState_60 (nI p) (nI s.2) (nI (ix p s))) else (sI 181 8 (nI p - 1) (nI s.2) (f_X9_layState_60 (nI p) (nI s.2) (nI (ix p s))))) w2 (fun _ w' => Cel W (k9 w0 L g) p (m - p) s w' ∧ Fg (cE p s) (dE p s) w w') := by
    intro w2 f2 q1 q3 q4 q5
    by_cases p0 : p = 0
    · rw [if_pos (le_l 0 (by omega) (by omega))]
      exact loop w2 f2 q1 (fun h => by omega) q3 q4 q5
    · rw [if_neg (nle_l 0 (by omega) (by omega)), show nI p - 1 = nI (p - 1) from pk_sub (b := 1) (by omega), wp_sIn (by omega) (by omega)]
      exact loop _ (f2.si (Or.inl rfl)) (fun h => by rw [gi_si_n (by omega)]; exact q1 h) (fun h => by rw [gi_si_s]) (by rw [gi_si_n (by omega)]; exact q3) (by rw [gl_si]; exact q4) (by rw [gl_si]; exact q5)
  by_cases p1 : p ≤ 1
  · rw [if_pos (le_l 1 p1 (by omega))]
    exact mid w1 f1 (fun h => by omega) u1 u2 u3
  · rw [if_neg (nle_l 1 (by omega) (by omega)), show nI p - 2 = nI (p - 2) from pk_sub (b := 2) (by omega), wp_sIn (by omega) (by omega)]
    exact mid _ (f1.si (Or.inl rfl)) (fun h => by rw [gi_si_s]) (by rw [gi_si_n (by omega)]; exact u1) (by rw [gl_si]; exact u2) (by rw [gl_si]; exact u3)
/-- every cell from the place p on tells what it must -/
def Lev (W m : Nat) (c : Nat → Nat × Nat → Nat → Nat) (p : Nat) (w : Wd) : Prop := ∀ p', p ≤ p' → p' ≤ m → ∀ s, V9 W p' s → Cel W c p' (m - p') s w
theorem V9.iff {p : Nat} {s : Nat × Nat} : V9 W p s ↔ s.1 < (if 2 ≤ p then W else 1) ∧ s.2 < (if 1 ≤ p then W else 1) := by
  unfold V9
  by_cases h1 : 2 ≤ p <;> by_cases h2 : 1 ≤ p <;> simp [h1, h2] <;> omega
theorem wp_layLeast (ht : isT t) (h9 : S9 t W m L g w0) : wp (f_X9_layLeast (nI m)) w0 (fun _ w' => Lev W m (k9 w0 L g) 0 w' ∧ Fg c3 d3 w0 w') := by
  have g9 := h9
  obtain ⟨hTo, hW0, hm, hL, hl, hC, hb, hn, hg⟩ := h9
  have hW := hTo.1
  unfold f_X9_layLeast
  refine wp_fix1 (fun n x w' => ∃ k, k ≤ 256 ∧ n = 256 - k ∧ x = nI k ∧ Fg c3 d3 w0 w' ∧ ∀ j, j < k → gi w' 183 (256 * m + j) = nI 0 ∧ gl w' 184 (256 * m + j) = lN 1 ∧ gl w' 185 (256 * m + j) = lN 1) (fun n x w' self hI hs => ?_) FU 256 0 w0 (by have := FU_big; omega) ⟨0, by omega, by omega, rfl, Fg.rf, fun j hj => by omega⟩
  obtain ⟨k, k1, k2, rfl, k3, k4⟩ := hI
  unfold f_X9_layLeast_2
  by_cases hk : k < 256
  · rw [if_neg (nge_l 256 hk (by omega)), mu256, nI_add, wp_sIn (by omega) (by omega), wp_sLn (by omega) (by omega), wp_sLn (by omega) (by omega), ad1]
    refine hs (256 - (k + 1)) _ _ (by omega) ⟨k + 1, by omega, rfl, rfl, ((k3.si (Or.inr rfl)).sl (Or.inl rfl)).sl (Or.inr rfl), fun j hj => ?_⟩
    by_cases e : j = k
    · subst e
      refine ⟨?_, ?_, ?_⟩
      · rw [gi_sl, gi_sl, gi_si_s]; rfl
      · rw [gl_sl_n (by omega), gl_sl_s]; rfl
      · rw [gl_sl_s]; rfl
    · obtain ⟨h1, h2, h3⟩ := k4 j (by omega)
      refine ⟨?_, ?_, ?_⟩
      · rw [gi_sl, gi_sl, gi_si_n (by omega)]; exact h1
      · rw [gl_sl_n (by omega), gl_sl_n (by omega), gl_si]; exact h2
      · rw [gl_sl_n (by omega), gl_sl_n (by omega), gl_si]; exact h3
  · rw [if_pos (ge_l 256 (by omega) (by omega)), wp_nm]
    have base : Lev W m (k9 w0 L g) m w' := by
      intro p' h1 h2 s hsv
      have e : p' = m := by omega
      subst e
      have hlt := hsv.lt hW0
      have := k4 (16 * s.1 + s.2) (by omega)
      rw [show 256 * p' + (16 * s.1 + s.2) = ix p' s by unfold ix; omega] at this
      refine ⟨0, 1, 1, by omega, this.1, this.2.1, this.2.2, ?_, ?_⟩
      · rw [Nat.sub_self]; exact Or.inr ⟨by simp [AC, rws, PC], fun u hu => Nat.zero_le _, by simp [AC, rws, PC]⟩
      · rw [Nat.sub_self]; simp [AC, rws, PC]
    let Q : Unit → Wd → Prop := fun _ w' => Lev W m (k9 w0 L g) 0 w' ∧ Fg c3 d3 w0 w'
    have outer : ∀ p, p ≤ m → ∀ w1, Lev W m (k9 w0 L g) p w1 → Fg c3 d3 w0 w1 → wp (fix1 FU (f_X9_layLeast_58) (nI p - 1)) w1 Q := by
      intro p hp w1 hlev hf
      refine wp_fix1 (fun n x w2 => ∃ p, p ≤ m ∧ n = p ∧ x = nI p - 1 ∧ Lev W m (k9 w0 L g) p w2 ∧ Fg c3 d3 w0 w2) (fun n x w2 self2 hI hs2 => ?_) FU p _ w1 (by have := FU_big; omega) ⟨p, hp, rfl, rfl, hlev, hf⟩
      obtain ⟨p, p1, rfl, rfl, p2, p3⟩ := hI
      unfold f_X9_layLeast_58
      by_cases p0 : n = 0
      · subst p0
        rw [if_pos (by decide), wp_rt]
        exact ⟨p2, p3⟩
      · obtain ⟨q, rfl⟩ : ∃ q, n = q + 1 := ⟨n - 1, by omega⟩
        rw [sb1, if_neg (nI_pos (by omega))]
        have e163 : ∀ w3, Fg c3 d3 w0 w3 → gi w3 163 0 = nI W := fun w3 f3 => by rw [f3.2.1 _ _ (by unfold c3; omega)]; exact hTo.2.2.1
        have hB1 : ∀ (R : Prop) [Decidable R], (if R then W else 1) ≤ 16 ∧ 0 < (if R then W else 1) := by
          intro R _
          split <;> omega
        -- loop over u
        refine wp_fix1 (fun n x w3 => ∃ u, u ≤ (if 2 ≤ q then W else 1) ∧ n = 16 - u ∧ x = nI u ∧ Lev W m (k9 w0 L g) (q + 1) w3 ∧ Fg c3 d3 w0 w3 ∧ ∀ s, V9 W q s → s.1 < u → Cel W (k9 w0 L g) q (m - q) s w3) (fun n x w3 self3 hI hs3 => ?_) FU 16 0 w2 (by have := FU_big; omega) ⟨0, by omega, by omega, rfl, p2, p3, fun s _ h => by omega⟩
        obtain ⟨u, u1, u2, rfl, u3, u4, u5⟩ := hI
        have hb2 := hB1 (2 ≤ q)
        have hb1 := hB1 (1 ≤ q)
        have l80 : wp (f_X9_layLeast_80 self2 self3 (nI q) (nI u) (nI (if 2 ≤ q then W else 1)) (nI u)) w3 Q := by
          unfold f_X9_layLeast_80
          by_cases hu : (if 2 ≤ q then W else 1) ≤ u
          · rw [if_pos (nI_le hu (by omega))]
            have : nI q + (-1) = nI q - 1 := by rw [Int32.sub_eq_add_neg]
            rw [this]
            refine hs2 q _ _ (by omega) ⟨q, by omega, rfl, rfl, ?_, u4⟩
            intro p' h1 h2 s hsv
            by_cases e : p' = q
            · subst e
              exact u5 s hsv (by have := (V9.iff.mp hsv).1; omega)
            · exact u3 p' (by omega) h2 s hsv
          · rw [if_neg (nI_ge (by omega) (by omega))]
            refine wp_fix1 (fun n x w4 => ∃ v, v ≤ (if 1 ≤ q then W else 1) ∧ n = 16 - v ∧ x = nI v ∧ Lev W m (k9 w0 L g) (q + 1) w4 ∧ Fg c3 d3 w0 w4 ∧ ∀ s, V9 W q s → (s.1 < u ∨ (s.1 = u ∧ s.2 < v)) → Cel W (k9 w0 L g) q (m - q) s w4) (fun n x w4 self4 hI hs4 => ?_) FU 16 0 w3 (by have := FU_big; omega) ⟨0, by omega, by omega, rfl, u3, u4, fun s hv h => u5 s hv (by omega)⟩
            obtain ⟨v, v1, v2, rfl, v3, v4, v5⟩ := hI
            have l102 : wp (f_X9_layLeast_102 self2 self3 self4 (nI q) (nI u) (nI v) (nI (if 1 ≤ q then W else 1)) (nI v)) w4 Q := by
              unfold f_X9_layLeast_102
              by_cases hv : (if 1 ≤ q then W else 1) ≤ v
              · rw [if_pos (nI_le hv (by omega)), ad1]
                refine hs3 (16 - (u + 1)) _ _ (by omega) ⟨u + 1, by omega, rfl, rfl, v3, v4, fun s hsv h => ?_⟩
                refine v5 s hsv ?_
                have := (V9.iff.mp hsv).2
                omega
              · rw [if_neg (nI_ge (by omega) (by omega)), wp_bnd]
                have hV : V9 W q (u, v) := V9.iff.mpr ⟨by show u < _; omega, by show v < _; omega⟩
                refine wp_mono (wp_layState ht g9 (p := q) (s := (u, v)) (by omega) hV v4 (fun s' hs' => ?_)) (fun _ w5 h5 => ?_)
                · have := v3 (q + 1) (by omega) (by omega) s' hs'
                  rw [show m - 1 - q = m - (q + 1) by omega]
                  exact this
                · obtain ⟨c5, f5⟩ := h5
                  rw [ad1]
                  have hul := hV.lt hW0
                  refine hs4 (16 - (v + 1)) _ _ (by omega) ⟨v + 1, by omega, rfl, rfl, fun p' h1 h2 s hsv => ?_, v4.tr (f5.sub (fun q k h => by unfold cE at h; unfold c3; omega) (fun q k h => by unfold dE at h; unfold d3; omega)), fun s hsv h => ?_⟩
                  · have hsl := hsv.lt hW0
                    refine (v3 p' h1 h2 s hsv).to f5 (fun e => ?_)
                    have := (ix_inj (by omega) (by omega) (by omega) (by omega) e).1
                    omega
                  · by_cases e : s = (u, v)
                    · rw [e]; exact c5
                    · have hsl := hsv.lt hW0
                      refine (v5 s hsv ?_).to f5 (fun e2 => ?_)
                      · obtain ⟨a, b⟩ := s
                        have h : a < u ∨ (a = u ∧ b < v + 1) := h
                        show a < u ∨ (a = u ∧ b < v)
                        by_cases c1 : a = u
                        · by_cases c2 : b = v
                          · exact absurd (by rw [c1, c2]) e
                          · omega
                        · omega
                      · exact e (ix_inj (by omega) (by omega) (by omega) (by omega) e2).2
            unfold f_X9_layLeast_86
            by_cases q0 : 1 ≤ q
            · rw [if_neg (nle_l 0 (by omega) (by omega)), wp_a0 (by omega) (by omega), e163 _ v4]
              rw [if_pos q0] at l102
              exact l102
            · rw [if_pos (le_l 0 (by omega) (by omega))]
              rw [if_neg q0] at l102
              exact l102
        unfold f_X9_layLeast_64
        by_cases q1 : 2 ≤ q
        · rw [if_neg (nle_l 1 (by omega) (by omega)), wp_a0 (by omega) (by omega), e163 _ u4]
          rw [if_pos q1] at l80
          exact l80
        · rw [if_pos (le_l 1 (by omega) (by omega))]
          rw [if_neg q1] at l80
          exact l80
    exact outer m (by omega) w' base k3
end LEAST2
