/-! THE COURSE OF A SAYING: what both sides lay down -/
section CRS
def own (L : List (Nat × Bool)) (i : Nat) : Nat := (L[i]?.map (·.1)).getD 0
def beg (L : List (Nat × Bool)) (i : Nat) : Bool := (L[i]?.map (·.2)).getD true
def bf (L : List (Nat × Bool)) (i : Nat) : Option Nat := if i = 0 ∨ beg L i = true then none else some (own L (i - 1))
def af (L : List (Nat × Bool)) (i : Nat) : Option Nat := if beg L (i + 1) = true then none else some (own L (i + 1))
variable {L : List (Nat × Bool)} {x : Nat × Bool} {i : Nat}
theorem own_lt (h : i < L.length) : own (L ++ [x]) i = own L i := by
  unfold own
  rw [List.getElem?_append_left h]
theorem own_eq : own (L ++ [x]) L.length = x.1 := by
  unfold own
  rw [List.getElem?_append_right (Nat.le_refl _)]
  simp
theorem beg_lt (h : i < L.length) : beg (L ++ [x]) i = beg L i := by
  unfold beg
  rw [List.getElem?_append_left h]
theorem beg_eq : beg (L ++ [x]) L.length = x.2 := by
  unfold beg
  rw [List.getElem?_append_right (Nat.le_refl _)]
  simp
theorem beg_out (h : L.length ≤ i) : beg L i = true := by
  unfold beg
  rw [List.getElem?_eq_none h]
  rfl
theorem bf_lt (h : i < L.length) : bf (L ++ [x]) i = bf L i := by
  unfold bf
  rw [beg_lt h, own_lt (by omega)]
theorem bf_eq : bf (L ++ [x]) L.length = if L.length = 0 ∨ x.2 = true then none else some (own L (L.length - 1)) := by
  unfold bf
  rw [beg_eq]
  by_cases h : L.length = 0
  · rw [if_pos (Or.inl h), if_pos (Or.inl h)]
  · rw [own_lt (by omega)]
theorem af_lt (h : i + 1 < L.length) : af (L ++ [x]) i = af L i := by
  unfold af
  rw [beg_lt h, own_lt h]
theorem af_pre (h : i + 1 = L.length) : af (L ++ [x]) i = if x.2 = true then none else some x.1 := by
  unfold af
  rw [h, beg_eq, own_eq]
theorem af_end (h : i + 1 = L.length) : af L i = none := by
  unfold af
  rw [beg_out (by omega), if_pos rfl]
theorem af_eq : af (L ++ [x]) L.length = none := af_end (by simp)
theorem own_mem {b : Nat} (hb : ∀ x ∈ L, x.1 < b) (h : i < L.length) : own L i < b := by
  unfold own
  rw [List.getElem?_eq_getElem h]
  exact hb _ (List.getElem_mem h)
end CRS
def b2 (b : Bool) : Nat := if b then 1 else 0
def oI : Option Nat → Int32
  | none => -4
  | some n => nI n
def CLay (L : List (Nat × Bool)) (w : Wd) : Prop := gi w 50 0 = nI L.length ∧ ∀ i, i < L.length → gi w 51 i = nI (own L i) ∧ gi w 52 i = nI (b2 (beg L i))
def RLay (L : List (Nat × Bool)) (w : Wd) : Prop := gi w 161 19 = nI L.length ∧ ∀ i, i < L.length → gi w 177 i = nI (own L i) ∧ gi w 176 i = oI (bf L i) ∧ gi w 178 i = oI (af L i)
/-- all but the cells C is as before -/
def Fr (C : Nat → Nat → Prop) (w w' : Wd) : Prop := gr w' = gr w ∧ gl w' = gl w ∧ ∀ q k, ¬ C q k → gi w' q k = gi w q k
section FRM
variable {C : Nat → Nat → Prop} {w w1 w2 : Wd}
theorem Fr.rf : Fr C w w := ⟨rfl, rfl, fun _ _ _ => rfl⟩
theorem Fr.tr (h : Fr C w w1) (h2 : Fr C w1 w2) : Fr C w w2 := ⟨h2.1.trans h.1, h2.2.1.trans h.2.1, fun q k hc => (h2.2.2 q k hc).trans (h.2.2 q k hc)⟩
theorem Fr.si {a b : Nat} {v : Int32} (h : Fr C w w1) (hc : C a b) : Fr C w (si w1 a b v) := ⟨h.1, h.2.1, fun q k hq => by rw [gi_si_n (by by_cases e : q = a ∧ k = b; (· exact absurd (by rw [e.1, e.2]; exact hc) hq); (· omega))]; exact h.2.2 q k hq⟩
theorem Fr.sub {C' : Nat → Nat → Prop} (h : Fr C w w1) (hs : ∀ q k, C q k → C' q k) : Fr C' w w1 := ⟨h.1, h.2.1, fun q k hq => h.2.2 q k (fun hc => hq (hs q k hc))⟩
end FRM
def c8 (q _k : Nat) : Prop := 50 ≤ q ∧ q ≤ 52
def c9 (q k : Nat) : Prop := (q = 161 ∧ (k = 19 ∨ k = 23)) ∨ (176 ≤ q ∧ q ≤ 181)
section LAY8
variable {w : Wd}
def stN' (z i : Nat) : Nat := (stG z i).toNatClampNeg
def gl8 (s z k : Nat) : List (Nat × Bool) := (List.range k).map (fun i => (s + stN' z i, decide (i = 0)))
theorem gl8_succ (s z k : Nat) : gl8 s z (k + 1) = gl8 s z k ++ [(s + stN' z k, decide (k = 0))] := by
  unfold gl8
  rw [List.range_succ, List.map_append]
  rfl
theorem gl8_len (s z k : Nat) : (gl8 s z k).length = k := by
  unfold gl8
  rw [List.length_map, List.length_range]
theorem stN_ok : ∀ z, z < 3 → ∀ i, i < stL z → stG z i = nI (stN' z i) ∧ stN' z i < 8 := by decide +kernel
theorem stL_13 : ∀ z, z < 3 → stL z ≤ 13 := by decide +kernel
theorem CLay.add {L : List (Nat × Bool)} (h : CLay L w) (hl : L.length < 84) {p : Nat} {b : Bool} : CLay (L ++ [(p, b)]) (si (si (si w 51 L.length (nI p)) 52 L.length (nI (b2 b))) 50 0 (nI (L.length + 1))) := by
  refine ⟨?_, fun i hi => ?_⟩
  · rw [gi_si_s, List.length_append]; rfl
  · rw [List.length_append] at hi
    have hi : i < L.length + 1 := hi
    by_cases e : i = L.length
    · subst e
      rw [own_eq, beg_eq, gi_si_n (by omega), gi_si_n (by omega), gi_si_s, gi_si_n (by omega), gi_si_s]
      exact ⟨rfl, rfl⟩
    · rw [own_lt (by omega), beg_lt (by omega), gi_si_n (by omega), gi_si_n (by omega), gi_si_n (by omega), gi_si_n (by omega), gi_si_n (by omega), gi_si_n (by omega)]
      exact h.2 i (by omega)
theorem wp_group {L : List (Nat × Bool)} {s z k : Nat} (h : CLay L w) (hz : z < 3) (hk : k ≤ stL z) (hl : L.length + k ≤ 84) (hs8 : s < 8) : wp (f_X1_group (nI s) (1000 + z) (nI k)) w (fun _ w' => CLay (L ++ gl8 s z k) w' ∧ Fr c8 w w') := by
  unfold f_X1_group
  refine wp_fix1 (fun m x w' => ∃ i, i ≤ k ∧ m = k - i ∧ x = nI i ∧ CLay (L ++ gl8 s z i) w' ∧ Fr c8 w w') (fun m x w' self hI hs => ?_) FU k 0 w (by have := FU_big; omega) ⟨0, by omega, by omega, rfl, by show CLay (L ++ []) w; rw [List.append_nil]; exact h, Fr.rf⟩
  obtain ⟨i, i1, i2, rfl, i3, i4⟩ := hI
  have hlen : (L ++ gl8 s z i).length = L.length + i := by rw [List.length_append, gl8_len]
  unfold f_X1_group_3 f_X1_group_68 f_X1_group_51
  by_cases hi : k ≤ i
  · rw [if_pos (nI_le hi (by omega)), wp_rt, show k = i by omega]
    exact ⟨i3, i4⟩
  · obtain ⟨e1, e2⟩ := stN_ok z hz i (by omega)
    have c0 : gi w' 50 0 = nI (L ++ gl8 s z i).length := i3.1
    have hlt : (L ++ gl8 s z i).length < 84 := by omega
    rw [if_neg (nI_ge (by omega) (by omega)), wp_rI, c0, if_neg (nge_l 84 hlt (by omega)), wp_rI, c0, show 1000 + z - 1000 = z by omega, wp_gd]
    refine ⟨inb_nI (by omega) (by have := stL_13 z hz; omega), ?_⟩
    have key : ∀ b, b = decide (i = 0) → wp (sI 52 84 (nI (L ++ gl8 s z i).length) (vp_nar .boolean (nI (b2 b))) (rI 50 0 (fun v1 => wI 50 0 (v1 + 1) (self (nI i + 1))))) (si w' 51 (L ++ gl8 s z i).length (nI s + nI (stN' z i))) (fun _ w'' => CLay (L ++ gl8 s z k) w'' ∧ Fr c8 w w'') := by
      intro b hb
      have nar : vp_nar .boolean (nI (b2 b)) = nI (b2 b) := by cases b; (· exact narZ0); (· exact narZ1)
      rw [wp_sIn hlt (by omega), nar, wp_rI, gi_si_n (by omega), gi_si_n (by omega), c0, wp_wI, ad1, ad1, nI_add]
      refine hs (k - (i + 1)) _ _ (by omega) ⟨i + 1, by omega, rfl, rfl, ?_, ((i4.si ?_).si ?_).si ?_⟩
      · rw [gl8_succ, ← List.append_assoc, ← hb]
        exact i3.add hlt
      · unfold c8; omega
      · unfold c8; omega
      · unfold c8; omega
    rw [cl_nI (by omega), e1, wp_sIn hlt (by omega), wp_rI, gi_si_n (by omega), c0]
    by_cases i0 : i = 0
    · rw [if_pos (eq_l 0 i0)]
      exact key true (by simp [i0])
    · rw [if_neg (ne_l 0 i0 (by omega) (by omega))]
      exact key false (by simp [i0])
theorem stL_ok : stL 0 = 8 ∧ stL 1 = 6 ∧ stL 2 = 13 := by decide +kernel
theorem wp_groups {L : List (Nat × Bool)} {z k n : Nat} (h : CLay L w) (hz : z < 3) (hk : k ≤ stL z) (hl : L.length + k * n ≤ 84) (hn : n ≤ 8) : wp (f_X1_groups (nI n) (1000 + z) (nI k)) w (fun _ w' => CLay (L ++ (List.range n).flatMap (fun s => gl8 s z k)) w' ∧ Fr c8 w w') := by
  have hk13 : k ≤ 13 := by
    have := stL_ok
    rcases (by omega : z = 0 ∨ z = 1 ∨ z = 2) with rfl | rfl | rfl <;> omega
  have flen : ∀ i, ((List.range i).flatMap (fun s => gl8 s z k)).length = k * i := by
    intro i
    induction i with
    | zero => rfl
    | succ i ih => rw [List.range_succ, List.flatMap_append, List.length_append, ih, Nat.mul_succ]; simp [gl8_len]
  unfold f_X1_groups
  refine wp_fix1 (fun m x w' => ∃ i, i ≤ n ∧ m = n - i ∧ x = nI i ∧ CLay (L ++ (List.range i).flatMap (fun s => gl8 s z k)) w' ∧ Fr c8 w w') (fun m x w' self hI hs => ?_) FU n 0 w (by have := FU_big; omega) ⟨0, by omega, by omega, rfl, by show CLay (L ++ []) w; rw [List.append_nil]; exact h, Fr.rf⟩
  obtain ⟨i, i1, i2, rfl, i3, i4⟩ := hI
  unfold f_X1_groups_3
  by_cases hi : n ≤ i
  · rw [if_pos (nI_le hi (by omega)), wp_rt, show n = i by omega]
    exact ⟨i3, i4⟩
  · have hm : k * (i + 1) ≤ k * n := Nat.mul_le_mul_left _ (by omega)
    rw [Nat.mul_succ] at hm
    rw [if_neg (nI_ge (by omega) (by omega)), wp_bnd]
    refine wp_mono (wp_group i3 hz hk (by rw [List.length_append, flen]; omega) (by omega)) (fun _ w1 hh => ?_)
    rw [ad1]
    refine hs (n - (i + 1)) _ _ (by omega) ⟨i + 1, by omega, rfl, rfl, ?_, i4.tr hh.2⟩
    rw [List.range_succ, List.flatMap_append]
    have := hh.1
    rw [List.append_assoc] at this
    simpa using this
theorem CL_cls : ∀ y, y < 5 → ∀ m, m < 9 → 0 < m → CL y m = if m = 1 ∨ y = 0 then gl8 0 0 m else if y = 1 then (List.range m).flatMap (fun s => gl8 s 0 1) else if y = 2 then (List.range (m - 1)).flatMap (fun s => gl8 s 0 2) else if y = 3 then (List.range (m - 1)).flatMap (fun s => gl8 s 1 6) else (List.range (m - 2)).flatMap (fun s => gl8 s 2 13) ++ gl8 (m - 2) 1 6 := by decide +kernel
theorem CL_lt : ∀ y, y < 5 → ∀ m, m < 9 → 0 < m → ∀ x ∈ CL y m, x.1 < m := by decide +kernel
theorem wp_follow {y m : Nat} (hy : y < 5) (hm : m < 9) (h0 : 0 < m) : wp (f_X1_follow (nI y) (nI m)) w (fun _ w' => CLay (CL y m) w' ∧ Fr c8 w w') := by
  have e := CL_cls y hy m hm h0
  have st := stL_ok
  unfold f_X1_follow f_X1_follow_14 f_X1_follow_112
  rw [wp_wI]
  have hc : CLay [] (si w 50 0 0) := ⟨by rw [gi_si_s]; rfl, fun i hi => absurd hi (Nat.not_lt_zero _)⟩
  have hf : Fr c8 w (si w 50 0 0) := Fr.rf.si (by unfold c8; omega)
  have one : m = 1 ∨ y = 0 → wp (bnd (f_X1_group 0 1000 (nI m)) (fun _ => rt ())) (si w 50 0 0) (fun _ w' => CLay (CL y m) w' ∧ Fr c8 w w') := by
    intro h1
    rw [if_pos h1] at e
    rw [wp_bnd]
    refine wp_mono (wp_group (s := 0) (z := 0) (k := m) hc (by omega) (by omega) (by show 0 + m ≤ 84; omega) (by omega)) (fun _ w1 h => ?_)
    rw [wp_rt, e]
    exact ⟨h.1, hf.tr h.2⟩
  by_cases m1 : m = 1
  · rw [if_pos (eq_l 1 m1)]
    exact one (Or.inl m1)
  · rw [if_neg (ne_l 1 m1 (by omega) (by omega))]
    by_cases y0 : y = 0
    · rw [if_pos (eq_l 0 y0)]
      exact one (Or.inr y0)
    · rw [if_neg (ne_l 0 y0 (by omega) (by omega))]
      rw [if_neg (by omega)] at e
      have gs : ∀ (n z k : Nat), z < 3 → k ≤ stL z → k * n ≤ 84 → n ≤ 8 → (CL y m = (List.range n).flatMap (fun s => gl8 s z k)) → wp (bnd (f_X1_groups (nI n) (1000 + z) (nI k)) (fun _ => rt ())) (si w 50 0 0) (fun _ w' => CLay (CL y m) w' ∧ Fr c8 w w') := by
        intro n z k hz hk hl hn he
        rw [wp_bnd]
        refine wp_mono (wp_groups (n := n) hc hz hk (by show 0 + k * n ≤ 84; omega) hn) (fun _ w1 h => ?_)
        rw [wp_rt, he]
        exact ⟨h.1, hf.tr h.2⟩
      have s1 : nI m - 1 = nI (m - 1) := pk_sub (b := 1) (by omega)
      have s2 : nI m - 2 = nI (m - 2) := pk_sub (b := 2) (by omega)
      by_cases y1 : y = 1
      · rw [if_pos (eq_l 1 y1)]
        rw [if_pos y1] at e
        exact gs m 0 1 (by omega) (by omega) (by omega) (by omega) e
      · rw [if_neg (ne_l 1 y1 (by omega) (by omega))]
        rw [if_neg y1] at e
        by_cases y2 : y = 2
        · rw [if_pos (eq_l 2 y2), s1]
          rw [if_pos y2] at e
          exact gs (m - 1) 0 2 (by omega) (by omega) (by omega) (by omega) e
        · rw [if_neg (ne_l 2 y2 (by omega) (by omega))]
          rw [if_neg y2] at e
          by_cases y3 : y = 3
          · rw [if_pos (eq_l 3 y3), s1]
            rw [if_pos y3] at e
            exact gs (m - 1) 1 6 (by omega) (by omega) (by omega) (by omega) e
          · rw [if_neg (ne_l 3 y3 (by omega) (by omega)), s2, wp_bnd]
            rw [if_neg y3] at e
            have flen : ((List.range (m - 2)).flatMap (fun s => gl8 s 2 13)).length = 13 * (m - 2) := by
              have : ∀ i, ((List.range i).flatMap (fun s => gl8 s 2 13)).length = 13 * i := by
                intro i
                induction i with
                | zero => rfl
                | succ i ih => rw [List.range_succ, List.flatMap_append, List.length_append, ih, Nat.mul_succ]; simp [gl8_len]
              exact this _
            refine wp_mono (wp_groups (n := m - 2) (z := 2) (k := 13) hc (by omega) (by omega) (by show 0 + 13 * (m - 2) ≤ 84; omega) (by omega)) (fun _ w1 h => ?_)
            have hl := h.1
            rw [List.nil_append] at hl
            rw [wp_bnd]
            refine wp_mono (wp_group (s := m - 2) (z := 1) (k := 6) hl (by omega) (by omega) (by rw [flen]; omega) (by omega)) (fun _ w2 h2 => ?_)
            rw [wp_rt, e]
            exact ⟨h2.1, (hf.tr h.2).tr h2.2⟩
end LAY8
