/-! the reference: the least of every state -/
section LEAST
variable {w : Wd} {t W : Nat}
/-- the words a, b, x at the places p - 2, p - 1, p -/
def rr (p a b x q : Nat) : Nat := if q = p then x else if q + 1 = p then b else a
/-- the reference's step: cost and next state -/
def k9 (w : Wd) (L : List (Nat × Bool)) (g : Nat → Nat) (p : Nat) (s : Nat × Nat) (x : Nat) : Nat := un w L g (rr p s.1 s.2 x) p
def n9 (p : Nat) (s : Nat × Nat) (x : Nat) : Nat × Nat := (if p = 0 then 0 else s.2, x)
/-- a state that there is at the place p -/
def V9 (W p : Nat) (s : Nat × Nat) : Prop := (if 2 ≤ p then s.1 < W else s.1 = 0) ∧ (if 1 ≤ p then s.2 < W else s.2 = 0)
theorem V9.nx {p x : Nat} {s : Nat × Nat} (h : V9 W p s) (hx : x < W) : V9 W (p + 1) (n9 p s x) := by
  obtain ⟨h1, h2⟩ := h
  unfold V9 n9
  by_cases p0 : p = 0
  · subst p0
    exact ⟨by rw [if_neg (by omega), if_pos rfl], by rw [if_pos (by omega)]; exact hx⟩
  · rw [if_pos (by omega)] at h2
    exact ⟨by rw [if_pos (by omega), if_neg p0]; exact h2, by rw [if_pos (by omega)]; exact hx⟩
theorem V9.lt {p : Nat} {s : Nat × Nat} (h : V9 W p s) (hW : 0 < W) : s.1 < W ∧ s.2 < W := by
  obtain ⟨h1, h2⟩ := h
  by_cases c1 : 2 ≤ p
  · rw [if_pos c1] at h1; rw [if_pos (by omega)] at h2; exact ⟨h1, h2⟩
  · rw [if_neg c1] at h1
    by_cases c2 : 1 ≤ p
    · rw [if_pos c2] at h2; omega
    · rw [if_neg c2] at h2; omega
def ix (p : Nat) (s : Nat × Nat) : Nat := 256 * p + 16 * s.1 + s.2
/-- a cell tells what it must -/
def Cel (W : Nat) (c : Nat → Nat × Nat → Nat → Nat) (p k : Nat) (s : Nat × Nat) (w : Wd) : Prop := ∃ v n z, v < 100001 ∧ gi w 183 (ix p s) = nI v ∧ gl w 184 (ix p s) = lN n ∧ gl w 185 (ix p s) = lN z ∧ MC 100000 (AC W c n9 p k s) v n ∧ z = (AC W c n9 p k s).count 0
theorem mu256 (a : Nat) : 256 * nI a = nI (256 * a) := pk_mul 256 a
theorem mu16 (a : Nat) : 16 * nI a = nI (16 * a) := pk_mul 16 a
theorem rd_at (a b c : Nat) : Rd (f_X9_at (nI a) (nI b) (nI c)) w (nI (256 * a + 16 * b + c)) := by
  unfold Rd f_X9_at
  rw [wp_rt, mu256, mu16, nI_add, nI_add]
  exact ⟨rfl, rfl⟩
theorem un_le (w : Wd) (L : List (Nat × Bool)) (g r : Nat → Nat) (p : Nat) : un w L g r p ≤ L.length := by
  have := sm_le (f := uo w L g r p) (b := 1) L.length (fun i hi => by unfold uo; split <;> omega)
  unfold un
  omega
theorem count_shift (c : Nat) (l : List Nat) : (l.map (c + ·)).count 0 = if c = 0 then l.count 0 else 0 := by
  by_cases h : c = 0
  · subst h
    rw [if_pos rfl]
    congr 1
    have : (fun x : Nat => 0 + x) = id := by funext x; simp
    rw [this, List.map_id]
  · rw [if_neg h]
    apply List.count_eq_zero.mpr
    intro q
    obtain ⟨z, -, hz⟩ := List.mem_map.mp q
    omega
def cE (p : Nat) (s : Nat × Nat) (q k : Nat) : Prop := q = 181 ∨ (q = 183 ∧ k = ix p s)
def dE (p : Nat) (s : Nat × Nat) (q k : Nat) : Prop := (q = 184 ∨ q = 185) ∧ k = ix p s
end LEAST
