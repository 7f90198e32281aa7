/-! SEARCH: least, how many, and the first, over all rows of words -/
section SEARCH
/-- all rows of k words -/
def rws (W : Nat) : Nat → List (List Nat)
  | 0 => [[]]
  | k + 1 => (List.range W).flatMap (fun x => (rws W k).map (x :: ·))
theorem mem_rws {W : Nat} : ∀ {k : Nat} {l : List Nat}, l ∈ rws W k ↔ l.length = k ∧ ∀ x ∈ l, x < W
  | 0, l => by
    show l ∈ [[]] ↔ _
    cases l <;> simp
  | k + 1, l => by
    show l ∈ (List.range W).flatMap (fun x => (rws W k).map (x :: ·)) ↔ _
    rw [List.mem_flatMap]
    constructor
    · rintro ⟨x, hx, hl⟩
      rw [List.mem_map] at hl
      obtain ⟨ys, hy, rfl⟩ := hl
      obtain ⟨h1, h2⟩ := mem_rws.mp hy
      refine ⟨by simp [h1], fun z hz => ?_⟩
      rcases List.mem_cons.mp hz with rfl | hz
      · exact List.mem_range.mp hx
      · exact h2 z hz
    · rintro ⟨h1, h2⟩
      cases l with
      | nil => simp at h1
      | cons x ys =>
        refine ⟨x, List.mem_range.mpr (h2 x (by simp)), List.mem_map.mpr ⟨ys, mem_rws.mpr ⟨by simpa using h1, fun z hz => h2 z (by simp [hz])⟩, rfl⟩⟩
theorem rws_ne {W k : Nat} (hW : 0 < W) : ∃ l, l ∈ rws W k := ⟨List.replicate k 0, mem_rws.mpr ⟨by simp, fun x hx => by rw [List.mem_replicate] at hx; omega⟩⟩
/-- least and how many, of a list; I and 0 of none -/
def MC (I : Nat) (l : List Nat) (v n : Nat) : Prop := (l = [] ∧ v = I ∧ n = 0) ∨ (v ∈ l ∧ (∀ u ∈ l, v ≤ u) ∧ n = l.count v)
theorem MC.uniq {I : Nat} {l : List Nat} {v n v' n' : Nat} (h : MC I l v n) (h' : MC I l v' n') : v = v' ∧ n = n' := by
  rcases h with ⟨rfl, rfl, rfl⟩ | ⟨h1, h2, h3⟩
  · rcases h' with ⟨-, rfl, rfl⟩ | ⟨h1, -⟩
    · exact ⟨rfl, rfl⟩
    · cases h1
  · rcases h' with ⟨rfl, -⟩ | ⟨g1, g2, g3⟩
    · cases h1
    · have := h2 v' g1
      have := g2 v h1
      have e : v = v' := by omega
      subst e
      exact ⟨rfl, by rw [h3, g3]⟩
theorem MC.shift {I c : Nat} {l : List Nat} {v n : Nat} (h : MC I l v n) (hl : l ≠ []) : MC I (l.map (c + ·)) (c + v) n := by
  rcases h with ⟨h, -⟩ | ⟨h1, h2, h3⟩
  · exact absurd h hl
  · refine Or.inr ⟨List.mem_map.mpr ⟨v, h1, rfl⟩, fun u hu => ?_, ?_⟩
    · obtain ⟨z, hz, rfl⟩ := List.mem_map.mp hu
      have := h2 z hz
      omega
    · rw [h3]
      clear h1 h2 h3 hl
      induction l with
      | nil => rfl
      | cons a l ih =>
        rw [List.map_cons, List.count_cons, List.count_cons, ih]
        congr 1
        by_cases e : a = v
        · subst e; simp
        · simp [e]
/-- joining two -/
theorem MC.join {I : Nat} {l1 l2 : List Nat} {v n v' n' : Nat} (h : MC I l1 v n) (h' : MC I l2 v' n') (hne : l2 ≠ []) (hI : ∀ u ∈ l2, u < I) : MC I (l1 ++ l2) (if v' < v then v' else v) (if v' < v then n' else if v' = v then n + n' else n) := by
  rcases h' with ⟨h', -⟩ | ⟨g1, g2, g3⟩
  · exact absurd h' hne
  · rcases h with ⟨rfl, rfl, rfl⟩ | ⟨h1, h2, h3⟩
    · rw [if_pos (hI _ g1), if_pos (hI _ g1), List.nil_append]
      exact Or.inr ⟨g1, g2, g3⟩
    · right
      by_cases c1 : v' < v
      · rw [if_pos c1, if_pos c1]
        refine ⟨List.mem_append.mpr (Or.inr g1), fun u hu => ?_, ?_⟩
        · rcases List.mem_append.mp hu with q | q
          · have := h2 u q; omega
          · exact g2 u q
        · rw [List.count_append, ← g3, List.count_eq_zero.mpr (fun q => by have := h2 v' q; omega)]
          omega
      · rw [if_neg c1, if_neg c1]
        by_cases c2 : v' = v
        · subst c2
          rw [if_pos rfl]
          refine ⟨List.mem_append.mpr (Or.inl h1), fun u hu => ?_, ?_⟩
          · rcases List.mem_append.mp hu with q | q
            · exact h2 u q
            · exact g2 u q
          · rw [List.count_append, h3, g3]
        · rw [if_neg c2]
          refine ⟨List.mem_append.mpr (Or.inl h1), fun u hu => ?_, ?_⟩
          · rcases List.mem_append.mp hu with q | q
            · exact h2 u q
            · have := g2 u q; omega
          · rw [List.count_append, ← h3, List.count_eq_zero.mpr (fun q => by have := g2 v q; omega)]
            omega
variable {σ : Type}
/-- the cost of a path from a state -/
def PC (c : Nat → σ → Nat → Nat) (nx : Nat → σ → Nat → σ) : Nat → σ → List Nat → Nat
  | _, _, [] => 0
  | p, s, x :: xs => c p s x + PC c nx (p + 1) (nx p s x) xs
/-- the costs of all paths -/
def AC (W : Nat) (c : Nat → σ → Nat → Nat) (nx : Nat → σ → Nat → σ) (p k : Nat) (s : σ) : List Nat := (rws W k).map (PC c nx p s)
/-- the costs of all paths that begin with a word below j -/
def ACp (W : Nat) (c : Nat → σ → Nat → Nat) (nx : Nat → σ → Nat → σ) (p k : Nat) (s : σ) (j : Nat) : List Nat := (List.range j).flatMap (fun x => (AC W c nx (p + 1) k (nx p s x)).map (c p s x + ·))
theorem AC_succ {W : Nat} {c : Nat → σ → Nat → Nat} {nx : Nat → σ → Nat → σ} {p k : Nat} {s : σ} : AC W c nx p (k + 1) s = ACp W c nx p k s W := by
  unfold AC ACp AC
  show List.map _ ((List.range W).flatMap (fun x => (rws W k).map (x :: ·))) = _
  rw [List.map_flatMap]
  congr 1
  funext x
  rw [List.map_map, List.map_map]
  rfl
theorem ACp_succ {W : Nat} {c : Nat → σ → Nat → Nat} {nx : Nat → σ → Nat → σ} {p k : Nat} {s : σ} {j : Nat} : ACp W c nx p k s (j + 1) = ACp W c nx p k s j ++ (AC W c nx (p + 1) k (nx p s j)).map (c p s j + ·) := by
  unfold ACp
  rw [List.range_succ, List.flatMap_append]
  simp
theorem AC_ne {W : Nat} {c : Nat → σ → Nat → Nat} {nx : Nat → σ → Nat → σ} {p k : Nat} {s : σ} (hW : 0 < W) : AC W c nx p k s ≠ [] := by
  obtain ⟨l, hl⟩ := rws_ne (W := W) (k := k) hW
  intro e
  unfold AC at e
  rw [List.map_eq_nil_iff] at e
  rw [e] at hl
  cases hl
theorem AC_le {W : Nat} {c : Nat → σ → Nat → Nat} {nx : Nat → σ → Nat → σ} {b : Nat} (hc : ∀ p s x, c p s x ≤ b) : ∀ {k p : Nat} {s : σ}, ∀ u ∈ AC W c nx p k s, u ≤ b * k
  | 0, p, s, u, hu => by
    unfold AC at hu
    obtain ⟨l, hl, rfl⟩ := List.mem_map.mp hu
    have : l = [] := by simpa [rws] using hl
    subst this
    exact Nat.zero_le _
  | k + 1, p, s, u, hu => by
    rw [AC_succ] at hu
    unfold ACp at hu
    obtain ⟨x, -, hx⟩ := List.mem_flatMap.mp hu
    obtain ⟨z, hz, rfl⟩ := List.mem_map.mp hx
    have h1 := AC_le hc z hz
    have h2 := hc p s x
    rw [Nat.mul_succ]
    omega
/-- one more word is weighed -/
theorem MC.step {W I b : Nat} {c : Nat → σ → Nat → Nat} {nx : Nat → σ → Nat → σ} {p k : Nat} {s : σ} {j v n v' n' : Nat} (hW : 0 < W) (hc : ∀ p s x, c p s x ≤ b) (hI : b * (k + 1) < I) (h : MC I (ACp W c nx p k s j) v n) (h' : MC I (AC W c nx (p + 1) k (nx p s j)) v' n') : MC I (ACp W c nx p k s (j + 1)) (if c p s j + v' < v then c p s j + v' else v) (if c p s j + v' < v then n' else if c p s j + v' = v then n + n' else n) := by
  rw [ACp_succ]
  refine h.join (h'.shift (AC_ne hW)) (fun e => AC_ne hW (List.map_eq_nil_iff.mp e)) (fun u hu => ?_)
  obtain ⟨z, hz, rfl⟩ := List.mem_map.mp hu
  have h1 := AC_le hc z hz
  have h2 := hc p s j
  rw [Nat.mul_succ] at hI
  omega
/-- rows in their order -/
def lle : List Nat → List Nat → Prop
  | [], [] => True
  | x :: xs, y :: ys => x < y ∨ (x = y ∧ lle xs ys)
  | _, _ => False
theorem lle_anti : ∀ {a b : List Nat}, lle a b → lle b a → a = b
  | [], [], _, _ => rfl
  | [], _ :: _, h, _ => by cases h
  | _ :: _, [], h, _ => by cases h
  | x :: xs, y :: ys, h, h' => by
    have h1 : x < y ∨ (x = y ∧ lle xs ys) := h
    have h2 : y < x ∨ (y = x ∧ lle ys xs) := h'
    rcases h1 with h1 | ⟨rfl, h1⟩
    · omega
    · rcases h2 with h2 | ⟨-, h2⟩
      · omega
      · rw [lle_anti h1 h2]
/-- the first of the least -/
def FL (W k : Nat) (F : List Nat → Nat) (l : List Nat) : Prop := l ∈ rws W k ∧ (∀ y ∈ rws W k, F l ≤ F y) ∧ ∀ y ∈ rws W k, F y = F l → lle l y
theorem FL.uniq {W k : Nat} {F F' : List Nat → Nat} {l l' : List Nat} (e : ∀ y ∈ rws W k, F y = F' y) (h : FL W k F l) (h' : FL W k F' l') : l = l' := by
  obtain ⟨a1, a2, a3⟩ := h
  obtain ⟨b1, b2, b3⟩ := h'
  have e1 := e l a1
  have e2 := e l' b1
  have h1 := a2 l' b1
  have h2 := b2 l a1
  exact lle_anti (a3 l' b1 (by omega)) (b3 l a1 (by omega))
end SEARCH
