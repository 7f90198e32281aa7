/-! THE PURE PART: what programs over the world answer -/
def wp {R : Type} (m : M R) (w : Wd) (Q : R → Wd → Prop) : Prop := ∃ r w', m w = some (r, w') ∧ Q r w'
section WP
variable {R A B C D E F' : Type} {w : Wd} {Q Q' : R → Wd → Prop} {q k n i0 : Nat} {i : Int32} {v : Int32} {u : Int64}
theorem wp_rI {K : Int32 → M R} : wp (rI q k K) w Q ↔ wp (K (gi w q k)) w Q := Iff.rfl
theorem wp_rL {K : Int64 → M R} : wp (rL q k K) w Q ↔ wp (K (gl w q k)) w Q := Iff.rfl
theorem wp_wI {K : M R} : wp (wI q k v K) w Q ↔ wp K (si w q k v) Q := Iff.rfl
theorem wp_wL {K : M R} : wp (wL q k u K) w Q ↔ wp K (sl w q k u) Q := Iff.rfl
theorem wp_wR {K : M R} {t : Nat} : wp (wR q k t K) w Q ↔ wp K (sr w q k (t + 1)) Q := Iff.rfl
theorem wp_nm {e : A} {K : A → M R} : wp (nm e K) w Q ↔ wp (K e) w Q := Iff.rfl
theorem wp_cp {K : M R} {a p b o n : Nat} : wp (cp a p b o n K) w Q ↔ wp K (cpi w a p b o n) Q := Iff.rfl
theorem wp_rt {r : R} : wp (rt r) w Q ↔ Q r w := ⟨fun ⟨_, _, h1, h2⟩ => by cases h1; exact h2, fun h => ⟨_, _, rfl, h⟩⟩
theorem wp_gd {P : Prop} [Decidable P] {K : M R} : wp (gd P K) w Q ↔ P ∧ wp K w Q := by
  unfold wp gd
  by_cases h : P
  · simp [h]
  · simp [h]
theorem wp_bnd {f : M A} {K : A → M R} : wp (bnd f K) w Q ↔ wp f w (fun a w' => wp (K a) w' Q) := by
  constructor
  · rintro ⟨r, w', h1, h2⟩
    obtain ⟨a, w1, h3, h4⟩ := bnd_some h1
    exact ⟨a, w1, h3, r, w', h4, h2⟩
  · rintro ⟨a, w1, h3, r, w', h4, h2⟩
    refine ⟨r, w', ?_, h2⟩
    unfold bnd
    rw [h3]
    exact h4
theorem wp_ite {P : Prop} [Decidable P] {a b : M R} : wp (if P then a else b) w Q ↔ if P then wp a w Q else wp b w Q := by
  by_cases h : P <;> simp [h]
theorem wp_aI {K : Int32 → M R} : wp (aI q n i K) w Q ↔ inb i n ∧ wp (K (gi w q i.toNatClampNeg)) w Q := wp_gd
theorem wp_aL {K : Int64 → M R} : wp (aL q n i K) w Q ↔ inb i n ∧ wp (K (gl w q i.toNatClampNeg)) w Q := wp_gd
theorem wp_sI {K : M R} : wp (sI q n i v K) w Q ↔ inb i n ∧ wp K (si w q i.toNatClampNeg v) Q := wp_gd
theorem wp_sL {K : M R} : wp (sL q n i u K) w Q ↔ inb i n ∧ wp K (sl w q i.toNatClampNeg u) Q := wp_gd
theorem wp_rT {K : Nat → M R} : wp (rT q k K) w Q ↔ (gr w q k = 5 ∨ gr w q k = 13) ∧ wp (K (gr w q k - 1)) w Q := by
  unfold wp rT
  by_cases h : gr w q k = 5 ∨ gr w q k = 13
  · simp [h]
  · simp [h]
theorem wp_mono {m : M R} (h : wp m w Q) (hQ : ∀ r w', Q r w' → Q' r w') : wp m w Q' := by
  obtain ⟨r, w', h1, h2⟩ := h
  exact ⟨r, w', h1, hQ r w' h2⟩
theorem wp_of {m : M R} {r : R} {w' : Wd} (h : m w = some (r, w')) : wp m w Q ↔ Q r w' := by
  unfold wp
  rw [h]
  constructor
  · rintro ⟨a, b, h1, h2⟩
    cases h1
    exact h2
  · intro hQ
    exact ⟨_, _, rfl, hQ⟩
theorem FU_big : 100000 < FU := by decide
theorem wp_fix0 {F : M R → M R} (I : Nat → Wd → Prop) (hs : ∀ n w (self : M R), I n w → (∀ m w', m < n → I m w' → wp self w' Q) → wp (F self) w Q) : ∀ fu n w, n < fu → I n w → wp (fix0 fu F) w Q
  | 0, n, w, h, _ => absurd h (Nat.not_lt_zero _)
  | fu + 1, n, w, h, hI => hs n w _ hI (fun m w' hm hI' => wp_fix0 I hs fu m w' (by omega) hI')
theorem wp_fix1 {F : (A → M R) → A → M R} (I : Nat → A → Wd → Prop) (hs : ∀ n a w (self : A → M R), I n a w → (∀ m a' w', m < n → I m a' w' → wp (self a') w' Q) → wp (F self a) w Q) : ∀ fu n a w, n < fu → I n a w → wp (fix1 fu F a) w Q
  | 0, n, a, w, h, _ => absurd h (Nat.not_lt_zero _)
  | fu + 1, n, a, w, h, hI => hs n a w _ hI (fun m a' w' hm hI' => wp_fix1 I hs fu m a' w' (by omega) hI')
theorem wp_fix2 {F : (A → B → M R) → A → B → M R} (I : Nat → A → B → Wd → Prop) (hs : ∀ n a b w (self : A → B → M R), I n a b w → (∀ m a' b' w', m < n → I m a' b' w' → wp (self a' b') w' Q) → wp (F self a b) w Q) : ∀ fu n a b w, n < fu → I n a b w → wp (fix2 fu F a b) w Q
  | 0, n, a, b, w, h, _ => absurd h (Nat.not_lt_zero _)
  | fu + 1, n, a, b, w, h, hI => hs n a b w _ hI (fun m a' b' w' hm hI' => wp_fix2 I hs fu m a' b' w' (by omega) hI')
theorem wp_fix3 {F : (A → B → C → M R) → A → B → C → M R} (I : Nat → A → B → C → Wd → Prop) (hs : ∀ n a b c w (self : A → B → C → M R), I n a b c w → (∀ m a' b' c' w', m < n → I m a' b' c' w' → wp (self a' b' c') w' Q) → wp (F self a b c) w Q) : ∀ fu n a b c w, n < fu → I n a b c w → wp (fix3 fu F a b c) w Q
  | 0, n, a, b, c, w, h, _ => absurd h (Nat.not_lt_zero _)
  | fu + 1, n, a, b, c, w, h, hI => hs n a b c w _ hI (fun m a' b' c' w' hm hI' => wp_fix3 I hs fu m a' b' c' w' (by omega) hI')
theorem wp_fix4 {F : (A → B → C → D → M R) → A → B → C → D → M R} (I : Nat → A → B → C → D → Wd → Prop) (hs : ∀ n a b c d w (self : A → B → C → D → M R), I n a b c d w → (∀ m a' b' c' d' w', m < n → I m a' b' c' d' w' → wp (self a' b' c' d') w' Q) → wp (F self a b c d) w Q) : ∀ fu n a b c d w, n < fu → I n a b c d w → wp (fix4 fu F a b c d) w Q
  | 0, n, a, b, c, d, w, h, _ => absurd h (Nat.not_lt_zero _)
  | fu + 1, n, a, b, c, d, w, h, hI => hs n a b c d w _ hI (fun m a' b' c' d' w' hm hI' => wp_fix4 I hs fu m a' b' c' d' w' (by omega) hI')
end WP
-- reading what was written
theorem gi_si (w : Wd) (q k a b : Nat) (v : Int32) : gi (si w q k v) a b = if a = q ∧ b = k then v else gi w a b := rfl
theorem gi_si_s (w : Wd) (q k : Nat) (v : Int32) : gi (si w q k v) q k = v := by rw [gi_si]; simp
theorem gi_si_n {w : Wd} {q k a b : Nat} {v : Int32} (h : a ≠ q ∨ b ≠ k) : gi (si w q k v) a b = gi w a b := by rw [gi_si, if_neg (by omega)]
theorem gl_si (w : Wd) (q k a b : Nat) (v : Int32) : gl (si w q k v) a b = gl w a b := rfl
theorem gr_si (w : Wd) (q k a b : Nat) (v : Int32) : gr (si w q k v) a b = gr w a b := rfl
theorem gn_si (w : Wd) (q k : Nat) (v : Int32) : gn (si w q k v) = gn w := rfl
theorem gl_sl (w : Wd) (q k a b : Nat) (v : Int64) : gl (sl w q k v) a b = if a = q ∧ b = k then v else gl w a b := rfl
theorem gl_sl_s (w : Wd) (q k : Nat) (v : Int64) : gl (sl w q k v) q k = v := by rw [gl_sl]; simp
theorem gl_sl_n {w : Wd} {q k a b : Nat} {v : Int64} (h : a ≠ q ∨ b ≠ k) : gl (sl w q k v) a b = gl w a b := by rw [gl_sl, if_neg (by omega)]
theorem gi_sl (w : Wd) (q k a b : Nat) (v : Int64) : gi (sl w q k v) a b = gi w a b := rfl
theorem gr_sl (w : Wd) (q k a b : Nat) (v : Int64) : gr (sl w q k v) a b = gr w a b := rfl
theorem gi_sr (w : Wd) (q k v a b : Nat) : gi (sr w q k v) a b = gi w a b := rfl
theorem gl_sr (w : Wd) (q k v a b : Nat) : gl (sr w q k v) a b = gl w a b := rfl
theorem gr_sr (w : Wd) (q k v a b : Nat) : gr (sr w q k v) a b = if a = q ∧ b = k then v else gr w a b := rfl
theorem gi_cpi (w : Wd) (a p b o n x y : Nat) : gi (cpi w a p b o n) x y = if x = b ∧ o ≤ y ∧ y < o + n then gi w a (p + (y - o)) else gi w x y := rfl
theorem gr_cpi (w : Wd) (a p b o n x y : Nat) : gr (cpi w a p b o n) x y = gr w x y := rfl
theorem gl_cpi (w : Wd) (a p b o n x y : Nat) : gl (cpi w a p b o n) x y = gl w x y := rfl
-- numbers
theorem inb_nI {n N : Nat} (h : n < N) (hN : N < 2 ^ 31) : inb (nI n) N := nI_in h hN
theorem lit_nI (n : Nat) : (@OfNat.ofNat Int32 n Int32.instOfNat) = nI n := rfl
theorem cl_nI {n : Nat} (h : n < 2 ^ 31) : (nI n).toNatClampNeg = n := nI_clamp h
/-- of any number: below n, or told as out of range by every test -/
theorem ix_cases (x : Int32) (n : Nat) (hn : n < 2 ^ 31) : (∃ j, j < n ∧ x = nI j) ∨ (x < 0 ∨ nI n ≤ x) := by
  rcases pk_ix x hn with h | h | h
  · exact Or.inr (Or.inl h)
  · exact Or.inr (Or.inr h)
  · exact Or.inl h
theorem isBelow_in {w : Wd} {j n : Nat} (h : j < n) (hn : n < 2 ^ 31) : f_X8_isBelow (nI j) (nI n) w = some (1, w) := by
  unfold f_X8_isBelow
  rw [if_neg (nI_pos (by omega)), if_neg (nI_ge h hn)]
  rfl
theorem isBelow_out {w : Wd} {x : Int32} {n : Nat} (h : x < 0 ∨ nI n ≤ x) : f_X8_isBelow x (nI n) w = some (0, w) := by
  unfold f_X8_isBelow
  rcases h with h | h
  · rw [if_pos h]; rfl
  · by_cases h0 : x < 0
    · rw [if_pos h0]; rfl
    · rw [if_neg h0, if_pos h]; rfl
