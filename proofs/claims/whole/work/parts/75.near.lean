/-! the reference: the least of every state -/
/-- all but the cells C (numbers) and D (long numbers) is as before -/
def Fg (C D : Nat → Nat → Prop) (w w' : Wd) : Prop := gr w' = gr w ∧ (∀ q k, ¬ C q k → gi w' q k = gi w q k) ∧ ∀ q k, ¬ D q k → gl w' q k = gl w q k
section FG
variable {C D : Nat → Nat → Prop} {w w1 w2 : Wd}
theorem Fg.rf : Fg C D w w := ⟨rfl, fun _ _ _ => rfl, fun _ _ _ => rfl⟩
theorem Fg.tr (h : Fg C D w w1) (h2 : Fg C D w1 w2) : Fg C D w w2 := ⟨h2.1.trans h.1, fun q k hc => (h2.2.1 q k hc).trans (h.2.1 q k hc), fun q k hc => (h2.2.2 q k hc).trans (h.2.2 q k hc)⟩
theorem Fg.si {a b : Nat} {v : Int32} (h : Fg C D w w1) (hc : C a b) : Fg C D w (si w1 a b v) := ⟨h.1, fun q k hq => by rw [gi_si_n (by by_cases e : q = a ∧ k = b; (· exact absurd (by rw [e.1, e.2]; exact hc) hq); (· omega))]; exact h.2.1 q k hq, fun q k hq => h.2.2 q k hq⟩
theorem Fg.sl {a b : Nat} {v : Int64} (h : Fg C D w w1) (hc : D a b) : Fg C D w (sl w1 a b v) := ⟨h.1, fun q k hq => h.2.1 q k hq, fun q k hq => by rw [gl_sl_n (by by_cases e : q = a ∧ k = b; (· exact absurd (by rw [e.1, e.2]; exact hc) hq); (· omega))]; exact h.2.2 q k hq⟩
theorem Fg.sub {C' D' : Nat → Nat → Prop} (h : Fg C D w w1) (hs : ∀ q k, C q k → C' q k) (hd : ∀ q k, D q k → D' q k) : Fg C' D' w w1 := ⟨h.1, fun q k hq => h.2.1 q k (fun hc => hq (hs q k hc)), fun q k hq => h.2.2 q k (fun hc => hq (hd q k hc))⟩
theorem Fr.fg (h : Fr C w w1) : Fg C D w w1 := ⟨h.1, h.2.2, fun q k _ => by rw [h.2.1]⟩
end FG
def nearOk (L : List (Nat × Bool)) : Bool := (List.range L.length).all (fun i => decide (lst L i ≤ own L i + 2) && (match bf L i with | none => true | some q => decide (lst L i ≤ q + 2)) && (match af L i with | none => true | some q => decide (lst L i ≤ q + 2)))
theorem near_all : ∀ S, S < 32 → ∀ m, m < 9 → nearOk (LW S m) = true := by decide +kernel
theorem look_le {L : List (Nat × Bool)} {i q : Nat} (h : look L i q) : q ≤ lst L i := by
  unfold lst
  rcases h with h | h | h
  · omega
  · rw [h]; show q ≤ max _ (max q _); omega
  · rw [h]; show q ≤ max _ (max _ q); omega
theorem look_near {L : List (Nat × Bool)} (hn : nearOk L = true) {i q : Nat} (hi : i < L.length) (h : look L i q) : lst L i ≤ q + 2 := by
  unfold nearOk at hn
  rw [List.all_eq_true] at hn
  have := hn i (List.mem_range.mpr hi)
  rw [Bool.and_eq_true, Bool.and_eq_true] at this
  obtain ⟨⟨h1, h2⟩, h3⟩ := this
  rcases h with h | h | h
  · rw [h]; simpa using h1
  · rw [h] at h2; simpa using h2
  · rw [h] at h3; simpa using h3
