/-! THE BEGINNING: what the two constructors leave -/
def pre0 : M Unit := al 0 1 (bnd fc_X8_init_0 (fun _ => al 161 1 fc_X9_init_161))
def okB (w : Wd) : Bool := allB w && (decide (gr w 0 1 = 5) && (decide (gr w 0 2 = 13) && (decide (gr w 73 0 = 5) && (decide (gi w 148 0 = 16) && (decide (gi w 1 1 = 0) && (decide (gi w 161 0 = 0) && (decide (gi w 4 0 = 0) && (decide (gi w 163 0 = 0) &&
  ((List.range 64).all (fun k => decide (gi w 8 k = nI k) && decide (gi w 165 k = nI k)) && ((List.range 5).all (fun k => decide (gi w 9 k = 1) && decide (gi w 166 k = 1)) && ((List.range 6).all (fun k => decide (gi w 28 k = 0) && decide (gi w 167 k = 0)) &&
  (decide (gi w 20 3 = 0) && (decide (gi w 169 0 = 0) && (decide (gi w 0 6 = 0) && (decide (gi w 161 12 = 0) && (decide (gi w 149 0 = 0) && (decide (gi w 161 13 = 0) && (decide (gi w 154 0 = 0) && decide (gi w 161 15 = 0)))))))))))))))))))
theorem okB_inv {w : Wd} (h : okB w = true) : allB w = true ∧ Inv w := by
  unfold okB at h
  simp only [Bool.and_eq_true, decide_eq_true_eq, List.all_eq_true, List.mem_range] at h
  obtain ⟨h0, h1, h2, h3, h4, h5, h6, h7, h8, h9, h10, h11, h12, h13, h14, h15, h16, h17, h18, h19⟩ := h
  refine ⟨h0, 4, 0, ⟨Or.inl rfl, h1, h2, Or.inl h3, h4⟩, ⟨0, by omega, h5, h6, fun k hk => absurd hk (Nat.not_lt_zero _)⟩, ⟨by omega, h7, h8, fun i hi => absurd hi (Nat.not_lt_zero _), fun k hk => ?_, fun k hk => ?_⟩, ⟨fun i hi => absurd hi (Nat.not_lt_zero _), fun i o hi => absurd hi (Nat.not_lt_zero _)⟩, fun v hv => ?_, ⟨0, by omega, h12, h13, fun h => absurd rfl h⟩, ⟨0, by omega, h14, h15, fun c h1 h2 => by omega⟩, ⟨0, by omega, h16, h17, fun i hi => absurd hi (Nat.not_lt_zero _)⟩, ⟨0, by omega, h18, h19, fun i hi => absurd hi (Nat.not_lt_zero _)⟩⟩
  · obtain ⟨a, b⟩ := h9 k hk
    exact ⟨a.trans b.symm, k, hk, b⟩
  · obtain ⟨a, b⟩ := h10 k hk
    exact ⟨a.trans b.symm, 1, by omega, b⟩
  · obtain ⟨a, b⟩ := h11 v hv
    refine ⟨0, by omega, a, ?_, fun p hp => absurd hp (Nat.not_lt_zero _)⟩
    rw [show 6 * 0 + v = v by omega]
    exact b
set_option maxRecDepth 100000 in
theorem pre_ok : (match pre0 w00 with | some (_, w) => okB w | none => false) = true := by decide +kernel
theorem wp_al {R : Type} {n c : Nat} {K : M R} {w : Wd} {Q : R → Wd → Prop} : wp (al n c K) w Q ↔ gn w = n ∧ wp K (aw w c) Q := by
  unfold wp al
  by_cases h : gn w = n
  · simp only [h, if_true, true_and]
  · simp [h]
theorem law_of (H : AllPairs) : ∀ (xs : Nat → Int32) (L : Nat), L ≤ 2560 → ∃ w', f_law xs L w00 = some (1, w') := by
  intro xs L hL
  have hp : wp pre0 w00 (fun _ w => allB w = true ∧ Inv w) := by
    have h := pre_ok
    cases e : pre0 w00 with
    | none => rw [e] at h; cases h
    | some p =>
      obtain ⟨u, w⟩ := p
      rw [e] at h
      exact ⟨u, w, e, okB_inv h⟩
  have key : wp (f_law xs L) w00 (fun r _ => r = 1) := by
    unfold f_law
    unfold pre0 at hp
    rw [wp_al, wp_bnd] at hp ⊢
    refine ⟨hp.1, wp_mono hp.2 (fun _ w1 h1 => ?_)⟩
    rw [wp_al] at h1 ⊢
    refine ⟨h1.1, ?_⟩
    rw [wp_bnd]
    refine wp_mono h1.2 (fun _ w2 h2 => ?_)
    obtain ⟨r, w', a, b⟩ := law_loop (xs := xs) H hL h2.2
    refine ⟨r, w', ?_, b⟩
    unfold gwA
    rw [if_pos h2.1]
    exact a
  obtain ⟨r, w', h1, rfl⟩ := key
  exact ⟨w', h1⟩
