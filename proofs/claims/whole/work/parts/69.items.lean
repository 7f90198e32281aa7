/-! THE TEXT: items -/
abbrev St : Type := Nat × (Nat → Nat) × (Nat → Nat) × (Nat → Nat)
def ud (f : Nat → Nat) (a v : Nat) (i : Nat) : Nat := if i = a then v else f i
abbrev ndup (s : St) (u : Nat → Nat) : Prop := ∀ i, i < s.1 → ¬ (s.2.1 (3 * i) = u 0 ∧ s.2.1 (3 * i + 1) = u 1 ∧ s.2.1 (3 * i + 2) = u 2)
def u00 : Nat → Nat := fun _ => 0
def itm (B : Nat → Nat) (p : Nat) (s : St) : Option (Nat × St) :=
  if B p = 104 then match fl B 2 0 (fun _ => 0) (p + 1) with
    | none => none
    | some (u, q) => if u 0 < 5 then some (q, (s.1, s.2.1, s.2.2.1, ud s.2.2.2 (u 0) (u 1))) else none
  else if B p = 106 then match fl B 4 0 (fun _ => 0) (p + 1) with
    | none => none
    | some (u, q) => if u 0 < 8 ∧ u 1 < 8 ∧ u 2 < 8 ∧ u 3 < 8 then some (q, (s.1, s.2.1, ud s.2.2.1 (8 * u 0 + u 1) (8 * u 2 + u 3), s.2.2.2)) else none
  else if B p = 119 then match fl B 3 0 (fun _ => 0) (p + 1) with
    | none => none
    | some (u, q) => if s.1 < 16 ∧ u 0 < 8 ∧ u 1 < 16 ∧ u 2 < 8 ∧ ndup s u then some (q, (s.1 + 1, ud (ud (ud s.2.1 (3 * s.1) (u 0)) (3 * s.1 + 1) (u 1)) (3 * s.1 + 2) (u 2), s.2.2.1, s.2.2.2)) else none
  else none
def SOk (s : St) : Prop := s.1 ≤ 16 ∧ (∀ i, i < s.1 → s.2.1 (3 * i) < 8 ∧ s.2.1 (3 * i + 1) < 16 ∧ s.2.1 (3 * i + 2) < 8) ∧ (∀ k, k < 64 → s.2.2.1 k < 64) ∧ ∀ k, k < 5 → s.2.2.2 k < 100
def D8 (d : Nat) (s : St) (w : Wd) : Prop := gi w d 0 = nI s.1 ∧ (∀ i, i < s.1 → gi w (d + 1) i = nI (s.2.1 (3 * i)) ∧ gi w (d + 2) i = nI (s.2.1 (3 * i + 1)) ∧ gi w (d + 3) i = nI (s.2.1 (3 * i + 2))) ∧ (∀ k, k < 64 → gi w (d + 4) k = nI (s.2.2.1 k)) ∧ ∀ k, k < 5 → gi w (d + 5) k = nI (s.2.2.2 k)
def D9 (s : St) (w : Wd) : Prop := gi w 163 1 = nI s.1 ∧ (∀ i, i < s.1 → gi w 164 (48 + 3 * i) = nI (s.2.1 (3 * i)) ∧ gi w 164 (48 + 3 * i + 1) = nI (s.2.1 (3 * i + 1)) ∧ gi w 164 (48 + 3 * i + 2) = nI (s.2.1 (3 * i + 2))) ∧ (∀ k, k < 64 → gi w 165 (64 + k) = nI (s.2.2.1 k)) ∧ ∀ k, k < 5 → gi w 166 (5 + k) = nI (s.2.2.2 k)
section ITEM8
variable {w : Wd} {d n : Nat} {B : Nat → Nat} {s : St}
def cI8 (d q k : Nat) : Prop := cP8 q k ∨ (d ≤ q ∧ q ≤ d + 5)
def cI9 (q k : Nat) : Prop := cP9 q k ∨ (q = 163 ∧ k = 1) ∨ (q = 164 ∧ 48 ≤ k) ∨ (q = 165 ∧ 64 ≤ k) ∨ (q = 166 ∧ 5 ≤ k)
theorem D8.to {w' : Wd} (h : D8 d s w) (e : ∀ q k, (d ≤ q ∧ q ≤ d + 5) → gi w' q k = gi w q k) : D8 d s w' := by
  obtain ⟨h1, h2, h3, h4⟩ := h
  refine ⟨?_, fun i hi => ?_, fun k hk => ?_, fun k hk => ?_⟩
  · rw [e _ _ (by omega)]; exact h1
  · rw [e _ _ (by omega), e _ _ (by omega), e _ _ (by omega)]; exact h2 i hi
  · rw [e _ _ (by omega)]; exact h3 k hk
  · rw [e _ _ (by omega)]; exact h4 k hk
/-- an item is taken: 1 and the new state; or refused: 0 -/
def Res8 (d n : Nat) (B : Nat → Nat) (p : Nat) (s : St) (w : Wd) (r : Int32) (w' : Wd) : Prop := Fr (cI8 d) w w' ∧ ((r = 0 ∧ itm B p s = none) ∨ (r = 1 ∧ ∃ q s', itm B p s = some (q, s') ∧ p < q ∧ q ≤ n ∧ gi w' 1 2 = nI q ∧ D8 d s' w' ∧ SOk s'))
theorem wp_item8 (hd : isT d) {p : Nat} (hT : Txt n B w) (hp : gi w 1 2 = nI p) (hpn : p < n) (hD : D8 d s w) (hO : SOk s) : wp (f_X4_readItem d) w (Res8 d n B p s w) := by
  obtain ⟨t1, t2, t3, t4, t5⟩ := id hT
  obtain ⟨b1, b2, b3⟩ := t4 p hpn
  have hd' : d = 4 ∨ d = 12 := hd
  unfold f_X4_readItem
  rw [wp_rI, hp, wp_aIn (by omega) (by omega), b3, wp_rI, hp, wp_wI, ad1]
  generalize hw1 : si w 1 2 (nI (p + 1)) = w1
  have f1 : Fr (cI8 d) w w1 := by rw [← hw1]; exact Fr.rf.si (Or.inl (Or.inl ⟨rfl, rfl⟩))
  have hp1 : gi w1 1 2 = nI (p + 1) := by rw [← hw1, gi_si_s]
  have hT1 : Txt n B w1 := hT.to (fun q k hc => f1.2.2 q k (by unfold cTxt at hc; unfold cI8 cP8; omega))
  have hD1 : D8 d s w1 := hD.to (fun q k hq => by rw [← hw1, gi_si_n (by omega)])
  have sub8 : ∀ {w2 w3 : Wd}, Fr cP8 w2 w3 → Fr (cI8 d) w2 w3 := fun h => h.sub (fun q k hq => Or.inl hq)
  have nd8 : ∀ {w3 : Wd}, Fr cP8 w1 w3 → D8 d s w3 := fun h => hD1.to (fun q k hq => h.2.2 q k (by unfold cP8; omega))
  obtain ⟨o1, o2, o3, o4⟩ := id hO
  by_cases c1 : B p = 104
  · have ei : itm B p s = match fl B 2 0 (fun _ => 0) (p + 1) with | none => none | some (u, q) => if u 0 < 5 then some (q, (s.1, s.2.1, s.2.2.1, ud s.2.2.2 (u 0) (u 1))) else none := by unfold itm; rw [if_pos c1]
    rw [if_pos (show sby (B p) = 104 from (sby_eq _ b1 104 (by omega)).mpr c1), wp_bnd]
    refine wp_mono (wp_nums8 (K := 2) hT1 hp1 (by omega) (by omega) (by omega)) (fun r w2 h => ?_)
    obtain ⟨f2, h⟩ := h
    unfold f_X4_readItem_129 f_X4_readItem_130
    have no : ∀ {w3 : Wd}, Fr (cI8 d) w w3 → itm B p s = none → wp (gd ((0 : Int32) = 0 ∨ (0 : Int32) = 1) (rt (0 : Int32))) w3 (Res8 d n B p s w) := fun f hn => wp_gd.mpr ⟨by decide, wp_rt.mpr ⟨f, Or.inl ⟨rfl, hn⟩⟩⟩
    rcases h with ⟨rfl, h⟩ | ⟨rfl, u, q, h, h1, h2, h3, h4⟩
    · rw [if_pos rfl]
      exact no (f1.tr (sub8 f2)) (by rw [ei, h])
    · obtain ⟨u0, v0⟩ := h4 0 (by omega)
      obtain ⟨u1, v1⟩ := h4 1 (by omega)
      unfold f_X6_learnHours
      rw [if_neg (by decide), wp_bnd, wp_a0 (by omega) (by omega), v0]
      have a1 : ∀ {R : Type} {K : Int32 → M R} {w : Wd} {Q : R → Wd → Prop}, wp (aI 3 4 1 K) w Q ↔ wp (K (gi w 3 1)) w Q := wp_aIn (n := 1) (by omega) (by omega)
      by_cases hc : u 0 < 5
      · rw [if_pos (lt_l 5 hc (by omega)), wp_a0 (by omega) (by omega), v0, a1, v1, wp_sIn (by omega) (by omega), wp_gd, wp_rt]
        refine ⟨by decide, ?_⟩
        rw [if_neg (by decide), wp_gd, wp_rt]
        refine ⟨by decide, (f1.tr (sub8 f2)).si (Or.inr ⟨by omega, by omega⟩), Or.inr ⟨rfl, q, _, by rw [ei, h]; show (if u 0 < 5 then _ else _) = _; rw [if_pos hc], by omega, h2, ?_, ?_, ?_⟩⟩
        · rw [gi_si_n (by omega)]; exact h3
        · obtain ⟨g1, g2, g3, g4⟩ := nd8 f2
          refine ⟨?_, fun i hi => ?_, fun k hk => ?_, fun k hk => ?_⟩
          · rw [gi_si_n (by omega)]; exact g1
          · rw [gi_si_n (by omega), gi_si_n (by omega), gi_si_n (by omega)]; exact g2 i hi
          · rw [gi_si_n (by omega)]; exact g3 k hk
          · show _ = nI (ud s.2.2.2 (u 0) (u 1) k)
            unfold ud
            by_cases e : k = u 0
            · rw [if_pos e, e, gi_si_s]
            · rw [if_neg e, gi_si_n (by omega)]; exact g4 k hk
        · refine ⟨o1, o2, o3, fun k hk => ?_⟩
          show ud s.2.2.2 (u 0) (u 1) k < 100
          unfold ud
          split
          · exact u1
          · exact o4 k hk
      · rw [if_neg (nlt_l 5 (by omega) (by omega)), wp_gd, wp_rt]
        refine ⟨by decide, ?_⟩
        rw [if_pos rfl]
        exact no (f1.tr (sub8 f2)) (by rw [ei, h]; show (if u 0 < 5 then _ else _) = _; rw [if_neg hc])
  rw [if_neg (show ¬ sby (B p) = 104 from fun e => c1 ((sby_eq _ b1 104 (by omega)).mp e))]
  by_cases c2 : B p = 106
  · have ei : itm B p s = match fl B 4 0 (fun _ => 0) (p + 1) with | none => none | some (u, q) => if u 0 < 8 ∧ u 1 < 8 ∧ u 2 < 8 ∧ u 3 < 8 then some (q, (s.1, s.2.1, ud s.2.2.1 (8 * u 0 + u 1) (8 * u 2 + u 3), s.2.2.2)) else none := by unfold itm; rw [if_neg c1, if_pos c2]
    rw [if_pos (show sby (B p) = 106 from (sby_eq _ b1 106 (by omega)).mpr c2), wp_bnd]
    refine wp_mono (wp_nums8 (K := 4) hT1 hp1 (by omega) (by omega) (by omega)) (fun r w2 h => ?_)
    obtain ⟨f2, h⟩ := h
    unfold f_X4_readItem_104 f_X4_readItem_105
    have no : ∀ {w3 : Wd}, Fr (cI8 d) w w3 → itm B p s = none → wp (gd ((0 : Int32) = 0 ∨ (0 : Int32) = 1) (rt (0 : Int32))) w3 (Res8 d n B p s w) := fun f hn => wp_gd.mpr ⟨by decide, wp_rt.mpr ⟨f, Or.inl ⟨rfl, hn⟩⟩⟩
    rcases h with ⟨rfl, h⟩ | ⟨rfl, u, q, h, h1, h2, h3, h4⟩
    · rw [if_pos rfl]
      exact no (f1.tr (sub8 f2)) (by rw [ei, h])
    · obtain ⟨u0, v0⟩ := h4 0 (by omega)
      obtain ⟨u1, v1⟩ := h4 1 (by omega)
      obtain ⟨u2, v2⟩ := h4 2 (by omega)
      obtain ⟨u3, v3⟩ := h4 3 (by omega)
      rw [if_neg (by decide), wp_bnd]
      unfold f_X6_learnJoining
      refine wp_fix1 (fun m x w' => ∃ j, j ≤ 4 ∧ m = 4 - j ∧ x = nI j ∧ (∀ i, i < j → u i < 8) ∧ w' = w2) (fun m x w' self hI hs => ?_) FU 4 0 w2 (by have := FU_big; omega) ⟨0, by omega, by omega, rfl, fun i hi => by omega, rfl⟩
      obtain ⟨j, j1, j2, rfl, j3, rfl⟩ := hI
      unfold f_X6_learnJoining_2
      have a1 : ∀ {R : Type} {K : Int32 → M R} {w : Wd} {Q : R → Wd → Prop}, wp (aI 3 4 1 K) w Q ↔ wp (K (gi w 3 1)) w Q := wp_aIn (n := 1) (by omega) (by omega)
      have a2 : ∀ {R : Type} {K : Int32 → M R} {w : Wd} {Q : R → Wd → Prop}, wp (aI 3 4 2 K) w Q ↔ wp (K (gi w 3 2)) w Q := wp_aIn (n := 2) (by omega) (by omega)
      have a3 : ∀ {R : Type} {K : Int32 → M R} {w : Wd} {Q : R → Wd → Prop}, wp (aI 3 4 3 K) w Q ↔ wp (K (gi w 3 3)) w Q := wp_aIn (n := 3) (by omega) (by omega)
      by_cases hj : 4 ≤ j
      · have q0 := j3 0 (by omega)
        have q1 := j3 1 (by omega)
        have q2 := j3 2 (by omega)
        have q3 := j3 3 (by omega)
        rw [if_pos (ge_l 4 hj (by omega)), wp_a0 (by omega) (by omega), v0, a1, v1, a2, v2, a3, v3, mu8, nI_add, mu8, nI_add, wp_sIn (by omega) (by omega), wp_gd, wp_rt]
        refine ⟨by decide, ?_⟩
        rw [if_neg (by decide), wp_gd, wp_rt]
        refine ⟨by decide, (f1.tr (sub8 f2)).si (Or.inr ⟨by omega, by omega⟩), Or.inr ⟨rfl, q, _, by rw [ei, h]; show (if u 0 < 8 ∧ u 1 < 8 ∧ u 2 < 8 ∧ u 3 < 8 then _ else _) = _; rw [if_pos ⟨q0, q1, q2, q3⟩], by omega, h2, ?_, ?_, ?_⟩⟩
        · rw [gi_si_n (by omega)]; exact h3
        · obtain ⟨g1, g2, g3, g4⟩ := nd8 f2
          refine ⟨?_, fun i hi => ?_, fun k hk => ?_, fun k hk => ?_⟩
          · rw [gi_si_n (by omega)]; exact g1
          · rw [gi_si_n (by omega), gi_si_n (by omega), gi_si_n (by omega)]; exact g2 i hi
          · show _ = nI (ud s.2.2.1 (8 * u 0 + u 1) (8 * u 2 + u 3) k)
            unfold ud
            by_cases e : k = 8 * u 0 + u 1
            · rw [if_pos e, e, gi_si_s]
            · rw [if_neg e, gi_si_n (by omega)]; exact g3 k hk
          · rw [gi_si_n (by omega)]; exact g4 k hk
        · refine ⟨o1, o2, fun k hk => ?_, o4⟩
          show ud s.2.2.1 (8 * u 0 + u 1) (8 * u 2 + u 3) k < 64
          unfold ud
          split
          · omega
          · exact o3 k hk
      · obtain ⟨uj, vj⟩ := h4 j (by omega)
        rw [if_neg (nge_l 4 (by omega) (by omega)), wp_aIn (by omega) (by omega), vj]
        by_cases hu : u j < 8
        · rw [if_pos (lt_l 8 hu (by omega)), ad1]
          refine hs (4 - (j + 1)) _ _ (by omega) ⟨j + 1, by omega, rfl, rfl, fun i hi => ?_, rfl⟩
          by_cases e : i = j
          · rw [e]; exact hu
          · exact j3 i (by omega)
        · rw [if_neg (nlt_l 8 (by omega) (by omega)), wp_gd, wp_rt]
          refine ⟨by decide, ?_⟩
          rw [if_pos rfl]
          refine no (f1.tr (sub8 f2)) ?_
          rw [ei, h]
          show (if u 0 < 8 ∧ u 1 < 8 ∧ u 2 < 8 ∧ u 3 < 8 then _ else _) = _
          rw [if_neg]
          rintro ⟨z0, z1, z2, z3⟩
          rcases (by omega : j = 0 ∨ j = 1 ∨ j = 2 ∨ j = 3) with rfl | rfl | rfl | rfl <;> omega
  rw [if_neg (show ¬ sby (B p) = 106 from fun e => c2 ((sby_eq _ b1 106 (by omega)).mp e))]
  by_cases c3 : B p = 119
  · have ei : itm B p s = match fl B 3 0 (fun _ => 0) (p + 1) with | none => none | some (u, q) => if s.1 < 16 ∧ u 0 < 8 ∧ u 1 < 16 ∧ u 2 < 8 ∧ ndup s u then some (q, (s.1 + 1, ud (ud (ud s.2.1 (3 * s.1) (u 0)) (3 * s.1 + 1) (u 1)) (3 * s.1 + 2) (u 2), s.2.2.1, s.2.2.2)) else none := by unfold itm; rw [if_neg c1, if_neg c2, if_pos c3]
    rw [if_pos (show sby (B p) = 119 from (sby_eq _ b1 119 (by omega)).mpr c3), wp_bnd]
    refine wp_mono (wp_nums8 (K := 3) hT1 hp1 (by omega) (by omega) (by omega)) (fun r w2 h => ?_)
    obtain ⟨f2, h⟩ := h
    unfold f_X4_readItem_79 f_X4_readItem_80
    have no : ∀ {w3 : Wd}, Fr (cI8 d) w w3 → itm B p s = none → wp (gd ((0 : Int32) = 0 ∨ (0 : Int32) = 1) (rt (0 : Int32))) w3 (Res8 d n B p s w) := fun f hn => wp_gd.mpr ⟨by decide, wp_rt.mpr ⟨f, Or.inl ⟨rfl, hn⟩⟩⟩
    rcases h with ⟨rfl, h⟩ | ⟨rfl, u, q, h, h1, h2, h3, h4⟩
    · rw [if_pos rfl]
      exact no (f1.tr (sub8 f2)) (by rw [ei, h])
    · obtain ⟨u0, v0⟩ := h4 0 (by omega)
      obtain ⟨u1, v1⟩ := h4 1 (by omega)
      obtain ⟨u2, v2⟩ := h4 2 (by omega)
      obtain ⟨g1, g2, g3, g4⟩ := nd8 f2
      have a1 : ∀ {R : Type} {K : Int32 → M R} {w : Wd} {Q : R → Wd → Prop}, wp (aI 3 4 1 K) w Q ↔ wp (K (gi w 3 1)) w Q := wp_aIn (n := 1) (by omega) (by omega)
      have a2 : ∀ {R : Type} {K : Int32 → M R} {w : Wd} {Q : R → Wd → Prop}, wp (aI 3 4 2 K) w Q ↔ wp (K (gi w 3 2)) w Q := wp_aIn (n := 2) (by omega) (by omega)
      have ref : ∀ {w3 : Wd}, Fr (cI8 d) w w3 → ¬ (s.1 < 16 ∧ u 0 < 8 ∧ u 1 < 16 ∧ u 2 < 8 ∧ ndup s u) → wp (gd ((0 : Int32) = 0 ∨ (0 : Int32) = 1) (rt (0 : Int32))) w3 (fun a w' => wp (if a = 0 then gd ((0 : Int32) = 0 ∨ (0 : Int32) = 1) (rt 0) else gd ((1 : Int32) = 0 ∨ (1 : Int32) = 1) (rt 1)) w' (Res8 d n B p s w)) := by
        intro w3 f3 hn
        rw [wp_gd, wp_rt]
        refine ⟨by decide, ?_⟩
        rw [if_pos rfl]
        refine no f3 ?_
        rw [ei, h]
        show (if s.1 < 16 ∧ u 0 < 8 ∧ u 1 < 16 ∧ u 2 < 8 ∧ ndup s u then _ else _) = _
        rw [if_neg hn]
      rw [if_neg (by decide), wp_bnd]
      unfold f_X6_learnWord f_X6_learnWord_33
      rw [wp_rI, g1]
      by_cases k1 : 16 ≤ s.1
      · rw [if_pos (ge_l 16 k1 (by omega))]
        exact ref (f1.tr (sub8 f2)) (by omega)
      rw [if_neg (nge_l 16 (by omega) (by omega)), wp_a0 (by omega) (by omega), v0]
      by_cases k2 : 8 ≤ u 0
      · rw [if_pos (ge_l 8 k2 (by omega))]
        exact ref (f1.tr (sub8 f2)) (by omega)
      rw [if_neg (nge_l 8 (by omega) (by omega)), a1, v1]
      by_cases k3 : 16 ≤ u 1
      · rw [if_pos (ge_l 16 k3 (by omega))]
        exact ref (f1.tr (sub8 f2)) (by omega)
      rw [if_neg (nge_l 16 (by omega) (by omega)), a2, v2]
      by_cases k4 : u 2 < 8
      · rw [if_pos (lt_l 8 k4 (by omega))]
        refine wp_fix1 (fun m x w' => ∃ i, i ≤ s.1 ∧ m = s.1 - i ∧ x = nI i ∧ (∀ j, j < i → ¬ (s.2.1 (3 * j) = u 0 ∧ s.2.1 (3 * j + 1) = u 1 ∧ s.2.1 (3 * j + 2) = u 2)) ∧ w' = w2) (fun m x w' self hI hs => ?_) FU s.1 0 w2 (by have := FU_big; omega) ⟨0, by omega, by omega, rfl, fun i hi => by omega, rfl⟩
        obtain ⟨i, i1, i2, rfl, i3, rfl⟩ := hI
        unfold f_X6_learnWord_37 f_X6_learnWord_83
        rw [wp_rI, g1]
        by_cases hi : s.1 ≤ i
        · have hnd : ndup s u := fun j hj => i3 j (by omega)
          rw [if_pos (nI_le hi (by omega)), wp_rI, g1, wp_a0 (by omega) (by omega), v0, wp_sIn (by omega) (by omega), wp_rI, gi_si_n (by omega), g1, a1, gi_si_n (by omega), v1, wp_sIn (by omega) (by omega), wp_rI, gi_si_n (by omega), gi_si_n (by omega), g1, a2, gi_si_n (by omega), gi_si_n (by omega), v2, wp_sIn (by omega) (by omega), wp_rI, gi_si_n (by omega), gi_si_n (by omega), gi_si_n (by omega), g1, wp_wI, ad1, wp_gd, wp_rt]
          refine ⟨by decide, ?_⟩
          rw [if_neg (by decide), wp_gd, wp_rt]
          refine ⟨by decide, ((((f1.tr (sub8 f2)).si (Or.inr ⟨by omega, by omega⟩)).si (Or.inr ⟨by omega, by omega⟩)).si (Or.inr ⟨by omega, by omega⟩)).si (Or.inr ⟨by omega, by omega⟩), Or.inr ⟨rfl, q, _, by rw [ei, h]; show (if s.1 < 16 ∧ u 0 < 8 ∧ u 1 < 16 ∧ u 2 < 8 ∧ ndup s u then _ else _) = _; rw [if_pos ⟨by omega, by omega, by omega, k4, hnd⟩], by omega, h2, ?_, ?_, ?_⟩⟩
          · rw [gi_si_n (by omega), gi_si_n (by omega), gi_si_n (by omega), gi_si_n (by omega)]; exact h3
          · refine ⟨gi_si_s _ _ _ _, fun j hj => ?_, fun k hk => ?_, fun k hk => ?_⟩
            · have hj : j < s.1 + 1 := hj
              show _ = nI (ud (ud (ud s.2.1 (3 * s.1) (u 0)) (3 * s.1 + 1) (u 1)) (3 * s.1 + 2) (u 2) (3 * j)) ∧ _ = nI (ud (ud (ud s.2.1 (3 * s.1) (u 0)) (3 * s.1 + 1) (u 1)) (3 * s.1 + 2) (u 2) (3 * j + 1)) ∧ _ = nI (ud (ud (ud s.2.1 (3 * s.1) (u 0)) (3 * s.1 + 1) (u 1)) (3 * s.1 + 2) (u 2) (3 * j + 2))
              unfold ud
              by_cases e : j = s.1
              · rw [e, if_neg (by omega), if_neg (by omega), if_pos rfl, if_neg (by omega), if_pos rfl, if_pos rfl]
                refine ⟨?_, ?_, ?_⟩
                · rw [gi_si_n (by omega), gi_si_n (by omega), gi_si_n (by omega), gi_si_s]
                · rw [gi_si_n (by omega), gi_si_n (by omega), gi_si_s]
                · rw [gi_si_n (by omega), gi_si_s]
              · rw [if_neg (by omega), if_neg (by omega), if_neg (by omega), if_neg (by omega), if_neg (by omega), if_neg (by omega), if_neg (by omega), if_neg (by omega), if_neg (by omega)]
                obtain ⟨y1, y2, y3⟩ := g2 j (by omega)
                refine ⟨?_, ?_, ?_⟩
                · rw [gi_si_n (by omega), gi_si_n (by omega), gi_si_n (by omega), gi_si_n (by omega)]; exact y1
                · rw [gi_si_n (by omega), gi_si_n (by omega), gi_si_n (by omega), gi_si_n (by omega)]; exact y2
                · rw [gi_si_n (by omega), gi_si_n (by omega), gi_si_n (by omega), gi_si_n (by omega)]; exact y3
            · rw [gi_si_n (by omega), gi_si_n (by omega), gi_si_n (by omega), gi_si_n (by omega)]; exact g3 k hk
            · rw [gi_si_n (by omega), gi_si_n (by omega), gi_si_n (by omega), gi_si_n (by omega)]; exact g4 k hk
          · refine ⟨by show s.1 + 1 ≤ 16; omega, fun j hj => ?_, o3, o4⟩
            have hj : j < s.1 + 1 := hj
            show ud (ud (ud s.2.1 (3 * s.1) (u 0)) (3 * s.1 + 1) (u 1)) (3 * s.1 + 2) (u 2) (3 * j) < 8 ∧ ud (ud (ud s.2.1 (3 * s.1) (u 0)) (3 * s.1 + 1) (u 1)) (3 * s.1 + 2) (u 2) (3 * j + 1) < 16 ∧ ud (ud (ud s.2.1 (3 * s.1) (u 0)) (3 * s.1 + 1) (u 1)) (3 * s.1 + 2) (u 2) (3 * j + 2) < 8
            unfold ud
            by_cases e : j = s.1
            · rw [e, if_neg (by omega), if_neg (by omega), if_pos rfl, if_neg (by omega), if_pos rfl, if_pos rfl]
              omega
            · rw [if_neg (by omega), if_neg (by omega), if_neg (by omega), if_neg (by omega), if_neg (by omega), if_neg (by omega), if_neg (by omega), if_neg (by omega), if_neg (by omega)]
              exact o2 j (by omega)
        · obtain ⟨y1, y2, y3⟩ := g2 i (by omega)
          obtain ⟨r1, r2, r3⟩ := o2 i (by omega)
          have go : ¬ (s.2.1 (3 * i) = u 0 ∧ s.2.1 (3 * i + 1) = u 1 ∧ s.2.1 (3 * i + 2) = u 2) → wp (self (nI i + 1)) w' (fun a w' => wp (if a = 0 then gd ((0 : Int32) = 0 ∨ (0 : Int32) = 1) (rt 0) else gd ((1 : Int32) = 0 ∨ (1 : Int32) = 1) (rt 1)) w' (Res8 d n B p s w)) := fun hn => by
            rw [ad1]
            refine hs (s.1 - (i + 1)) _ _ (by omega) ⟨i + 1, by omega, rfl, rfl, fun j hj => ?_, rfl⟩
            by_cases e : j = i
            · rw [e]; exact hn
            · exact i3 j (by omega)
          rw [if_neg (nI_ge (by omega) (by omega)), wp_aIn (by omega) (by omega), y1, wp_a0 (by omega) (by omega), v0]
          by_cases e1 : s.2.1 (3 * i) = u 0
          · rw [if_pos (by rw [e1]), wp_aIn (by omega) (by omega), y2, a1, v1]
            by_cases e2 : s.2.1 (3 * i + 1) = u 1
            · rw [if_pos (by rw [e2]), wp_aIn (by omega) (by omega), y3, a2, v2]
              by_cases e3 : s.2.1 (3 * i + 2) = u 2
              · rw [if_pos (by rw [e3])]
                exact ref (f1.tr (sub8 f2)) (fun z => z.2.2.2.2 i (by omega) ⟨e1, e2, e3⟩)
              · rw [if_neg (fun z => e3 ((nI_eq (by omega) (by omega)).mp z))]
                exact go (fun z => e3 z.2.2)
            · rw [if_neg (fun z => e2 ((nI_eq (by omega) (by omega)).mp z))]
              exact go (fun z => e2 z.2.1)
          · rw [if_neg (fun z => e1 ((nI_eq (by omega) (by omega)).mp z))]
            exact go (fun z => e1 z.1)
      · rw [if_neg (nlt_l 8 (by omega) (by omega))]
        exact ref (f1.tr (sub8 f2)) (by omega)
  rw [if_neg (show ¬ sby (B p) = 119 from fun e => c3 ((sby_eq _ b1 119 (by omega)).mp e)), wp_gd, wp_rt]
  refine ⟨by decide, f1, Or.inl ⟨rfl, ?_⟩⟩
  unfold itm
  rw [if_neg c1, if_neg c2, if_neg c3]
end ITEM8
