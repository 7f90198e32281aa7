/-! THE TEXT: items in the reference -/
section ITEM9
variable {w : Wd} {n : Nat} {B : Nat → Nat} {s : St}
theorem D9.to {w' : Wd} (h : D9 s w) (e : ∀ q k, (163 ≤ q ∧ q ≤ 166) → gi w' q k = gi w q k) : D9 s w' := by
  obtain ⟨h1, h2, h3, h4⟩ := h
  refine ⟨?_, fun i hi => ?_, fun k hk => ?_, fun k hk => ?_⟩
  · rw [e _ _ (by omega)]; exact h1
  · rw [e _ _ (by omega), e _ _ (by omega), e _ _ (by omega)]; exact h2 i hi
  · rw [e _ _ (by omega)]; exact h3 k hk
  · rw [e _ _ (by omega)]; exact h4 k hk
def Res9 (n : Nat) (B : Nat → Nat) (p : Nat) (s : St) (w : Wd) (r : Int32) (w' : Wd) : Prop := Fr cI9 w w' ∧ ((r = 0 ∧ itm B p s = none) ∨ (r = 1 ∧ ∃ q s', itm B p s = some (q, s') ∧ p < q ∧ q ≤ n ∧ gi w' 161 17 = nI q ∧ D9 s' w' ∧ SOk s'))
theorem wp_edgv {Q : Int32 → Wd → Prop} {v : Nat} (hv : v < 2 ^ 31) : wp (f_X9_isEdge (nI v)) w Q ↔ Q (if v < 8 then 1 else 0) w := by
  by_cases h : v < 8
  · rw [wp_edg h, if_pos h]
  · rw [wp_edgo (Or.inr (nI_le (by omega) (by omega))), if_neg h]
theorem wp_item9 {p : Nat} (hT : Txt n B w) (hp : gi w 161 17 = nI p) (hpn : p < n) (hD : D9 s w) (hO : SOk s) : wp f_X9_item w (Res9 n B p s w) := by
  obtain ⟨t1, t2, t3, t4, t5⟩ := id hT
  obtain ⟨b1, b2, b3⟩ := t4 p hpn
  unfold f_X9_item
  rw [wp_rI, hp, wp_bnd, (rd_byte9 hT (by omega)).wp, wp_rI, hp, wp_wI, ad1]
  generalize hw1 : si w 161 17 (nI (p + 1)) = w1
  have f1 : Fr cI9 w w1 := by rw [← hw1]; exact Fr.rf.si (Or.inl (Or.inl ⟨rfl, rfl⟩))
  have hp1 : gi w1 161 17 = nI (p + 1) := by rw [← hw1, gi_si_s]
  have hT1 : Txt n B w1 := hT.to (fun q k hc => f1.2.2 q k (by unfold cTxt at hc; unfold cI9 cP9; omega))
  have hD1 : D9 s w1 := hD.to (fun q k hq => by rw [← hw1, gi_si_n (by omega)])
  have sub9 : ∀ {w2 w3 : Wd}, Fr cP9 w2 w3 → Fr cI9 w2 w3 := fun h => h.sub (fun q k hq => Or.inl hq)
  have nd9 : ∀ {w3 : Wd}, Fr cP9 w1 w3 → D9 s w3 := fun h => hD1.to (fun q k hq => h.2.2 q k (by unfold cP9; omega))
  obtain ⟨o1, o2, o3, o4⟩ := id hO
  have no : ∀ {w3 : Wd}, Fr cI9 w w3 → itm B p s = none → wp (gd ((0 : Int32) = 0 ∨ (0 : Int32) = 1) (rt (0 : Int32))) w3 (Res9 n B p s w) := fun f hn => wp_gd.mpr ⟨by decide, wp_rt.mpr ⟨f, Or.inl ⟨rfl, hn⟩⟩⟩
  have a0 : ∀ {R : Type} {K : Int32 → M R} {w : Wd} {Q : R → Wd → Prop}, wp (aI 175 4 0 K) w Q ↔ wp (K (gi w 175 0)) w Q := wp_aIn (n := 0) (by omega) (by omega)
  have a1 : ∀ {R : Type} {K : Int32 → M R} {w : Wd} {Q : R → Wd → Prop}, wp (aI 175 4 1 K) w Q ↔ wp (K (gi w 175 1)) w Q := wp_aIn (n := 1) (by omega) (by omega)
  have a2 : ∀ {R : Type} {K : Int32 → M R} {w : Wd} {Q : R → Wd → Prop}, wp (aI 175 4 2 K) w Q ↔ wp (K (gi w 175 2)) w Q := wp_aIn (n := 2) (by omega) (by omega)
  have a3 : ∀ {R : Type} {K : Int32 → M R} {w : Wd} {Q : R → Wd → Prop}, wp (aI 175 4 3 K) w Q ↔ wp (K (gi w 175 3)) w Q := wp_aIn (n := 3) (by omega) (by omega)
  have c1w : ∀ {R : Type} {K : Int32 → M R} {w : Wd} {Q : R → Wd → Prop}, wp (aI 163 2 1 K) w Q ↔ wp (K (gi w 163 1)) w Q := wp_aIn (n := 1) (by omega) (by omega)
  by_cases c1 : B p = 104
  · have ei : itm B p s = match fl B 2 0 (fun _ => 0) (p + 1) with | none => none | some (u, q) => if u 0 < 5 then some (q, (s.1, s.2.1, s.2.2.1, ud s.2.2.2 (u 0) (u 1))) else none := by unfold itm; rw [if_pos c1]; rfl
    rw [if_pos (eq_l 104 c1), wp_bnd]
    refine wp_mono (wp_nums9 (K := 2) hT1 hp1 (by omega) (by omega) (by omega)) (fun r w2 h => ?_)
    obtain ⟨f2, h⟩ := h
    unfold f_X9_item_186
    rcases h with ⟨rfl, h⟩ | ⟨rfl, u, q, h, h1, h2, h3, h4⟩
    · rw [if_pos rfl]
      exact no (f1.tr (sub9 f2)) (by rw [ei, h])
    · obtain ⟨u0, v0⟩ := h4 0 (by omega)
      obtain ⟨u1, v1⟩ := h4 1 (by omega)
      rw [if_neg (by decide), a0, v0, wp_bnd]
      by_cases hc : u 0 < 5
      · rw [wp_in (by rw [i2l_toInt, nI_toInt (by omega)]; exact ⟨by show (0 : Int) ≤ (u 0 : Int); omega, by show (u 0 : Int) ≤ 4; omega⟩), if_neg (by decide), a0, v0, a1, v1, show 5 + nI (u 0) = nI (5 + u 0) from nI_add 5 (u 0), wp_sIn (by omega) (by omega), wp_gd, wp_rt]
        refine ⟨by decide, (f1.tr (sub9 f2)).si (by unfold cI9; omega), Or.inr ⟨rfl, q, _, by rw [ei, h]; show (if u 0 < 5 then _ else _) = _; rw [if_pos hc], by omega, h2, ?_, ?_, ?_⟩⟩
        · rw [gi_si_n (by omega)]; exact h3
        · obtain ⟨g1, g2, g3, g4⟩ := nd9 f2
          refine ⟨?_, fun i hi => ?_, fun k hk => ?_, fun k hk => ?_⟩
          · rw [gi_si_n (by omega)]; exact g1
          · rw [gi_si_n (by omega), gi_si_n (by omega), gi_si_n (by omega)]; exact g2 i hi
          · rw [gi_si_n (by omega)]; exact g3 k hk
          · show _ = nI (ud s.2.2.2 (u 0) (u 1) k)
            unfold ud
            by_cases e : k = u 0
            · rw [if_pos e, e, gi_si_s]
            · rw [if_neg e, gi_si_n (by omega)]; exact g4 k hk
        · refine ⟨o1, o2, o3, fun k hk => ?_⟩
          show ud s.2.2.2 (u 0) (u 1) k < 100
          unfold ud
          split
          · exact u1
          · exact o4 k hk
      · rw [wp_ino (by rw [i2l_toInt, nI_toInt (by omega)]; right; show (4 : Int) < (u 0 : Int); omega), if_pos rfl]
        exact no (f1.tr (sub9 f2)) (by rw [ei, h]; show (if u 0 < 5 then _ else _) = _; rw [if_neg hc])
  rw [if_neg (ne_l 104 c1 (by omega) (by omega))]
  by_cases c2 : B p = 106
  · have ei : itm B p s = match fl B 4 0 (fun _ => 0) (p + 1) with | none => none | some (u, q) => if u 0 < 8 ∧ u 1 < 8 ∧ u 2 < 8 ∧ u 3 < 8 then some (q, (s.1, s.2.1, ud s.2.2.1 (8 * u 0 + u 1) (8 * u 2 + u 3), s.2.2.2)) else none := by unfold itm; rw [if_neg c1, if_pos c2]; rfl
    rw [if_pos (eq_l 106 c2), wp_bnd]
    refine wp_mono (wp_nums9 (K := 4) hT1 hp1 (by omega) (by omega) (by omega)) (fun r w2 h => ?_)
    obtain ⟨f2, h⟩ := h
    unfold f_X9_item_117
    rcases h with ⟨rfl, h⟩ | ⟨rfl, u, q, h, h1, h2, h3, h4⟩
    · rw [if_pos rfl]
      exact no (f1.tr (sub9 f2)) (by rw [ei, h])
    · obtain ⟨u0, v0⟩ := h4 0 (by omega)
      obtain ⟨u1, v1⟩ := h4 1 (by omega)
      obtain ⟨u2, v2⟩ := h4 2 (by omega)
      obtain ⟨u3, v3⟩ := h4 3 (by omega)
      have ref : ¬ (u 0 < 8 ∧ u 1 < 8 ∧ u 2 < 8 ∧ u 3 < 8) → wp (gd ((0 : Int32) = 0 ∨ (0 : Int32) = 1) (rt (0 : Int32))) w2 (Res9 n B p s w) := fun hn => no (f1.tr (sub9 f2)) (by rw [ei, h]; show (if u 0 < 8 ∧ u 1 < 8 ∧ u 2 < 8 ∧ u 3 < 8 then _ else _) = _; rw [if_neg hn])
      rw [if_neg (by decide), a0, v0, wp_bnd, wp_edgv (by omega)]
      by_cases q0 : u 0 < 8
      · rw [if_pos q0, if_neg (by decide), a1, v1, wp_bnd, wp_edgv (by omega)]
        by_cases q1 : u 1 < 8
        · rw [if_pos q1, if_neg (by decide), a2, v2, wp_bnd, wp_edgv (by omega)]
          by_cases q2 : u 2 < 8
          · rw [if_pos q2, if_neg (by decide), a3, v3, wp_bnd, wp_edgv (by omega)]
            by_cases q3 : u 3 < 8
            · rw [if_pos q3, if_neg (by decide), a0, v0, a1, v1, a2, v2, a3, v3, mu8, mu8, show 64 + nI (8 * u 0) = nI (64 + 8 * u 0) from nI_add 64 _, nI_add, nI_add, wp_sIn (by omega) (by omega), wp_gd, wp_rt]
              refine ⟨by decide, (f1.tr (sub9 f2)).si (by unfold cI9; omega), Or.inr ⟨rfl, q, _, by rw [ei, h]; show (if u 0 < 8 ∧ u 1 < 8 ∧ u 2 < 8 ∧ u 3 < 8 then _ else _) = _; rw [if_pos ⟨q0, q1, q2, q3⟩], by omega, h2, ?_, ?_, ?_⟩⟩
              · rw [gi_si_n (by omega)]; exact h3
              · obtain ⟨g1, g2, g3, g4⟩ := nd9 f2
                refine ⟨?_, fun i hi => ?_, fun k hk => ?_, fun k hk => ?_⟩
                · rw [gi_si_n (by omega)]; exact g1
                · rw [gi_si_n (by omega), gi_si_n (by omega), gi_si_n (by omega)]; exact g2 i hi
                · show _ = nI (ud s.2.2.1 (8 * u 0 + u 1) (8 * u 2 + u 3) k)
                  unfold ud
                  by_cases e : k = 8 * u 0 + u 1
                  · rw [if_pos e, e, show 64 + (8 * u 0 + u 1) = 64 + 8 * u 0 + u 1 by omega, gi_si_s]
                  · rw [if_neg e, gi_si_n (by omega)]; exact g3 k hk
                · rw [gi_si_n (by omega)]; exact g4 k hk
              · refine ⟨o1, o2, fun k hk => ?_, o4⟩
                show ud s.2.2.1 (8 * u 0 + u 1) (8 * u 2 + u 3) k < 64
                unfold ud
                split
                · omega
                · exact o3 k hk
            · rw [if_neg q3, if_pos rfl]
              exact ref (by omega)
          · rw [if_neg q2, if_pos rfl]
            exact ref (by omega)
        · rw [if_neg q1, if_pos rfl]
          exact ref (by omega)
      · rw [if_neg q0, if_pos rfl]
        exact ref (by omega)
  rw [if_neg (ne_l 106 c2 (by omega) (by omega))]
  by_cases c3 : B p = 119
  · have ei : itm B p s = match fl B 3 0 (fun _ => 0) (p + 1) with | none => none | some (u, q) => if s.1 < 16 ∧ u 0 < 8 ∧ u 1 < 16 ∧ u 2 < 8 ∧ ndup s u then some (q, (s.1 + 1, ud (ud (ud s.2.1 (3 * s.1) (u 0)) (3 * s.1 + 1) (u 1)) (3 * s.1 + 2) (u 2), s.2.2.1, s.2.2.2)) else none := by unfold itm; rw [if_neg c1, if_neg c2, if_pos c3]; rfl
    rw [if_pos (eq_l 119 c3), wp_bnd]
    unfold f_X9_wordItem f_X9_wordItem_54
    rw [wp_bnd]
    refine wp_mono (wp_nums9 (K := 3) hT1 hp1 (by omega) (by omega) (by omega)) (fun r w2 h => ?_)
    obtain ⟨f2, h⟩ := h
    have no2 : ∀ {w3 : Wd}, Fr cI9 w w3 → itm B p s = none → wp (gd ((0 : Int32) = 0 ∨ (0 : Int32) = 1) (rt (0 : Int32))) w3 (fun a w' => wp (gd (a = 0 ∨ a = 1) (rt a)) w' (Res9 n B p s w)) := fun f hn => by
      rw [wp_gd, wp_rt]
      exact ⟨by decide, no f hn⟩
    rcases h with ⟨rfl, h⟩ | ⟨rfl, u, q, h, h1, h2, h3, h4⟩
    · rw [if_pos rfl]
      exact no2 (f1.tr (sub9 f2)) (by rw [ei, h])
    · obtain ⟨u0, v0⟩ := h4 0 (by omega)
      obtain ⟨u1, v1⟩ := h4 1 (by omega)
      obtain ⟨u2, v2⟩ := h4 2 (by omega)
      obtain ⟨g1, g2, g3, g4⟩ := nd9 f2
      have ref : ¬ (s.1 < 16 ∧ u 0 < 8 ∧ u 1 < 16 ∧ u 2 < 8 ∧ ndup s u) → wp (gd ((0 : Int32) = 0 ∨ (0 : Int32) = 1) (rt (0 : Int32))) w2 (fun a w' => wp (gd (a = 0 ∨ a = 1) (rt a)) w' (Res9 n B p s w)) := fun hn => no2 (f1.tr (sub9 f2)) (by rw [ei, h]; show (if s.1 < 16 ∧ u 0 < 8 ∧ u 1 < 16 ∧ u 2 < 8 ∧ ndup s u then _ else _) = _; rw [if_neg hn])
      rw [if_neg (by decide), a0, v0, wp_bnd, wp_edgv (by omega)]
      by_cases k2 : u 0 < 8
      · rw [if_pos k2, if_neg (by decide), a1, v1]
        by_cases k3 : 15 < u 1
        · rw [if_pos (gt_l 15 k3 (by omega))]
          exact ref (by omega)
        rw [if_neg (ngt_l 15 (by omega) (by omega)), a2, v2, wp_bnd, wp_edgv (by omega)]
        by_cases k4 : u 2 < 8
        · rw [if_pos k4, if_neg (by decide), c1w, g1]
          by_cases k1 : s.1 = 16
          · rw [if_pos (eq_l 16 k1)]
            exact ref (by omega)
          rw [if_neg (ne_l 16 k1 (by omega) (by omega))]
          refine wp_fix1 (fun m x w' => ∃ i, i ≤ s.1 ∧ m = s.1 - i ∧ x = nI i ∧ (∀ j, j < i → ¬ (s.2.1 (3 * j) = u 0 ∧ s.2.1 (3 * j + 1) = u 1 ∧ s.2.1 (3 * j + 2) = u 2)) ∧ w' = w2) (fun m x w' self hI hs => ?_) FU s.1 0 w2 (by have := FU_big; omega) ⟨0, by omega, by omega, rfl, fun i hi => by omega, rfl⟩
          obtain ⟨i, i1, i2, rfl, i3, rfl⟩ := hI
          unfold f_X9_wordItem_58 f_X9_wordItem_126
          rw [c1w, g1]
          by_cases hi : s.1 ≤ i
          · have hnd : ndup s u := fun j hj => i3 j (by omega)
            rw [if_pos (nI_le hi (by omega))]
            refine wp_fix1 (fun m x w3 => ∃ j, j ≤ 3 ∧ m = 3 - j ∧ x = nI j ∧ Fr cI9 w w3 ∧ gi w3 161 17 = nI q ∧ gi w3 163 1 = nI s.1 ∧ (∀ i, i < 3 → gi w3 175 i = nI (u i)) ∧ (∀ i, i < j → gi w3 164 (48 + 3 * s.1 + i) = nI (u i)) ∧ (∀ q k, ¬ (q = 164 ∧ 48 + 3 * s.1 ≤ k) → gi w3 q k = gi w' q k)) (fun m x w3 self hI hs => ?_) FU 3 0 w' (by have := FU_big; omega) ⟨0, by omega, by omega, rfl, f1.tr (sub9 f2), h3, g1, fun i hi => (h4 i hi).2, fun i hi => by omega, fun _ _ _ => rfl⟩
            obtain ⟨j, j1, j2, rfl, j3, j4, j5, j6, j7, j8⟩ := hI
            unfold f_X9_wordItem_134
            by_cases hj : 3 ≤ j
            · have e3 : j = 3 := by omega
              subst e3
              rw [if_pos (ge_l 3 hj (by omega)), c1w, j5, ad1]
              show wp (sI 163 2 (nI 1) (nI (s.1 + 1)) _) w3 _
              rw [wp_sIn (by omega) (by omega), wp_gd, wp_rt]
              refine ⟨by decide, ?_⟩
              rw [wp_gd, wp_rt]
              refine ⟨by decide, j3.si (by unfold cI9; omega), Or.inr ⟨rfl, q, _, by rw [ei, h]; show (if s.1 < 16 ∧ u 0 < 8 ∧ u 1 < 16 ∧ u 2 < 8 ∧ ndup s u then _ else _) = _; rw [if_pos ⟨by omega, by omega, by omega, k4, hnd⟩], by omega, h2, ?_, ?_, ?_⟩⟩
              · rw [gi_si_n (by omega)]; exact j4
              · refine ⟨gi_si_s _ _ _ _, fun i hi => ?_, fun k hk => ?_, fun k hk => ?_⟩
                · have hi : i < s.1 + 1 := hi
                  show _ = nI (ud (ud (ud s.2.1 (3 * s.1) (u 0)) (3 * s.1 + 1) (u 1)) (3 * s.1 + 2) (u 2) (3 * i)) ∧ _ = nI (ud (ud (ud s.2.1 (3 * s.1) (u 0)) (3 * s.1 + 1) (u 1)) (3 * s.1 + 2) (u 2) (3 * i + 1)) ∧ _ = nI (ud (ud (ud s.2.1 (3 * s.1) (u 0)) (3 * s.1 + 1) (u 1)) (3 * s.1 + 2) (u 2) (3 * i + 2))
                  unfold ud
                  by_cases e : i = s.1
                  · rw [e, if_neg (by omega), if_neg (by omega), if_pos rfl, if_neg (by omega), if_pos rfl, if_pos rfl]
                    refine ⟨?_, ?_, ?_⟩
                    · rw [gi_si_n (by omega)]; exact j7 0 (by omega)
                    · rw [gi_si_n (by omega)]; exact j7 1 (by omega)
                    · rw [gi_si_n (by omega)]; exact j7 2 (by omega)
                  · rw [if_neg (by omega), if_neg (by omega), if_neg (by omega), if_neg (by omega), if_neg (by omega), if_neg (by omega), if_neg (by omega), if_neg (by omega), if_neg (by omega)]
                    obtain ⟨y1, y2, y3⟩ := g2 i (by omega)
                    refine ⟨?_, ?_, ?_⟩
                    · rw [gi_si_n (by omega), j8 _ _ (by omega)]; exact y1
                    · rw [gi_si_n (by omega), j8 _ _ (by omega)]; exact y2
                    · rw [gi_si_n (by omega), j8 _ _ (by omega)]; exact y3
                · rw [gi_si_n (by omega), j8 _ _ (by omega)]; exact g3 k hk
                · rw [gi_si_n (by omega), j8 _ _ (by omega)]; exact g4 k hk
              · refine ⟨by show s.1 + 1 ≤ 16; omega, fun i hi => ?_, o3, o4⟩
                have hi : i < s.1 + 1 := hi
                show ud (ud (ud s.2.1 (3 * s.1) (u 0)) (3 * s.1 + 1) (u 1)) (3 * s.1 + 2) (u 2) (3 * i) < 8 ∧ ud (ud (ud s.2.1 (3 * s.1) (u 0)) (3 * s.1 + 1) (u 1)) (3 * s.1 + 2) (u 2) (3 * i + 1) < 16 ∧ ud (ud (ud s.2.1 (3 * s.1) (u 0)) (3 * s.1 + 1) (u 1)) (3 * s.1 + 2) (u 2) (3 * i + 2) < 8
                unfold ud
                by_cases e : i = s.1
                · rw [e, if_neg (by omega), if_neg (by omega), if_pos rfl, if_neg (by omega), if_pos rfl, if_pos rfl]
                  omega
                · rw [if_neg (by omega), if_neg (by omega), if_neg (by omega), if_neg (by omega), if_neg (by omega), if_neg (by omega), if_neg (by omega), if_neg (by omega), if_neg (by omega)]
                  exact o2 i (by omega)
            · rw [if_neg (nge_l 3 (by omega) (by omega)), c1w, j5, wp_aIn (by omega) (by omega), j6 j (by omega), mu3, show 48 + nI (3 * s.1) = nI (48 + 3 * s.1) from nI_add 48 _, nI_add, wp_sIn (by omega) (by omega), ad1]
              refine hs (3 - (j + 1)) _ _ (by omega) ⟨j + 1, by omega, rfl, rfl, j3.si (by unfold cI9; omega), ?_, ?_, fun i hi => ?_, fun i hi => ?_, fun q k hq => ?_⟩
              · rw [gi_si_n (by omega)]; exact j4
              · rw [gi_si_n (by omega)]; exact j5
              · rw [gi_si_n (by omega)]; exact j6 i hi
              · by_cases e : i = j
                · rw [e, gi_si_s]
                · rw [gi_si_n (by omega)]; exact j7 i (by omega)
              · rw [gi_si_n (by omega)]; exact j8 q k hq
          · obtain ⟨y1, y2, y3⟩ := g2 i (by omega)
            obtain ⟨r1, r2, r3⟩ := o2 i (by omega)
            have go : ¬ (s.2.1 (3 * i) = u 0 ∧ s.2.1 (3 * i + 1) = u 1 ∧ s.2.1 (3 * i + 2) = u 2) → wp (self (nI i + 1)) w' (fun a w' => wp (gd (a = 0 ∨ a = 1) (rt a)) w' (Res9 n B p s w)) := fun hn => by
              rw [ad1]
              refine hs (s.1 - (i + 1)) _ _ (by omega) ⟨i + 1, by omega, rfl, rfl, fun j hj => ?_, rfl⟩
              by_cases e : j = i
              · rw [e]; exact hn
              · exact i3 j (by omega)
            rw [if_neg (nI_ge (by omega) (by omega)), wp_nm, mu3, show 48 + nI (3 * i) = nI (48 + 3 * i) from nI_add 48 _, wp_aIn (by omega) (by omega), y1, a0, v0]
            by_cases e1 : s.2.1 (3 * i) = u 0
            · rw [if_pos (by rw [e1]), ad1, wp_aIn (by omega) (by omega), y2, a1, v1]
              by_cases e2 : s.2.1 (3 * i + 1) = u 1
              · rw [if_pos (by rw [e2]), ad2, wp_aIn (by omega) (by omega), y3, a2, v2]
                by_cases e3 : s.2.1 (3 * i + 2) = u 2
                · rw [if_pos (by rw [e3])]
                  exact ref (fun z => z.2.2.2.2 i (by omega) ⟨e1, e2, e3⟩)
                · rw [if_neg (fun z => e3 ((nI_eq (by omega) (by omega)).mp z))]
                  exact go (fun z => e3 z.2.2)
              · rw [if_neg (fun z => e2 ((nI_eq (by omega) (by omega)).mp z))]
                exact go (fun z => e2 z.2.1)
            · rw [if_neg (fun z => e1 ((nI_eq (by omega) (by omega)).mp z))]
              exact go (fun z => e1 z.1)
        · rw [if_neg k4, if_pos rfl]
          exact ref (by omega)
      · rw [if_neg k2, if_pos rfl]
        exact ref (by omega)
  rw [if_neg (ne_l 119 c3 (by omega) (by omega)), wp_gd, wp_rt]
  refine ⟨by decide, f1, Or.inl ⟨rfl, ?_⟩⟩
  unfold itm
  rw [if_neg c1, if_neg c2, if_neg c3]
end ITEM9
