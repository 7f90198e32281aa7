/-! THE COURSE, in the reference -/
section LAY9
variable {w : Wd}
theorem RLay.len {L : List (Nat × Bool)} (h : RLay L w) : gi w 161 19 = nI L.length := h.1
theorem wp_sayPlace {L : List (Nat × Bool)} {p : Nat} (h : RLay L w) (hl : L.length < 168) (g : Bool) (hg : gi w 161 23 = nI (b2 g)) (h0 : g = false → 0 < L.length) : wp (f_X9_sayPlace (nI p)) w (fun _ w' => RLay (L ++ [(p, g)]) w' ∧ gi w' 161 23 = 0 ∧ Fr c9 w w') := by
  unfold f_X9_sayPlace f_X9_sayPlace_31 f_X9_sayPlace_72
  rw [wp_rI, h.1, wp_rI, hg]
  cases g
  · have hn := h0 rfl
    obtain ⟨n, hn⟩ : ∃ n, L.length = n + 1 := ⟨L.length - 1, by omega⟩
    have hh := h.2
    rw [hn] at hh hl ⊢
    obtain ⟨o1, -, -⟩ := hh n (by omega)
    rw [if_pos (show nI (b2 false) = 0 from rfl), wp_rI, h.1, hn, sb1, wp_aIn (by omega) (by omega), o1, wp_sIn (by omega) (by omega), wp_rI, gi_si_n (by omega), h.1, hn, wp_sIn (by omega) (by omega), wp_rI, gi_si_n (by omega), gi_si_n (by omega), h.1, hn, wp_sIn (by omega) (by omega), wp_rI, gi_si_n (by omega), gi_si_n (by omega), gi_si_n (by omega), hg, if_pos (show nI (b2 false) = 0 from rfl), wp_rI, gi_si_n (by omega), gi_si_n (by omega), gi_si_n (by omega), h.1, hn, sb1, wp_sIn (by omega) (by omega), wp_wI, wp_rI, gi_si_n (by omega), gi_si_n (by omega), gi_si_n (by omega), gi_si_n (by omega), gi_si_n (by omega), h.1, hn, wp_wI, ad1, wp_rt]
    refine ⟨⟨?_, fun i hi => ?_⟩, ?_, ?_⟩
    · rw [gi_si_s, List.length_append, hn]; rfl
    · rw [List.length_append, hn] at hi
      have hi : i < n + 1 + 1 := hi
      by_cases e : i = n + 1
      · subst e
        have hb := bf_eq (L := L) (x := (p, false))
        have ho := own_eq (L := L) (x := (p, false))
        have ha := af_eq (L := L) (x := (p, false))
        rw [hn] at hb ho ha
        rw [ho, hb, ha, if_neg (by simp)]
        refine ⟨?_, ?_, ?_⟩
        · rw [gi_si_n (by omega), gi_si_n (by omega), gi_si_n (by omega), gi_si_n (by omega), gi_si_s]
        · rw [gi_si_n (by omega), gi_si_n (by omega), gi_si_n (by omega), gi_si_n (by omega), gi_si_n (by omega), gi_si_s]; rfl
        · rw [gi_si_n (by omega), gi_si_n (by omega), gi_si_n (by omega), gi_si_s]; rfl
      · obtain ⟨q1, q2, q3⟩ := hh i (by omega)
        rw [own_lt (by omega), bf_lt (by omega)]
        refine ⟨?_, ?_, ?_⟩
        · rw [gi_si_n (by omega), gi_si_n (by omega), gi_si_n (by omega), gi_si_n (by omega), gi_si_n (by omega), gi_si_n (by omega)]; exact q1
        · rw [gi_si_n (by omega), gi_si_n (by omega), gi_si_n (by omega), gi_si_n (by omega), gi_si_n (by omega), gi_si_n (by omega)]; exact q2
        · by_cases e2 : i = n
          · subst e2
            rw [af_pre (by omega), gi_si_n (by omega), gi_si_n (by omega), gi_si_s, if_neg (by simp)]; rfl
          · rw [af_lt (by omega), gi_si_n (by omega), gi_si_n (by omega), gi_si_n (by omega), gi_si_n (by omega), gi_si_n (by omega), gi_si_n (by omega)]; exact q3
    · rw [gi_si_n (by omega), gi_si_s]
    · exact (((((Fr.rf.si (by unfold c9; omega)).si (by unfold c9; omega)).si (by unfold c9; omega)).si (by unfold c9; omega)).si (by unfold c9; omega)).si (by unfold c9; omega)
  · have hh := h.2
    rw [if_neg (by decide), wp_sIn (by omega) (by omega), wp_rI, gi_si_n (by omega), h.1, wp_sIn (by omega) (by omega), wp_rI, gi_si_n (by omega), gi_si_n (by omega), h.1, wp_sIn (by omega) (by omega), wp_rI, gi_si_n (by omega), gi_si_n (by omega), gi_si_n (by omega), hg, if_neg (by decide), wp_wI, wp_rI, gi_si_n (by omega), gi_si_n (by omega), gi_si_n (by omega), gi_si_n (by omega), h.1, wp_wI, ad1, wp_rt]
    refine ⟨⟨?_, fun i hi => ?_⟩, ?_, ?_⟩
    · rw [gi_si_s, List.length_append]; rfl
    · rw [List.length_append] at hi
      have hi : i < L.length + 1 := hi
      by_cases e : i = L.length
      · subst e
        rw [own_eq, bf_eq, af_eq, if_pos (Or.inr rfl)]
        refine ⟨?_, ?_, ?_⟩
        · rw [gi_si_n (by omega), gi_si_n (by omega), gi_si_n (by omega), gi_si_s]
        · rw [gi_si_n (by omega), gi_si_n (by omega), gi_si_n (by omega), gi_si_n (by omega), gi_si_s]; rfl
        · rw [gi_si_n (by omega), gi_si_n (by omega), gi_si_s]; rfl
      · obtain ⟨q1, q2, q3⟩ := hh i (by omega)
        rw [own_lt (by omega), bf_lt (by omega)]
        refine ⟨?_, ?_, ?_⟩
        · rw [gi_si_n (by omega), gi_si_n (by omega), gi_si_n (by omega), gi_si_n (by omega), gi_si_n (by omega)]; exact q1
        · rw [gi_si_n (by omega), gi_si_n (by omega), gi_si_n (by omega), gi_si_n (by omega), gi_si_n (by omega)]; exact q2
        · rw [gi_si_n (by omega), gi_si_n (by omega), gi_si_n (by omega), gi_si_n (by omega), gi_si_n (by omega), q3]
          by_cases e2 : i + 1 = L.length
          · rw [af_pre e2, af_end e2, if_pos rfl]
          · rw [af_lt (by omega)]
    · rw [gi_si_n (by omega), gi_si_s]
    · exact ((((Fr.rf.si (by unfold c9; omega)).si (by unfold c9; omega)).si (by unfold c9; omega)).si (by unfold c9; omega)).si (by unfold c9; omega)
/-- a place laid first, and one laid behind it -/
def Ext (L L' : List (Nat × Bool)) (w w' : Wd) : Prop := RLay (L ++ L') w' ∧ gi w' 161 23 = 0 ∧ Fr c9 w w'
theorem wp_sp1 {L L' : List (Nat × Bool)} {p : Nat} {w1 : Wd} (h : Ext L L' w w1) (hl : L.length + L'.length < 168) (h0 : 0 < L'.length) : wp (f_X9_sayPlace (nI p)) w1 (fun _ w' => Ext L (L' ++ [(p, false)]) w w') := by
  obtain ⟨h1, h2, h3⟩ := h
  refine wp_mono (wp_sayPlace h1 (by rw [List.length_append]; omega) false h2 (fun _ => by rw [List.length_append]; omega)) (fun _ w' h => ?_)
  rw [List.append_assoc] at h
  exact ⟨h.1, h.2.1, h3.tr h.2.2⟩
theorem wp_spair {L L' : List (Nat × Bool)} {p : Nat} {w1 : Wd} (h : Ext L L' w w1) (hl : L.length + L'.length + 1 < 168) (h0 : 0 < L'.length) : wp (f_X9_sayPair (nI p)) w1 (fun _ w' => Ext L (L' ++ [(p, false), (p + 1, false)]) w w') := by
  unfold f_X9_sayPair
  rw [wp_bnd]
  refine wp_mono (wp_sp1 h (by omega) h0) (fun _ w2 h2 => ?_)
  rw [wp_bnd, ad1]
  refine wp_mono (wp_sp1 h2 (by rw [List.length_append]; show _ + (_ + 1) < _; omega) (by rw [List.length_append]; omega)) (fun _ w3 h3 => ?_)
  rw [wp_rt]
  rw [List.append_assoc] at h3
  exact h3
theorem wp_sback {L L' : List (Nat × Bool)} {p : Nat} {w1 : Wd} (h : Ext L L' w w1) (hl : L.length + L'.length + 1 < 168) (h0 : 0 < L'.length) : wp (f_X9_sayBack (nI p)) w1 (fun _ w' => Ext L (L' ++ [(p + 1, false), (p, false)]) w w') := by
  unfold f_X9_sayBack
  rw [wp_bnd, ad1]
  refine wp_mono (wp_sp1 h (by omega) h0) (fun _ w2 h2 => ?_)
  rw [wp_bnd]
  refine wp_mono (wp_sp1 h2 (by rw [List.length_append]; show _ + (_ + 1) < _; omega) (by rw [List.length_append]; omega)) (fun _ w3 h3 => ?_)
  rw [wp_rt]
  rw [List.append_assoc] at h3
  exact h3
theorem wp_sfirst {L : List (Nat × Bool)} {p : Nat} (h : RLay L w) (hl : L.length < 168) (g : Bool) (hg : gi w 161 23 = nI (b2 g)) (h0 : g = false → 0 < L.length) : wp (f_X9_sayPlace (nI p)) w (fun _ w' => Ext L [(p, g)] w w') := wp_sayPlace h hl g hg h0
theorem wp_spair0 {L : List (Nat × Bool)} {p : Nat} (h : RLay L w) (hl : L.length + 1 < 168) (hg : gi w 161 23 = 1) : wp (f_X9_sayPair (nI p)) w (fun _ w' => Ext L [(p, true), (p + 1, false)] w w') := by
  unfold f_X9_sayPair
  rw [wp_bnd]
  refine wp_mono (wp_sfirst h (by omega) true hg (fun q => by cases q)) (fun _ w2 h2 => ?_)
  rw [wp_bnd, ad1]
  refine wp_mono (wp_sp1 h2 (by show _ + 1 < _; omega) (by show 0 < 1; omega)) (fun _ w3 h3 => ?_)
  rw [wp_rt]
  exact h3
theorem wp_braid {L : List (Nat × Bool)} {p : Nat} (h : RLay L w) (hl : L.length + 5 < 168) (hg : gi w 161 23 = 1) : wp (f_X9_braid (nI p)) w (fun _ w' => Ext L [(p, true), (p + 1, false), (p + 1, false), (p, false), (p, false), (p + 1, false)] w w') := by
  unfold f_X9_braid
  rw [wp_bnd]
  refine wp_mono (wp_spair0 h (by omega) hg) (fun _ w2 h2 => ?_)
  rw [wp_bnd]
  refine wp_mono (wp_sback h2 (by show _ + 2 + 1 < _; omega) (by show 0 < 2; omega)) (fun _ w3 h3 => ?_)
  rw [wp_bnd]
  refine wp_mono (wp_spair h3 (by show _ + 4 + 1 < _; omega) (by show 0 < 4; omega)) (fun _ w4 h4 => ?_)
  rw [wp_rt]
  exact h4
/-- what one turn of the reference lays -/
def stp (y m s : Nat) : List (Nat × Bool) :=
  if y < 2 ∨ m = 1 then [(s, decide (y ≠ 0 ∨ s = 0))]
  else if y = 2 then (if s = m - 1 then [] else [(s, true), (s + 1, false)])
  else if y = 3 then (if s = m - 1 then [] else [(s, true), (s + 1, false), (s + 1, false), (s, false), (s, false), (s + 1, false)])
  else if s = m - 2 then [(s, true), (s + 1, false), (s + 1, false), (s, false), (s, false), (s + 1, false)]
  else if m - 2 ≤ s then [] else [(s, true), (s + 1, false), (s + 1, false), (s, false), (s, false), (s + 1, false), (s + 2, false), (s + 2, false), (s + 1, false), (s, false), (s, false), (s + 1, false), (s + 2, false)]
theorem CL_ref : ∀ y, y < 5 → ∀ m, m < 9 → 0 < m → CL y m = (List.range m).flatMap (stp y m) := by decide +kernel
theorem CL_part : ∀ y, y < 5 → ∀ m, m < 9 → 0 < m → ∀ s, s < 9 → s ≤ m → ((List.range s).flatMap (stp y m)).length ≤ (CL y m).length := by decide +kernel
theorem stp_pos : ∀ m, m < 9 → ∀ s, s < 9 → 0 < s → s < m → 0 < ((List.range s).flatMap (stp 0 m)).length := by decide +kernel
theorem fm_succ (f : Nat → List (Nat × Bool)) (s : Nat) : (List.range (s + 1)).flatMap f = (List.range s).flatMap f ++ f s := by
  rw [List.range_succ, List.flatMap_append]
  simp
theorem wp_layWay {L : List (Nat × Bool)} {y m : Nat} (hy : y < 5) (hm : m < 9) (h0 : 0 < m) (h : RLay L w) (hl : L.length + (CL y m).length ≤ 168) : wp (f_X9_layWay (nI y) (nI m)) w (fun _ w' => RLay (L ++ CL y m) w' ∧ Fr c9 w w') := by
  unfold f_X9_layWay
  refine wp_fix1 (fun n x w' => ∃ s, s ≤ m ∧ n = m - s ∧ x = nI s ∧ RLay (L ++ (List.range s).flatMap (stp y m)) w' ∧ Fr c9 w w') (fun n x w' self hI hs => ?_) FU m 0 w (by have := FU_big; omega) ⟨0, by omega, by omega, rfl, by show RLay (L ++ []) w; rw [List.append_nil]; exact h, Fr.rf⟩
  obtain ⟨s, s1, s2, rfl, s3, s4⟩ := hI
  unfold f_X9_layWay_2
  by_cases hsm : m ≤ s
  · rw [if_pos (nI_le hsm (by omega)), wp_rt, CL_ref y hy m hm h0]
    have e : s = m := by omega
    subst e
    exact ⟨s3, s4⟩
  · rw [if_neg (nI_ge (by omega) (by omega))]
    have cap : (L ++ (List.range s).flatMap (stp y m)).length + (stp y m s).length ≤ 168 := by
      have := CL_part y hy m hm h0 (s + 1) (by omega) (by omega)
      rw [fm_succ, List.length_append] at this
      rw [List.length_append]
      omega
    generalize hLL : L ++ (List.range s).flatMap (stp y m) = LL at s3 cap
    have fin : ∀ {w1 w2 : Wd}, Fr c9 w w1 → Ext LL (stp y m s) w1 w2 → wp (f_X9_layWay_162 self (nI y) (nI m) (nI s)) w2 (fun _ w' => RLay (L ++ CL y m) w' ∧ Fr c9 w w') := by
      intro w1 w2 f1 e1
      unfold f_X9_layWay_162
      rw [ad1]
      refine hs (m - (s + 1)) _ _ (by omega) ⟨s + 1, by omega, rfl, rfl, ?_, f1.tr e1.2.2⟩
      rw [fm_succ, ← List.append_assoc, hLL]
      exact e1.1
    have fin0 : ∀ {w1 : Wd}, Fr c9 w w1 → RLay LL w1 → stp y m s = [] → wp (f_X9_layWay_162 self (nI y) (nI m) (nI s)) w1 (fun _ w' => RLay (L ++ CL y m) w' ∧ Fr c9 w w') := by
      intro w1 f1 e1 e2
      unfold f_X9_layWay_162
      rw [ad1]
      refine hs (m - (s + 1)) _ _ (by omega) ⟨s + 1, by omega, rfl, rfl, ?_, f1⟩
      rw [fm_succ, ← List.append_assoc, hLL, e2, List.append_nil]
      exact e1
    have sm1 : nI m - 1 = nI (m - 1) := pk_sub (b := 1) (by omega)
    have body : ∀ x4 : Int32, ((x4 = 1 ∧ s = m - 1) ∨ (x4 = 0 ∧ s ≠ m - 1)) → wp (f_X9_layWay_19 self (nI y) (nI m) (nI s) x4) w' (fun _ w' => RLay (L ++ CL y m) w' ∧ Fr c9 w w') := by
      intro x4 hx4
      have b35 : ∀ g : Bool, g = decide (y ≠ 0 ∨ s = 0) → wp (f_X9_layWay_35 self (nI y) (nI m) (nI s) x4 (nI (b2 g))) w' (fun _ w' => RLay (L ++ CL y m) w' ∧ Fr c9 w w') := by
        intro g hg
        unfold f_X9_layWay_35
        rw [wp_gd]
        refine ⟨by cases g; (· exact Or.inl rfl); (· exact Or.inr rfl), ?_⟩
        rw [wp_wI]
        generalize hw1 : si w' 161 23 (nI (b2 g)) = w1
        have f1 : Fr c9 w w1 := by rw [← hw1]; exact s4.si (by unfold c9; omega)
        have r1 : RLay LL w1 := by
          rw [← hw1]
          refine ⟨?_, fun i hi => ?_⟩
          · rw [gi_si_n (by omega)]; exact s3.1
          · rw [gi_si_n (by omega), gi_si_n (by omega), gi_si_n (by omega)]; exact s3.2 i hi
        have g1 : gi w1 161 23 = nI (b2 g) := by rw [← hw1, gi_si_s]
        have one : (y < 2 ∨ m = 1) → wp (f_X9_layWay_48 self (nI y) (nI m) (nI s)) w1 (fun _ w' => RLay (L ++ CL y m) w' ∧ Fr c9 w w') := by
          intro h1
          have es : stp y m s = [(s, g)] := by unfold stp; rw [if_pos h1, hg]
          rw [es] at cap
          have cap : LL.length + 1 ≤ 168 := cap
          unfold f_X9_layWay_48
          rw [wp_bnd]
          refine wp_mono (wp_sfirst r1 (by omega) g g1 (fun q => ?_)) (fun _ w2 h2 => fin f1 (by rw [es]; exact h2))
          rw [q] at hg
          have : ¬ (y ≠ 0 ∨ s = 0) := by simpa using hg.symm
          have y0 : y = 0 := by omega
          subst y0
          rw [← hLL, List.length_append]
          have := stp_pos m hm s (by omega) (by omega) (by omega)
          omega
        by_cases y2 : y < 2
        · rw [if_pos (lt_l 2 y2 (by omega))]
          exact one (Or.inl y2)
        · rw [if_neg (nlt_l 2 (by omega) (by omega))]
          by_cases m1 : m = 1
          · rw [if_pos (eq_l 1 m1)]
            exact one (Or.inr m1)
          · rw [if_neg (ne_l 1 m1 (by omega) (by omega))]
            have gt : g = true := by rw [hg]; simp; omega
            rw [gt] at g1
            unfold stp at fin fin0 cap
            rw [if_neg (by omega)] at fin fin0 cap
            unfold f_X9_layWay_74 f_X9_layWay_84 f_X9_layWay_104 f_X9_layWay_96
            by_cases y2 : y = 2
            · rw [if_pos (eq_l 2 y2)]
              rw [if_pos y2] at fin fin0 cap
              rcases hx4 with ⟨rfl, hx⟩ | ⟨rfl, hx⟩
              · rw [if_neg (by decide), if_neg (ne_l 3 (by omega) (by omega) (by omega)), if_neg (ne_l 4 (by omega) (by omega) (by omega)), if_neg (ne_l 4 (by omega) (by omega) (by omega))]
                exact fin0 f1 r1 (if_pos hx)
              · rw [if_pos rfl, wp_bnd]
                rw [if_neg hx] at fin cap
                have cap : LL.length + 2 ≤ 168 := cap
                exact wp_mono (wp_spair0 r1 (by omega) g1) (fun _ w2 h2 => fin f1 h2)
            · rw [if_neg (ne_l 2 y2 (by omega) (by omega))]
              rw [if_neg y2] at fin fin0 cap
              by_cases y3 : y = 3
              · rw [if_pos (eq_l 3 y3)]
                rw [if_pos y3] at fin fin0 cap
                rcases hx4 with ⟨rfl, hx⟩ | ⟨rfl, hx⟩
                · rw [if_neg (by decide), if_neg (ne_l 4 (by omega) (by omega) (by omega)), if_neg (ne_l 4 (by omega) (by omega) (by omega))]
                  exact fin0 f1 r1 (if_pos hx)
                · rw [if_pos rfl, wp_bnd]
                  rw [if_neg hx] at fin cap
                  have cap : LL.length + 6 ≤ 168 := cap
                  exact wp_mono (wp_braid r1 (by omega) g1) (fun _ w2 h2 => fin f1 h2)
              · rw [if_neg (ne_l 3 y3 (by omega) (by omega))]
                rw [if_neg y3] at fin fin0 cap
                have sm2 : nI m - 2 = nI (m - 2) := pk_sub (b := 2) (by omega)
                rw [if_pos (eq_l 4 (by omega)), if_pos (eq_l 4 (by omega)), sm2]
                by_cases h2 : s = m - 2
                · rw [if_pos (by rw [h2]), wp_bnd]
                  rw [if_pos h2] at fin cap
                  have cap : LL.length + 6 ≤ 168 := cap
                  exact wp_mono (wp_braid r1 (by omega) g1) (fun _ w2 h2 => fin f1 h2)
                · rw [if_neg (fun e => h2 ((nI_eq (by omega) (by omega)).mp e))]
                  rw [if_neg h2] at fin fin0 cap
                  by_cases h3 : m - 2 ≤ s
                  · rw [if_pos (nI_le h3 (by omega))]
                    exact fin0 f1 r1 (if_pos h3)
                  · rw [if_neg (nI_ge (by omega) (by omega)), wp_bnd]
                    rw [if_neg h3] at fin cap
                    have cap : LL.length + 13 ≤ 168 := cap
                    refine wp_mono (wp_spair0 r1 (by omega) g1) (fun _ w2 e2 => ?_)
                    rw [wp_bnd]
                    refine wp_mono (wp_sback e2 (by show _ + 2 + 1 < _; omega) (by show 0 < 2; omega)) (fun _ w3 e3 => ?_)
                    rw [wp_bnd]
                    refine wp_mono (wp_spair e3 (by show _ + 4 + 1 < _; omega) (by show 0 < 4; omega)) (fun _ w4 e4 => ?_)
                    rw [wp_bnd, ad2]
                    refine wp_mono (wp_sp1 e4 (by show _ + 6 < _; omega) (by show 0 < 6; omega)) (fun _ w5 e5 => ?_)
                    rw [wp_bnd]
                    refine wp_mono (wp_sp1 e5 (by show _ + 7 < _; omega) (by show 0 < 7; omega)) (fun _ w6 e6 => ?_)
                    rw [wp_bnd]
                    refine wp_mono (wp_sback e6 (by show _ + 8 + 1 < _; omega) (by show 0 < 8; omega)) (fun _ w7 e7 => ?_)
                    rw [wp_bnd]
                    refine wp_mono (wp_spair e7 (by show _ + 10 + 1 < _; omega) (by show 0 < 10; omega)) (fun _ w8 e8 => ?_)
                    rw [wp_bnd]
                    refine wp_mono (wp_sp1 e8 (by show _ + 12 < _; omega) (by show 0 < 12; omega)) (fun _ w9 e9 => ?_)
                    exact fin f1 e9
      unfold f_X9_layWay_19 f_X9_layWay_30
      by_cases y0 : y = 0
      · rw [if_pos (eq_l 0 y0)]
        by_cases z0 : s = 0
        · rw [if_pos (eq_l 0 z0)]
          exact b35 true (by simp [z0])
        · rw [if_neg (ne_l 0 z0 (by omega) (by omega))]
          exact b35 false (by simp [z0, y0])
      · rw [if_neg (ne_l 0 y0 (by omega) (by omega))]
        exact b35 true (by simp [y0])
    rw [sm1]
    by_cases hl1 : s = m - 1
    · rw [if_pos (by rw [hl1])]
      exact body 1 (Or.inl ⟨rfl, hl1⟩)
    · rw [if_neg (fun e => hl1 ((nI_eq (by omega) (by omega)).mp e))]
      exact body 0 (Or.inr ⟨rfl, hl1⟩)
end LAY9
