/-! since -/
section SINCE
variable {w : Wd}
theorem tb_line {n : Nat} (n4 : ∀ h, h < n → gi w 174 (4 * h + 1) = nI 0 - 1 ∧ hln w h = 2 ^ h ∨ ∃ g, g < h ∧ gi w 174 (4 * h + 1) = nI g ∧ hln w g < 2 ^ h ∧ hln w h = 2 ^ h + hln w g) (hn : n ≤ 16) {g : Nat} (hg : g < n) : ∀ h, h < n → Rd (f_X9_isFrom (nI h) (nI g)) w (if (hln w h).testBit g then 1 else 0) := by
  intro h hh
  unfold Rd f_X9_isFrom
  refine wp_fix1 (fun m x w' => (∃ k, m = k + 1 ∧ k < n ∧ x = nI k ∧ ((hln w h).testBit g = (hln w k).testBit g) ∧ w' = w) ∨ (m = 0 ∧ x = nI 0 - 1 ∧ (hln w h).testBit g = false ∧ w' = w)) (fun m x w' self hI hs => ?_) FU (h + 1) _ w (by have := FU_big; omega) (Or.inl ⟨h, rfl, hh, rfl, rfl, rfl⟩)
  unfold f_X9_isFrom_2 f_X9_isFrom_25 f_X9_isFrom_35
  rcases hI with ⟨k, rfl, hk, rfl, e, rfl⟩ | ⟨rfl, rfl, e, rfl⟩
  · rw [if_neg (nI_pos (by omega))]
    by_cases hkg : k = g
    · subst hkg
      have tb : (hln w' k).testBit k = true := by
        rcases n4 k hk with ⟨-, f⟩ | ⟨g', f1, -, f2, f3⟩
        · rw [f, Nat.testBit_two_pow_self]
        · rw [f3, Nat.testBit_two_pow_add_eq, Nat.testBit_lt_two_pow f2]; rfl
      rw [if_pos rfl, if_pos rfl, wp_gd, wp_rt, e, tb]
      exact ⟨by decide, rfl, rfl⟩
    · rw [if_neg (fun q => hkg ((nI_eq (by omega) (by omega)).mp q)), mu4, ad1, wp_aIn (by omega) (by omega)]
      rcases n4 k hk with ⟨f0, f⟩ | ⟨g', f1, f0, f2, f3⟩
      · rw [f0]
        refine hs 0 _ _ (by omega) (Or.inr ⟨rfl, rfl, ?_, rfl⟩)
        rw [e, f, Nat.testBit_two_pow_of_ne hkg]
      · rw [f0]
        refine hs (g' + 1) _ _ (by omega) (Or.inl ⟨g', rfl, by omega, rfl, ?_, rfl⟩)
        rw [e, f3]
        by_cases hlt : g < k
        · rw [Nat.testBit_two_pow_add_gt hlt]
        · have p1 : 2 ^ k < 2 ^ g := Nat.pow_lt_pow_right (by omega) (by omega)
          have p2 : 2 ^ (k + 1) ≤ 2 ^ g := Nat.pow_le_pow_right (by omega) (by omega)
          rw [Nat.pow_succ] at p2
          rw [Nat.testBit_lt_two_pow (by omega), Nat.testBit_lt_two_pow (by omega)]
  · rw [if_pos m1_lt, if_neg (fun q => by
      have := m1_lt
      rw [q] at this
      exact nI_pos (by omega) this), wp_gd, wp_rt, e]
    exact ⟨by decide, rfl, rfl⟩
/-- the latest year of those with P -/
def mxy (w : Wd) (P : Nat → Prop) [DecidablePred P] : Nat → Int32
  | 0 => -4
  | h + 1 => if P h then (if mxy w P h < nI (hy w h) then nI (hy w h) else mxy w P h) else mxy w P h
theorem mxy_congr {P P' : Nat → Prop} [DecidablePred P] [DecidablePred P'] : ∀ n, (∀ i, i < n → (P i ↔ P' i)) → mxy w P n = mxy w P' n
  | 0, _ => rfl
  | n + 1, e => by
    show (if P n then _ else _) = (if P' n then _ else _)
    rw [mxy_congr n (fun i hi => e i (by omega))]
    by_cases h : P n
    · rw [if_pos h, if_pos ((e n (by omega)).mp h)]
    · rw [if_neg h, if_neg (fun q => h ((e n (by omega)).mpr q))]
theorem mxy_none {P : Nat → Prop} [DecidablePred P] : ∀ n, (∀ i, i < n → ¬ P i) → mxy w P n = -4
  | 0, _ => rfl
  | n + 1, e => by
    show (if P n then _ else _) = _
    rw [if_neg (e n (by omega)), mxy_none n (fun i hi => e i (by omega))]
theorem wp_latest {P : Nat → Prop} [DecidablePred P] {A n : Nat} (hn : n ≤ 16) (n2 : gi w 154 0 = nI n) (hA : A < 2 ^ 31) (hP : ∀ h, h < n → (P h ↔ A.testBit h = true)) (hg : ∀ h, h < n → gi w 156 h = nI (hy w h)) : Rd (fix2 FU (f_X2_latestCommonYear_59 (nI A)) (-4) 0) w (mxy w P n) := by
  refine wp_fix2 (fun m x y w' => ∃ h, h ≤ n ∧ m = n - h ∧ y = nI h ∧ x = mxy w P h ∧ w' = w) (fun m x y w' self hI hs => ?_) FU n _ 0 w (by have := FU_big; omega) ⟨0, by omega, by omega, rfl, rfl, rfl⟩
  obtain ⟨h, h1, h2, rfl, rfl, rfl⟩ := hI
  unfold f_X2_latestCommonYear_59 f_X2_latestCommonYear_90
  rw [wp_rI, n2]
  by_cases hh : n ≤ h
  · rw [if_pos (nI_le hh (by omega)), wp_rt, show h = n by omega]
    exact ⟨rfl, rfl⟩
  · rw [if_neg (nI_ge (by omega) (by omega)), bitx _ (by omega), bt_nI (by omega), ad1]
    by_cases hp : P h
    · rw [(hP h (by omega)).mp hp, if_pos (by rfl), wp_aIn (by omega) (by omega), hg h (by omega), wp_nm]
      exact hs (n - (h + 1)) _ _ _ (by omega) ⟨h + 1, by omega, rfl, rfl, by show _ = (if P h then _ else _); rw [if_pos hp], rfl⟩
    · rw [show A.testBit h = false from by rw [← Bool.not_eq_true]; exact fun q => hp ((hP h (by omega)).mpr q), if_neg (by decide)]
      exact hs (n - (h + 1)) _ _ _ (by omega) ⟨h + 1, by omega, rfl, rfl, by show _ = (if P h then _ else _); rw [if_neg hp], rfl⟩
theorem pr_since (hw : Inv w) (x1 x2 : Int32) : Pair (f_X8_since x1 x2) (f_X9_since x1 x2) w := by
  obtain ⟨t, W, hR, hT, hTo, hJ, hV, hS, hK, hL, hH⟩ := id hw
  obtain ⟨n, n1, n2, n3, n4⟩ := hH.g
  obtain ⟨hW, W1, W2, -⟩ := id hTo
  unfold Pair f_X8_since f_X9_since f_X8_since_23 f_X9_since_15
  rw [wp_bnd]
  rcases ix_cases x1 8 (by omega) with ⟨a, ha, rfl⟩ | h1
  · refine (wp_bel (n := 8) ha (by omega)).mpr ?_
    rw [if_neg (by decide), wp_tongue hR, wp_rI, W1, wp_bnd]
    rcases ix_cases x2 W (by omega) with ⟨b, hb, rfl⟩ | h2
    · refine (wp_bel hb (by omega)).mpr ?_
      let liv : Nat → Prop := fun h => hal w h = 1
      let Has : Nat → Prop := fun h => a < vs w (hv w h) ∧ vw w (hv w h) a = b
      let AH : Nat → Prop := fun m => ∀ h, h < m → liv h → Has h
      let P : Nat → Prop := fun g => (∃ h, h < n ∧ liv h) ∧ ∀ h, h < n → liv h → (hln w h).testBit g = true
      haveI : DecidablePred P := fun g => Classical.propDecidable _
      have tbl : ∀ {g}, g < n → ∀ h, h < n → Rd (f_X9_isFrom (nI h) (nI g)) w (if (hln w h).testBit g then 1 else 0) := fun hg => tb_line (fun h hh => (n4 h hh).2.2.2.2.2.2.2.2.2.2.2) n1 hg
      have hasEq : ∀ h, h < n → Rd (f_X0_has 20 (nI (hv w h)) (nI a) (nI b)) w (if a < vs w (hv w h) ∧ vw w (hv w h) a = b then 1 else 0) := by
        intro h hh
        obtain ⟨g1, g2, g3, g4, g5, g6, g7, g8, g9, -⟩ := n4 h hh
        obtain ⟨s1, s2, s3, s4⟩ := hV.g hW g2
        unfold Rd f_X0_has f_X0_has_26 f_X0_has_27
        rw [wp_aIn (by omega) (by omega), show gi w (20 + 8) (hv w h) = nI (vs w (hv w h)) from s2]
        by_cases hs' : vs w (hv w h) ≤ a
        · rw [if_pos (nI_le hs' (by omega)), wp_gd, wp_rt, if_neg (by omega)]
          exact ⟨by decide, rfl, rfl⟩
        · obtain ⟨y1, y2, y3⟩ := s4 a (by omega)
          rw [if_neg (nI_ge (by omega) (by omega)), wp_gdn g2 (by omega), cl_nI (by omega), wp_aIn (by omega) (by omega), show gi w (20 + 1 + 1 + hv w h) a = nI (vw w (hv w h) a) from y2]
          by_cases hvb : vw w (hv w h) a = b
          · rw [if_pos (by rw [hvb]), wp_gd, wp_rt, if_pos ⟨by omega, hvb⟩]
            exact ⟨by decide, rfl, rfl⟩
          · rw [if_neg (fun e => hvb ((nI_eq (by omega) (by omega)).mp e)), wp_gd, wp_rt, if_neg (fun q => hvb q.2)]
            exact ⟨by decide, rfl, rfl⟩
      have key1 : wp (f_X2_allHave 20 (nI a) (nI b)) w (fun r w' => w' = w ∧ ((r = 1 ∧ AH n) ∨ (r = 0 ∧ ¬ AH n))) := by
        unfold f_X2_allHave
        refine wp_fix1 (fun m y w' => ∃ h, h ≤ n ∧ m = n - h ∧ y = nI h ∧ AH h ∧ w' = w) (fun m y w' self hI hs => ?_) FU n 0 w (by have := FU_big; omega) ⟨0, by omega, by omega, rfl, fun h hh => by omega, rfl⟩
        obtain ⟨h, h1, h2, rfl, h3, rfl⟩ := hI
        unfold f_X2_allHave_3 f_X2_allHave_40
        rw [wp_rI, n2]
        by_cases hh : n ≤ h
        · rw [if_pos (nI_le hh (by omega)), wp_gd, wp_rt]
          have e : h = n := by omega
          subst e
          exact ⟨by decide, rfl, Or.inl ⟨rfl, h3⟩⟩
        · obtain ⟨g1, g2, g3, g4, g5, g6, g7, g8, g9, -⟩ := n4 h (by omega)
          rw [if_neg (nI_ge (by omega) (by omega)), wp_aIn (by omega) (by omega), g8]
          have go : (liv h → Has h) → wp (self (nI h + 1)) w' (fun r w'' => w'' = w' ∧ ((r = 1 ∧ AH n) ∨ (r = 0 ∧ ¬ AH n))) := by
            intro hl
            rw [ad1]
            refine hs (n - (h + 1)) _ _ (by omega) ⟨h + 1, by omega, rfl, rfl, fun i hi hil => ?_, rfl⟩
            by_cases e : i = h
            · rw [e] at hil ⊢; exact hl hil
            · exact h3 i (by omega) hil
          by_cases a1 : hal w' h = 1
          · rw [if_neg (ne_l 0 (by omega) (by omega) (by omega)), wp_aIn (by omega) (by omega), g6, wp_bnd, (hasEq h (by omega)).wp]
            by_cases hh' : a < vs w' (hv w' h) ∧ vw w' (hv w' h) a = b
            · rw [if_pos hh', if_neg (by decide)]
              exact go (fun _ => hh')
            · rw [if_neg hh', if_pos rfl, wp_gd, wp_rt]
              exact ⟨by decide, rfl, Or.inr ⟨rfl, fun q => hh' (q h (by omega) a1)⟩⟩
          · rw [if_pos (eq_l 0 (by omega))]
            exact go (fun q => absurd q a1)
      have key2 : Rd f_X2_latestCommonYear w (mxy w P n) := by
        unfold Rd f_X2_latestCommonYear
        refine wp_fix3 (fun m x f y w' => ∃ h, h ≤ n ∧ m = n - h ∧ y = nI h ∧ ((f = 0 ∧ x = 0 ∧ ∀ i, i < h → ¬ liv i) ∨ (f = 1 ∧ (∃ i, i < h ∧ liv i) ∧ ∃ A, A < 2 ^ 31 ∧ x = nI A ∧ ∀ g, A.testBit g = true ↔ ∀ i, i < h → liv i → (hln w i).testBit g = true)) ∧ w' = w) (fun m x f y w' self hI hs => ?_) FU n _ _ 0 w (by have := FU_big; omega) ⟨0, by omega, by omega, rfl, Or.inl ⟨rfl, rfl, fun i hi => by omega⟩, rfl⟩
        obtain ⟨h, h1, h2, rfl, h3, rfl⟩ := hI
        unfold f_X2_latestCommonYear_6 f_X2_latestCommonYear_44 f_X2_latestCommonYear_47
        rw [wp_rI, n2]
        by_cases hh : n ≤ h
        · have e : h = n := by omega
          subst e
          rw [if_pos (nI_le hh (by omega))]
          rcases h3 with ⟨-, rfl, q⟩ | ⟨-, q, A, q1, rfl, q2⟩
          · refine wp_latest (A := 0) n1 n2 (by omega) (fun g hg => ⟨fun hp => ?_, fun hp => ?_⟩) (fun g hg => (n4 g hg).2.2.2.1)
            · obtain ⟨⟨i, hi, hl⟩, -⟩ := hp
              exact absurd hl (q i hi)
            · simp at hp
          · exact wp_latest n1 n2 q1 (fun g hg => ⟨fun hp => (q2 g).mpr hp.2, fun hp => ⟨q, (q2 g).mp hp⟩⟩) (fun g hg => (n4 g hg).2.2.2.1)
        · obtain ⟨g1, g2, g3, g4, g5, g6, g7, g8, g9, g10, g11, -⟩ := n4 h (by omega)
          have hp : 2 ^ (h + 1) ≤ 2 ^ 17 := Nat.pow_le_pow_right (by omega) (by omega)
          rw [if_neg (nI_ge (by omega) (by omega)), wp_aIn (by omega) (by omega), g8, ad1]
          by_cases a1 : hal w' h = 1
          · rw [if_neg (ne_l 0 (by omega) (by omega) (by omega))]
            rcases h3 with ⟨rfl, rfl, q⟩ | ⟨rfl, ⟨i, i1, i2⟩, A, q1, rfl, q2⟩
            · rw [if_pos rfl, wp_aIn (by omega) (by omega), g10]
              refine hs (n - (h + 1)) _ _ _ _ (by omega) ⟨h + 1, by omega, rfl, rfl, Or.inr ⟨rfl, ⟨h, by omega, a1⟩, _, by omega, rfl, fun g => ⟨fun hg i hi hl => ?_, fun hg => hg h (by omega) a1⟩⟩, rfl⟩
              by_cases e : i = h
              · rw [e]; exact hg
              · exact absurd hl (q i (by omega))
            · rw [if_neg (by decide), wp_aIn (by omega) (by omega), g10, and_nI _ _ q1 (by omega)]
              refine hs (n - (h + 1)) _ _ _ _ (by omega) ⟨h + 1, by omega, rfl, rfl, Or.inr ⟨rfl, ⟨h, by omega, a1⟩, _, Nat.and_lt_two_pow _ (by omega), rfl, fun g => ?_⟩, rfl⟩
              rw [Nat.testBit_and, Bool.and_eq_true, q2 g]
              constructor
              · intro hg i hi hl
                by_cases e : i = h
                · rw [e]; exact hg.2
                · exact hg.1 i (by omega) hl
              · intro hg
                exact ⟨fun i hi hl => hg i (by omega) hl, hg h (by omega) a1⟩
          · rw [if_pos (eq_l 0 (by omega))]
            refine hs (n - (h + 1)) _ _ _ _ (by omega) ⟨h + 1, by omega, rfl, rfl, ?_, rfl⟩
            rcases h3 with ⟨rfl, rfl, q⟩ | ⟨rfl, ⟨i, i1, i2⟩, A, q1, rfl, q2⟩
            · refine Or.inl ⟨rfl, rfl, fun i hi hl => ?_⟩
              by_cases e : i = h
              · rw [e] at hl; exact a1 hl
              · exact q i (by omega) hl
            · refine Or.inr ⟨rfl, ⟨i, by omega, i2⟩, A, q1, rfl, fun g => ?_⟩
              rw [q2 g]
              constructor
              · intro hg i hi hl
                by_cases e : i = h
                · rw [e] at hl; exact absurd hl a1
                · exact hg i (by omega) hl
              · intro hg i hi hl
                exact hg i (by omega) hl
      -- the reference
      have inner : ∀ (s100 : Int32 → Int32 → M Int32) (x3 x4 x5 : Int32) (g : Nat) (Q : Int32 → Wd → Prop), g < n → (∃ h, h < n ∧ liv h) → x3 = mxy w P g → wp (s100 (mxy w P (g + 1)) (nI (g + 1))) w Q → wp (fix2 FU (f_X9_since_125 s100 x3 x4 x5 (nI g)) 1 0) w Q := by
        intro s100 x3 x4 x5 g Q hg hex hx3 hgo
        obtain ⟨k1, k2, k3, k4, k5, -⟩ := n4 g hg
        refine wp_fix2 (fun m f y w' => ∃ h, h ≤ n ∧ m = n - h ∧ y = nI h ∧ ((f = 0 ∧ ¬ P g) ∨ (f = 1 ∧ ∀ i, i < h → liv i → (hln w i).testBit g = true)) ∧ w' = w) (fun m f y w' self hI hs => ?_) FU n _ 0 w (by have := FU_big; omega) ⟨0, by omega, by omega, rfl, Or.inr ⟨rfl, fun i hi => by omega⟩, rfl⟩
        obtain ⟨h, h1, h2, rfl, h3, rfl⟩ := hI
        unfold f_X9_since_125 f_X9_since_202 f_X9_since_203 f_X9_since_163 f_X9_since_159 f_X9_since_164
        rw [wp_rI, n3]
        by_cases hh : n ≤ h
        · rw [if_pos (nI_le hh (by omega)), ad1]
          have e : h = n := by omega
          subst e
          rcases h3 with ⟨rfl, q⟩ | ⟨rfl, q⟩
          · rw [if_pos rfl]
            have : mxy w' P (g + 1) = x3 := by
              show (if P g then _ else _) = _
              rw [if_neg q, hx3]
            rw [this] at hgo
            exact hgo
          · rw [if_neg (by decide), mu4, wp_aIn (by omega) (by omega), k5]
            have : mxy w' P (g + 1) = if x3 < nI (hy w' g) then nI (hy w' g) else x3 := by
              show (if P g then _ else _) = _
              rw [if_pos ⟨hex, q⟩, hx3]
            rw [this] at hgo
            by_cases hlt : x3 < nI (hy w' g)
            · rw [if_pos hlt] at hgo
              rw [if_neg (fun q => by
                have z1 := Int32.lt_iff_toInt_lt.mp hlt
                have z2 := Int32.le_iff_toInt_le.mp q
                omega), wp_aIn (by omega) (by omega), k5]
              exact hgo
            · rw [if_neg hlt] at hgo
              rw [if_pos (Int32.le_iff_toInt_le.mpr (by
                have : ¬ x3.toInt < (nI (hy w' g)).toInt := fun q => hlt (Int32.lt_iff_toInt_lt.mpr q)
                omega))]
              exact hgo
        · obtain ⟨g1, g2, g3, g4, g5, g6, g7, g8, g9, -⟩ := n4 h (by omega)
          rw [if_neg (nI_ge (by omega) (by omega)), ad1]
          rcases h3 with ⟨rfl, q⟩ | ⟨rfl, q⟩
          · rw [if_pos rfl]
            exact hs (n - (h + 1)) _ _ _ (by omega) ⟨h + 1, by omega, rfl, rfl, Or.inl ⟨rfl, q⟩, rfl⟩
          · rw [if_neg (by decide), wp_bnd, wp_isAlive (by omega) g3 g9]
            have good : (liv h → (hln w' h).testBit g = true) → wp (self 1 (nI (h + 1))) w' Q := fun hl =>
              hs (n - (h + 1)) _ _ _ (by omega) ⟨h + 1, by omega, rfl, rfl, Or.inr ⟨rfl, fun i hi hil => by
                by_cases e : i = h
                · rw [e] at hil ⊢; exact hl hil
                · exact q i (by omega) hil⟩, rfl⟩
            by_cases a1 : hal w' h = 1
            · rw [if_neg (ne_l 0 (by omega) (by omega) (by omega)), wp_bnd, (tbl hg h (by omega)).wp]
              cases hb : (hln w' h).testBit g
              · rw [if_pos (by rfl)]
                exact hs (n - (h + 1)) _ _ _ (by omega) ⟨h + 1, by omega, rfl, rfl, Or.inl ⟨rfl, fun hp => by
                  have := hp.2 h (by omega) a1
                  rw [hb] at this
                  cases this⟩, rfl⟩
              · rw [if_neg (by decide)]
                exact good (fun _ => hb)
            · rw [if_pos (eq_l 0 (by omega))]
              exact good (fun q => absurd q a1)
      have outer : ∀ x4 x5 : Int32, ((x4 = 0 ∧ ∀ h, h < n → ¬ liv h) ∨ (x4 = 1 ∧ ∃ h, h < n ∧ liv h)) → ((x5 = 0 ∧ ¬ AH n) ∨ (x5 = 1 ∧ AH n)) → wp (fix2 FU (f_X9_since_100 x4 x5) (-4) 0) w (fun r w' => w' = w ∧ ((¬ AH n ∧ r = -4) ∨ (AH n ∧ r = mxy w P n))) := by
        intro x4 x5 h4 h5
        refine wp_fix2 (fun m x y w' => ∃ h, h ≤ n ∧ m = n - h ∧ y = nI h ∧ x = mxy w P h ∧ (h = 0 ∨ (x4 = 1 ∧ x5 = 1)) ∧ w' = w) (fun m x y w' self hI hs => ?_) FU n _ 0 w (by have := FU_big; omega) ⟨0, by omega, by omega, rfl, rfl, Or.inl rfl, rfl⟩
        obtain ⟨h, h1, h2, rfl, rfl, h3, rfl⟩ := hI
        unfold f_X9_since_100 f_X9_since_210
        rw [wp_rI, n3]
        by_cases hh : n ≤ h
        · have e : h = n := by omega
          subst e
          rw [if_pos (nI_le hh (by omega)), wp_rt]
          refine ⟨rfl, ?_⟩
          rcases h5 with ⟨rfl, q⟩ | ⟨rfl, q⟩
          · rcases h3 with rfl | ⟨-, hc⟩
            · exact absurd (fun i hi => by omega) q
            · exact absurd hc (by decide)
          · exact Or.inr ⟨q, rfl⟩
        · rw [if_neg (nI_ge (by omega) (by omega))]
          rcases h4 with ⟨rfl, q4⟩ | ⟨rfl, q4⟩
          · rw [if_pos rfl, wp_rt]
            refine ⟨rfl, ?_⟩
            have h0 : h = 0 := h3.elim id (fun q => absurd q.1 (by decide))
            subst h0
            rcases h5 with ⟨rfl, q⟩ | ⟨rfl, q⟩
            · exact Or.inl ⟨q, rfl⟩
            · refine Or.inr ⟨q, ?_⟩
              rw [mxy_none n (fun i hi hp => by
                obtain ⟨⟨j, hj, hl⟩, -⟩ := hp
                exact q4 j hj hl)]
              rfl
          · rw [if_neg (by decide)]
            rcases h5 with ⟨rfl, q⟩ | ⟨rfl, q⟩
            · rw [if_pos rfl, wp_rt]
              have h0 : h = 0 := h3.elim id (fun q => absurd q.2 (by decide))
              subst h0
              exact ⟨rfl, Or.inl ⟨q, rfl⟩⟩
            · rw [if_neg (by decide)]
              refine inner _ _ _ _ h _ (by omega) q4 rfl ?_
              exact hs (n - (h + 1)) _ _ _ (by omega) ⟨h + 1, by omega, rfl, rfl, rfl, Or.inr ⟨rfl, rfl⟩, rfl⟩
      have key3 : wp (fix3 FU (f_X9_since_29 (nI a) (nI b) (-4)) 0 1 0) w (fun r w' => w' = w ∧ ((¬ AH n ∧ r = -4) ∨ (AH n ∧ r = mxy w P n))) := by
        refine wp_fix3 (fun m x f y w' => ∃ h, h ≤ n ∧ m = n - h ∧ y = nI h ∧ ((x = 0 ∧ ∀ i, i < h → ¬ liv i) ∨ (x = 1 ∧ ∃ i, i < h ∧ liv i)) ∧ ((f = 0 ∧ ¬ AH h) ∨ (f = 1 ∧ AH h)) ∧ w' = w) (fun m x f y w' self hI hs => ?_) FU n _ _ 0 w (by have := FU_big; omega) ⟨0, by omega, by omega, rfl, Or.inl ⟨rfl, fun i hi => by omega⟩, Or.inr ⟨rfl, fun i hi => by omega⟩, rfl⟩
        obtain ⟨h, h1, h2, rfl, h3, h4, rfl⟩ := hI
        unfold f_X9_since_29 f_X9_since_52
        rw [wp_rI, n3]
        by_cases hh : n ≤ h
        · have e : h = n := by omega
          subst e
          rw [if_pos (nI_le hh (by omega))]
          exact outer x f h3 h4
        · obtain ⟨g1, g2, g3, g4, g5, g6, g7, g8, g9, -⟩ := n4 h (by omega)
          rw [if_neg (nI_ge (by omega) (by omega))]
          have step : ∀ p, ((p = 0 ∧ ∀ i, i < h + 1 → ¬ liv i) ∨ (p = 1 ∧ ∃ i, i < h + 1 ∧ liv i)) → wp (f_X9_since_57 self (nI a) (nI b) (-4) f (nI h) p) w' (fun r w'' => w'' = w' ∧ ((¬ AH n ∧ r = -4) ∨ (AH n ∧ r = mxy w' P n))) := by
            intro p hp
            unfold f_X9_since_57 f_X9_since_88 f_X9_since_84 f_X9_since_89
            rcases h4 with ⟨rfl, q⟩ | ⟨rfl, q⟩
            · rw [if_pos rfl, ad1]
              exact hs (n - (h + 1)) _ _ _ _ (by omega) ⟨h + 1, by omega, rfl, rfl, hp, Or.inl ⟨rfl, fun hA => q (fun i hi => hA i (by omega))⟩, rfl⟩
            · rw [if_neg (by decide), wp_bnd, wp_isAlive (by omega) g3 g9, ad1]
              have good : (liv h → Has h) → wp (self p 1 (nI (h + 1))) w' (fun r w'' => w'' = w' ∧ ((¬ AH n ∧ r = -4) ∨ (AH n ∧ r = mxy w' P n))) := fun hl =>
                hs (n - (h + 1)) _ _ _ _ (by omega) ⟨h + 1, by omega, rfl, rfl, hp, Or.inr ⟨rfl, fun i hi hil => by
                  by_cases e : i = h
                  · rw [e] at hil ⊢; exact hl hil
                  · exact q i (by omega) hil⟩, rfl⟩
              by_cases a1 : hal w' h = 1
              · have bad : ¬ Has h → wp (self p 0 (nI (h + 1))) w' (fun r w'' => w'' = w' ∧ ((¬ AH n ∧ r = -4) ∨ (AH n ∧ r = mxy w' P n))) := fun hl =>
                  hs (n - (h + 1)) _ _ _ _ (by omega) ⟨h + 1, by omega, rfl, rfl, hp, Or.inl ⟨rfl, fun hA => hl (hA h (by omega) a1)⟩, rfl⟩
                rw [if_neg (ne_l 0 (by omega) (by omega) (by omega)), wp_bnd, (rd_wordOf (n := n) hV hW (by omega) ha g2 g7).wp]
                by_cases hs' : a < vs w' (hv w' h)
                · rw [if_pos hs']
                  have z := ((hV.g hW g2).2.2.2 a hs').1
                  by_cases hvb : vw w' (hv w' h) a = b
                  · rw [if_pos (by rw [hvb])]
                    exact good (fun _ => ⟨hs', hvb⟩)
                  · rw [if_neg (fun e => hvb ((nI_eq (by omega) (by omega)).mp e))]
                    exact bad (fun q => hvb q.2)
                · rw [if_neg hs', if_neg (fun e => ne_m4 (by omega) e.symm)]
                  exact bad (fun q => hs' q.1)
              · rw [if_pos (eq_l 0 (by omega))]
                exact good (fun q => absurd q a1)
          rcases h3 with ⟨rfl, q⟩ | ⟨rfl, i, i1, i2⟩
          · rw [if_pos rfl, wp_bnd, wp_isAlive (by omega) g3 g9]
            by_cases a1 : hal w' h = 1
            · rw [if_neg (ne_l 0 (by omega) (by omega) (by omega))]
              exact step 1 (Or.inr ⟨rfl, h, by omega, a1⟩)
            · rw [if_pos (eq_l 0 (by omega))]
              refine step 0 (Or.inl ⟨rfl, fun i hi hl => ?_⟩)
              by_cases e : i = h
              · rw [e] at hl; exact a1 hl
              · exact q i (by omega) hl
          · rw [if_neg (by decide)]
            exact step 1 (Or.inr ⟨rfl, i, by omega, i2⟩)
      rw [if_neg (by decide), wp_bnd]
      refine wp_mono key1 (fun r w' h => ?_)
      obtain ⟨rfl, h⟩ := h
      unfold f_X8_since_53
      have fin : ∀ v, ((¬ AH n ∧ v = -4) ∨ (AH n ∧ v = mxy w' P n)) → wp (bnd (f_X9_isPlace (nI a)) fun v1 => if v1 = 0 then rt (-1) else bnd (f_X9_isWord (nI b)) fun v2 => if v2 = 0 then rt (-1) else fix3 FU (f_X9_since_29 (nI a) (nI b) (-4)) 0 1 0) w' (fun b w2 => b = v ∧ Inv w2) := by
        intro v hv
        rw [wp_bnd, wp_pla ha, if_neg (by decide), wp_bnd, wp_wor W2 hW hb, if_neg (by decide)]
        refine wp_mono key3 (fun r w'' h => ?_)
        obtain ⟨rfl, h⟩ := h
        refine ⟨?_, hw⟩
        rcases h with ⟨h, rfl⟩ | ⟨h, rfl⟩ <;> rcases hv with ⟨h', rfl⟩ | ⟨h', rfl⟩ <;> first | rfl | exact absurd h h' | exact absurd h' h
      rcases h with ⟨rfl, h⟩ | ⟨rfl, h⟩
      · rw [if_neg (by decide), wp_bnd, key2.wp, wp_rt]
        exact fin _ (Or.inr ⟨h, rfl⟩)
      · rw [if_pos rfl, wp_rt]
        exact fin _ (Or.inl ⟨h, rfl⟩)
    · refine (wp_beo h2).mpr ?_
      rw [if_pos rfl, wp_rt, wp_bnd, wp_pla ha, if_neg (by decide), wp_bnd, wp_woro W2 hW h2, if_pos rfl]
      exact wp_rt.mpr ⟨rfl, hw⟩
  · refine (wp_beo (n := 8) h1).mpr ?_
    rw [if_pos rfl, wp_rt, wp_bnd, wp_plao h1, if_pos rfl]
    exact wp_rt.mpr ⟨rfl, hw⟩
end SINCE
