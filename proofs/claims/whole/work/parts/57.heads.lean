/-! head, same, since -/
section HEADS3
variable {w : Wd}
theorem pr_head (hw : Inv w) (x1 x2 x3 : Int32) : Pair (f_X8_head x1 x2 x3) (f_X9_head x1 x2 x3) w := by
  obtain ⟨t, W, hR, hT, hTo, hJ, hV, hS, hK, hL, hH⟩ := id hw
  obtain ⟨n, n1, n2, n3, n4⟩ := id hH
  have ht := hR.1
  unfold Pair f_X8_head f_X9_head f_X8_head_31 f_X9_head_53
  rw [wp_bnd]
  rcases ix_cases x1 3001 (by omega) with ⟨y, hy, rfl⟩ | h1
  · refine (wp_bel (n := 3001) hy (by omega)).mpr ?_
    have hin1 : ∀ {w' : Wd} {Q : Int32 → Wd → Prop}, wp (f_X9_in (nI y).toInt64 0 3000) w' Q ↔ Q 1 w' := wp_in (by rw [i2l_toInt, nI_toInt (by omega)]; exact ⟨by show (0 : Int) ≤ y; omega, by show (y : Int) ≤ 3000; omega⟩)
    rw [if_neg (by decide), wp_bnd]
    rcases ix_cases x3 6 (by omega) with ⟨v, hv, rfl⟩ | h3
    · refine (wp_bel (n := 6) hv (by omega)).mpr ?_
      rw [if_neg (by decide), wp_bnd]
      unfold f_X2_mayTeach f_X2_mayTeach_26 f_X2_mayTeach_30 f_X2_mayTeach_31
      -- what appending does
      have app : ∀ (x2 : Int32) (b l : Nat), b ≤ n → x2 = nI b - 1 → (b = 0 → l = 2 ^ n) → (0 < b → ∃ l', gi w 158 (b - 1) = nI l' ∧ l' < 2 ^ b ∧ l = 2 ^ n + l') → wp (bnd (f_X2_append (nI y) x2 (nI v)) fun v4 => rt v4) w (fun a w1 => (∀ q k, ¬ (q = 154 ∧ k = 0) → ¬ (155 ≤ q ∧ q ≤ 158 ∧ k = n) → gi w1 q k = gi w q k) ∧ wp (f_X9_head_55 (nI y) x2 (nI v)) w1 (fun b w2 => b = a ∧ Inv w2)) := by
        intro x2 b l hb hx2 l0 lp
        unfold f_X2_append f_X2_append_60 f_X9_head_55
        rw [wp_bnd, wp_rI, n2]
        by_cases h16 : n < 16
        · have hp : 2 ^ n ≤ 2 ^ 15 := Nat.pow_le_pow_right (by omega) (by omega)
          have hl : l < 2 ^ (n + 1) := by
            rw [Nat.pow_succ]
            have p0 := Nat.two_pow_pos n
            by_cases b0 : b = 0
            · rw [l0 b0]; omega
            · obtain ⟨l', f1, f2, f3⟩ := lp (by omega)
              have hp2 : 2 ^ b ≤ 2 ^ n := Nat.pow_le_pow_right (by omega) hb
              omega
          have hl2 : l < 2 ^ 16 := Nat.lt_of_lt_of_le hl (Nat.pow_le_pow_right (by omega) (by omega))
          have line : ∀ {Q : Int32 → Wd → Prop} {K : Int32 → M Int32} {w1 : Wd}, (∀ j, j < 16 → gi w1 158 j = gi w 158 j) → wp (K (nI l)) w1 Q → wp (if 0 ≤ x2 then aI 158 16 x2 fun v6 => K ((1 <<< (nI n &&& 31)) ||| v6) else K ((1 <<< (nI n &&& 31)) ||| 0)) w1 Q := by
            intro Q K w1 he hk
            rw [shl1 (by omega)]
            by_cases b0 : b = 0
            · rw [hx2, b0, if_neg (by decide), Int32.or_zero, ← l0 b0]
              exact hk
            · obtain ⟨l', f1, f2, f3⟩ := lp (by omega)
              have hp2 : 2 ^ b ≤ 2 ^ n := Nat.pow_le_pow_right (by omega) hb
              have orp := Nat.two_pow_add_eq_or_of_lt (i := n) (b := l') (by omega) 1
              rw [Nat.mul_one] at orp
              rw [hx2, show b = (b - 1) + 1 by omega, sb1, if_pos (ge_l 0 (by omega) (by omega)), wp_aIn (by omega) (by omega), he _ (by omega), f1, or_nI _ _ (by omega) (by omega), ← orp, show 2 ^ n + l' = l by omega]
              exact hk
          rw [if_pos (lt_l 16 h16 (by omega)), wp_rI, n2, wp_sIn (by omega) (by omega), wp_rI, gi_si_n (by omega), n2, wp_sIn (by omega) (by omega), wp_rI, wp_rI, gi_si_n (by omega), gi_si_n (by omega), n2]
          refine line (K := fun z => sI 158 16 (nI n) z (rI 154 0 (fun v1 => sI 155 16 v1 (vp_nar .boolean 1) (rI 154 0 (fun v2 => wI 154 0 (v2 + 1) (rI 154 0 (fun v3 => rt (v3 - 1)))))))) (fun j hj => by rw [gi_si_n (by omega), gi_si_n (by omega)]) ?_
          rw [wp_sIn (by omega) (by omega), wp_rI, gi_si_n (by omega), gi_si_n (by omega), gi_si_n (by omega), n2, wp_sIn (by omega) (by omega), wp_rI, gi_si_n (by omega), gi_si_n (by omega), gi_si_n (by omega), gi_si_n (by omega), n2, wp_wI, ad1, wp_rI, gi_si_s, sb1, wp_rt, wp_rt, narZ1]
          refine ⟨fun q k y1 y2 => by rw [gi_si_n (by omega), gi_si_n (by omega), gi_si_n (by omega), gi_si_n (by omega), gi_si_n (by omega)], ?_⟩
          generalize hw1 : si (si (si (si (si w 156 n (nI y)) 157 n (nI v)) 158 n (nI l)) 155 n 1) 154 0 (nI (n + 1)) = w1
          have g15 : gi w1 161 15 = nI n := by rw [← hw1, gi_si_n (by omega), gi_si_n (by omega), gi_si_n (by omega), gi_si_n (by omega), gi_si_n (by omega)]; exact n3
          rw [wp_rI, g15, if_neg (ne_l 16 (by omega) (by omega) (by omega)), wp_rI, g15, mu4, wp_nm, wp_sIn (by omega) (by omega), ad1, wp_sIn (by omega) (by omega), ad2, wp_sIn (by omega) (by omega), ad3, wp_sIn (by omega) (by omega), wp_rI, gi_si_n (by omega), gi_si_n (by omega), gi_si_n (by omega), gi_si_n (by omega), g15, wp_wI, ad1, wp_rI, gi_si_s, sb1, wp_rt]
          refine ⟨rfl, ?_⟩
          rw [← hw1]
          generalize hw2 : si (si (si (si (si (si (si (si (si (si w 156 n (nI y)) 157 n (nI v)) 158 n (nI l)) 155 n 1) 154 0 (nI (n + 1))) 174 (4 * n) (nI y)) 174 (4 * n + 1) x2) 174 (4 * n + 2) (nI v)) 174 (4 * n + 3) 1) 161 15 (nI (n + 1)) = w2
          have o : ∀ q k, ¬ (155 ≤ q ∧ q ≤ 158 ∧ k = n) → ¬ (q = 154 ∧ k = 0) → ¬ (q = 174 ∧ 4 * n ≤ k) → ¬ (q = 161 ∧ k = 15) → gi w2 q k = gi w q k := by
            intro q k y1 y2 y3 y4
            rw [← hw2, gi_si_n (by omega), gi_si_n (by omega), gi_si_n (by omega), gi_si_n (by omega), gi_si_n (by omega), gi_si_n (by omega), gi_si_n (by omega), gi_si_n (by omega), gi_si_n (by omega), gi_si_n (by omega)]
          have r : gr w2 = gr w := by rw [← hw2]; rfl
          have m1 : gi w2 156 n = nI y := by rw [← hw2]; simp [gi_si]
          have m2 : gi w2 157 n = nI v := by rw [← hw2]; simp [gi_si]
          have m3 : gi w2 158 n = nI l := by rw [← hw2]; simp [gi_si]
          have m4 : gi w2 155 n = nI 1 := by rw [← hw2]; simp [gi_si]; rfl
          have m5 : gi w2 154 0 = nI (n + 1) := by rw [← hw2]; simp [gi_si]
          have m6 : gi w2 174 (4 * n) = nI y := by rw [← hw2]; simp [gi_si]
          have m7 : gi w2 174 (4 * n + 1) = x2 := by rw [← hw2]; simp [gi_si]
          have m8 : gi w2 174 (4 * n + 2) = nI v := by rw [← hw2]; simp [gi_si]
          have m9 : gi w2 174 (4 * n + 3) = nI 1 := by rw [← hw2]; simp [gi_si]; rfl
          have m10 : gi w2 161 15 = nI (n + 1) := by rw [← hw2]; simp [gi_si]
          refine inv_hd hR hT hTo hJ hV hS hK hL r (fun q k hc => ?_) ⟨n + 1, by omega, m5, m10, fun h hh => ?_⟩
          · unfold oHd cTxt cTon cBk cSl at hc
            exact o q k (by omega) (by omega) (by omega) (by omega)
          · by_cases e : h = n
            · subst e
              refine ⟨y, v, 1, b, l, by omega, hv, by omega, hb, hl, m1, m6, m2, m8, m4, m9, by rw [m7]; exact hx2, m3, l0, fun hb0 => ?_⟩
              obtain ⟨l', f1, f2, f3⟩ := lp hb0
              refine ⟨l', ?_, f2, f3⟩
              rw [o _ _ (by omega) (by omega) (by omega) (by omega)]
              exact f1
            · obtain ⟨y', v', a', b', l', k1, k2, k3, k4, k5, k6, k7, k8, k9, k10, k11, k12, k13, k14, k15⟩ := n4 h (by omega)
              refine ⟨y', v', a', b', l', k1, k2, k3, k4, k5, ?_, ?_, ?_, ?_, ?_, ?_, ?_, ?_, k14, fun hb => ?_⟩
              · rw [o _ _ (by omega) (by omega) (by omega) (by omega)]; exact k6
              · rw [o _ _ (by omega) (by omega) (by omega) (by omega)]; exact k7
              · rw [o _ _ (by omega) (by omega) (by omega) (by omega)]; exact k8
              · rw [o _ _ (by omega) (by omega) (by omega) (by omega)]; exact k9
              · rw [o _ _ (by omega) (by omega) (by omega) (by omega)]; exact k10
              · rw [o _ _ (by omega) (by omega) (by omega) (by omega)]; exact k11
              · rw [o _ _ (by omega) (by omega) (by omega) (by omega)]; exact k12
              · rw [o _ _ (by omega) (by omega) (by omega) (by omega)]; exact k13
              · obtain ⟨l'', e1, e2⟩ := k15 hb
                exact ⟨l'', by rw [o _ _ (by omega) (by omega) (by omega) (by omega)]; exact e1, e2⟩
        · rw [if_neg (nlt_l 16 (by omega) (by omega)), wp_rt, wp_rt, wp_rI, n3, if_pos (eq_l 16 (by omega))]
          exact ⟨fun _ _ _ _ => rfl, wp_rt.mpr ⟨rfl, hw⟩⟩
      by_cases hm : x2 = -1
      · subst hm
        rw [if_pos rfl, wp_gd, wp_rt]
        refine ⟨by decide, ?_⟩
        rw [if_neg (by decide)]
        refine wp_mono (app (-1) 0 (2 ^ n) (by omega) (by decide) (fun _ => rfl) (fun h => absurd h (by omega))) (fun a w1 h => ?_)
        have z : gi w1 161 15 = nI n := by rw [h.1 _ _ (by omega) (by omega)]; exact n3
        rw [wp_bnd, hin1, if_neg (by decide), wp_rI, z, wp_bnd, wp_in (by rw [m1_toInt (by omega)]; exact ⟨by decide, by show (-1 : Int) ≤ _; omega⟩), if_neg (by decide), wp_bnd, wp_ver hv, if_neg (by decide), if_pos (by decide)]
        exact h.2
      · rw [if_neg hm, wp_rI, n2, wp_bnd]
        rcases ix_cases x2 n (by omega) with ⟨g, hg, rfl⟩ | h2
        · refine (wp_bel hg (by omega)).mpr ?_
          obtain ⟨y', v', a', b', l', k1, k2, k3, k4, k5, k6, k7, k8, k9, k10, k11, k12, k13, k14, k15⟩ := n4 g hg
          have hin2 : ∀ {Q : Int32 → Wd → Prop} {w' : Wd}, wp (f_X9_in (nI g).toInt64 (-1) (((nI n - 1) : Int32).toInt64)) w' Q ↔ Q 1 w' := wp_in (by rw [m1_toInt (by omega), i2l_toInt, nI_toInt (by omega)]; exact ⟨by show (-1 : Int) ≤ g; omega, by omega⟩)
          rw [if_neg (by decide), wp_aIn (by omega) (by omega), k6]
          by_cases hyy : y ≤ y'
          · rw [if_pos (nI_le hyy (by omega)), wp_gd, wp_rt]
            refine ⟨by decide, ?_⟩
            rw [if_pos rfl, wp_rt, wp_bnd, hin1, if_neg (by decide), wp_rI, n3, wp_bnd, hin2, if_neg (by decide), wp_bnd, wp_ver hv, if_neg (by decide), if_neg (nI_pos (by omega)), mu4, wp_aIn (by omega) (by omega), k7, if_neg (nI_nlt hyy (by omega))]
            exact wp_rt.mpr ⟨rfl, hw⟩
          · rw [if_neg (nI_ge (by omega) (by omega)), wp_gd, wp_rt]
            refine ⟨by decide, ?_⟩
            rw [if_neg (by decide)]
            refine wp_mono (app (nI g) (g + 1) (2 ^ n + l') (by omega) (sb1 g).symm (fun h => absurd h (by omega)) (fun _ => ⟨l', k13, k5, rfl⟩)) (fun a w1 h => ?_)
            have z : gi w1 161 15 = nI n := by rw [h.1 _ _ (by omega) (by omega)]; exact n3
            have z2 : gi w1 174 (4 * g) = nI y' := by rw [h.1 _ _ (by omega) (by omega)]; exact k7
            rw [wp_bnd, hin1, if_neg (by decide), wp_rI, z, wp_bnd, hin2, if_neg (by decide), wp_bnd, wp_ver hv, if_neg (by decide), if_neg (nI_pos (by omega)), mu4, wp_aIn (by omega) (by omega), z2, if_pos (nI_lt (by omega) (by omega))]
            exact h.2
        · refine (wp_beo h2).mpr ?_
          have ho := out_toInt h2 (by omega)
          have hm' : x2.toInt ≠ -1 := fun z => hm (Int32.toInt_inj.mp z)
          rw [if_pos rfl, wp_gd, wp_rt]
          refine ⟨by decide, ?_⟩
          rw [if_pos rfl, wp_rt, wp_bnd, hin1, if_neg (by decide), wp_rI, n3, wp_bnd, wp_ino (by rw [m1_toInt (by omega), i2l_toInt]; exact ho.imp (fun z => by show x2.toInt < -1; omega) (fun z => by omega)), if_pos rfl]
          exact wp_rt.mpr ⟨rfl, hw⟩
    · refine (wp_beo (n := 6) h3).mpr ?_
      rw [if_pos rfl, wp_rt, wp_bnd, hin1, if_neg (by decide), wp_rI, wp_bnd]
      refine (wp_of mIn).mpr ?_
      split
      · rw [if_neg (by decide), wp_bnd, wp_vero h3, if_pos rfl]
        exact wp_rt.mpr ⟨rfl, hw⟩
      · rw [if_pos rfl]
        exact wp_rt.mpr ⟨rfl, hw⟩
  · refine (wp_beo (n := 3001) h1).mpr ?_
    have ho := out_toInt h1 (by omega)
    rw [if_pos rfl, wp_rt, wp_bnd, wp_ino (by rw [i2l_toInt]; exact ho.imp (fun z => by show x1.toInt < 0; omega) (fun z => by show (3000 : Int) < x1.toInt; omega)), if_pos rfl]
    exact wp_rt.mpr ⟨rfl, hw⟩
/-- the word that a head has at a place, if it lives and its verse is long enough -/
def hw? (w : Wd) (a h : Nat) : Option Nat := if hal w h = 1 ∧ a < vs w (hv w h) then some (vw w (hv w h) a) else none
def Agr (w : Wd) (a n : Nat) : Prop := ∀ i j c d, i < n → j < n → hw? w a i = some c → hw? w a j = some d → c = d
theorem rd_wordOf {W n h a : Nat} (hV : IVs W 0 w) (hW : W ≤ 16) (hh : h < 16) (ha : a < 8) (hv6 : hv w h < 6) (e : gi w 174 (4 * h + 2) = nI (hv w h)) : Rd (f_X9_wordOf (nI h) (nI a)) w (if a < vs w (hv w h) then nI (vw w (hv w h) a) else -4) := by
  obtain ⟨s1, s2, s3, s4⟩ := hV.g hW hv6
  unfold Rd f_X9_wordOf f_X9_wordOf_37
  rw [mu4, ad2, wp_aIn (by omega) (by omega), e, wp_aIn (by omega) (by omega), s3]
  by_cases hs : vs w (hv w h) ≤ a
  · rw [if_pos (nI_le hs (by omega)), wp_rt, if_neg (by omega)]
    exact ⟨rfl, rfl⟩
  · rw [if_neg (nI_ge (by omega) (by omega)), mu8, nI_add, wp_aIn (by omega) (by omega), (s4 a (by omega)).2.2, wp_rt, if_pos (by omega)]
    exact ⟨rfl, rfl⟩
theorem ne_m4 {x : Nat} (h : x < 2 ^ 31) : ¬ nI x = -4 := by
  intro e
  have := congrArg Int32.toInt e
  rw [nI_toInt h] at this
  have h2 : (-4 : Int32).toInt = -4 := by decide
  omega
theorem pr_same (hw : Inv w) (x1 : Int32) : Pair (f_X8_same x1) (f_X9_same x1) w := by
  obtain ⟨t, W, hR, hT, hTo, hJ, hV, hS, hK, hL, hH⟩ := id hw
  obtain ⟨n, n1, n2, n3, n4⟩ := hH.g
  have hW := hTo.1
  unfold Pair f_X8_same f_X9_same f_X8_same_31
  rw [wp_bnd]
  rcases ix_cases x1 8 (by omega) with ⟨a, ha, rfl⟩ | h1
  · refine (wp_bel (n := 8) ha (by omega)).mpr ?_
    have key1 : wp (f_X2_agree 20 (nI a)) w (fun r w' => w' = w ∧ ((r = 1 ∧ Agr w a n) ∨ (r = 0 ∧ ¬ Agr w a n))) := by
      unfold f_X2_agree
      refine wp_fix2 (fun m x y w' => ∃ h, h ≤ n ∧ m = n - h ∧ y = nI h ∧ ((x = -4 ∧ ∀ i, i < h → hw? w a i = none) ∨ ∃ c, c < 16 ∧ x = nI c ∧ (∃ i, i < h ∧ hw? w a i = some c) ∧ ∀ i d, i < h → hw? w a i = some d → d = c) ∧ w' = w) (fun m x y w' self hI hs => ?_) FU n _ 0 w (by have := FU_big; omega) ⟨0, by omega, by omega, rfl, Or.inl ⟨rfl, fun i hi => by omega⟩, rfl⟩
      obtain ⟨h, h1, h2, rfl, h3, rfl⟩ := hI
      unfold f_X2_agree_6 f_X2_agree_71 f_X2_agree_74
      rw [wp_rI, n2]
      by_cases hh : n ≤ h
      · rw [if_pos (nI_le hh (by omega)), wp_gd, wp_rt]
        have e : h = n := by omega
        subst e
        refine ⟨by decide, rfl, Or.inl ⟨rfl, ?_⟩⟩
        intro i j c d hi hj ei ej
        rcases h3 with ⟨-, g⟩ | ⟨c', -, -, -, g⟩
        · rw [g i hi] at ei; cases ei
        · rw [g i c hi ei, g j d hj ej]
      · obtain ⟨g1, g2, g3, g4, g5, g6, g7, g8, g9, -⟩ := n4 h (by omega)
        obtain ⟨s1, s2, s3, s4⟩ := hV.g hW g2
        rw [if_neg (nI_ge (by omega) (by omega)), wp_aIn (by omega) (by omega), g8]
        have skip : hw? w' a h = none → wp (self x (nI h + 1)) w' (fun r w'' => w'' = w' ∧ ((r = 1 ∧ Agr w' a n) ∨ (r = 0 ∧ ¬ Agr w' a n))) := by
          intro hn
          rw [ad1]
          refine hs (n - (h + 1)) _ _ _ (by omega) ⟨h + 1, by omega, rfl, rfl, ?_, rfl⟩
          rcases h3 with ⟨q1, q2⟩ | ⟨c, q1, q2, ⟨i, q3, q4⟩, q5⟩
          · refine Or.inl ⟨q1, fun i hi => ?_⟩
            by_cases e : i = h
            · rw [e]; exact hn
            · exact q2 i (by omega)
          · refine Or.inr ⟨c, q1, q2, ⟨i, by omega, q4⟩, fun i d hi he => ?_⟩
            by_cases e : i = h
            · rw [e, hn] at he; cases he
            · exact q5 i d (by omega) he
        by_cases a1 : hal w' h = 1
        · rw [if_neg (ne_l 0 (by omega) (by omega) (by omega)), wp_aIn (by omega) (by omega), g6, wp_aIn (by omega) (by omega), show gi w' (20 + 8) (hv w' h) = nI (vs w' (hv w' h)) from s2]
          by_cases hs' : vs w' (hv w' h) ≤ a
          · rw [if_pos (nI_le hs' (by omega))]
            exact skip (if_neg (by omega))
          · obtain ⟨x1', x2', x3'⟩ := s4 a (by omega)
            have hsm : hw? w' a h = some (vw w' (hv w' h) a) := if_pos ⟨a1, by omega⟩
            rw [if_neg (nI_ge (by omega) (by omega)), wp_aIn (by omega) (by omega), g6, wp_gdn g2 (by omega), cl_nI (by omega), wp_aIn (by omega) (by omega), show gi w' (20 + 1 + 1 + hv w' h) a = nI (vw w' (hv w' h) a) from x2', ad1]
            rcases h3 with ⟨rfl, q2⟩ | ⟨c, q1, rfl, ⟨i, q3, q4⟩, q5⟩
            · rw [if_pos rfl]
              refine hs (n - (h + 1)) _ _ _ (by omega) ⟨h + 1, by omega, rfl, rfl, Or.inr ⟨_, by omega, rfl, ⟨h, by omega, hsm⟩, fun i d hi he => ?_⟩, rfl⟩
              by_cases e : i = h
              · rw [e, hsm] at he; cases he; rfl
              · rw [q2 i (by omega)] at he; cases he
            · rw [if_neg (ne_m4 (by omega))]
              by_cases hc : c = vw w' (hv w' h) a
              · rw [if_pos (by rw [hc])]
                refine hs (n - (h + 1)) _ _ _ (by omega) ⟨h + 1, by omega, rfl, rfl, Or.inr ⟨_, by omega, rfl, ⟨h, by omega, hsm⟩, fun i d hi he => ?_⟩, rfl⟩
                by_cases e : i = h
                · rw [e, hsm] at he; cases he; rfl
                · rw [← hc]; exact q5 i d (by omega) he
              · rw [if_neg (fun e => hc ((nI_eq (by omega) (by omega)).mp e)), wp_gd, wp_rt]
                exact ⟨by decide, rfl, Or.inr ⟨rfl, fun hA => hc (hA i h c _ (by omega) (by omega) q4 hsm)⟩⟩
        · rw [if_pos (eq_l 0 (by omega))]
          exact skip (if_neg (fun q => a1 q.1))
    have key2 : wp (fix3 FU (f_X9_same_17 (nI a)) (-4) 1 0) w (fun r w' => w' = w ∧ ((r = 1 ∧ Agr w a n) ∨ (r = 0 ∧ ¬ Agr w a n))) := by
      refine wp_fix3 (fun m x f y w' => ∃ h, h ≤ n ∧ m = n - h ∧ y = nI h ∧ ((f = 0 ∧ ¬ Agr w a n) ∨ (f = 1 ∧ ((x = -4 ∧ ∀ i, i < h → hw? w a i = none) ∨ ∃ c, c < 16 ∧ x = nI c ∧ (∃ i, i < h ∧ hw? w a i = some c) ∧ ∀ i d, i < h → hw? w a i = some d → d = c))) ∧ w' = w) (fun m x f y w' self hI hs => ?_) FU n _ _ 0 w (by have := FU_big; omega) ⟨0, by omega, by omega, rfl, Or.inr ⟨rfl, Or.inl ⟨rfl, fun i hi => by omega⟩⟩, rfl⟩
      obtain ⟨h, h1, h2, rfl, h3, rfl⟩ := hI
      unfold f_X9_same_17
      rw [wp_rI, n3]
      by_cases hh : n ≤ h
      · rw [if_pos (nI_le hh (by omega))]
        unfold f_X9_same_107
        have e : h = n := by omega
        subst e
        rcases h3 with ⟨rfl, g⟩ | ⟨rfl, g⟩
        · rw [if_pos rfl, wp_rt]
          exact ⟨rfl, Or.inr ⟨rfl, g⟩⟩
        · rw [if_neg (by decide), wp_rt]
          refine ⟨rfl, Or.inl ⟨rfl, ?_⟩⟩
          intro i j c d hi hj ei ej
          rcases g with ⟨-, g⟩ | ⟨c', -, -, -, g⟩
          · rw [g i hi] at ei; cases ei
          · rw [g i c hi ei, g j d hj ej]
      · obtain ⟨g1, g2, g3, g4, g5, g6, g7, g8, g9, -⟩ := n4 h (by omega)
        obtain ⟨s1, s2, s3, s4⟩ := hV.g hW g2
        rw [if_neg (nI_ge (by omega) (by omega)), wp_bnd, wp_isAlive (by omega) g3 g9]
        have step : ∀ p, ((p = -4 ∧ hw? w' a h = none) ∨ ∃ d, d < 16 ∧ p = nI d ∧ hw? w' a h = some d) → wp (f_X9_same_47 self (nI a) x f (nI h) p) w' (fun r w'' => w'' = w' ∧ ((r = 1 ∧ Agr w' a n) ∨ (r = 0 ∧ ¬ Agr w' a n))) := by
          intro p hp
          unfold f_X9_same_47 f_X9_same_72 f_X9_same_76 f_X9_same_77 f_X9_same_91
          rcases h3 with ⟨rfl, g⟩ | ⟨rfl, g⟩
          · rw [if_pos rfl, ad1]
            refine wp_if (fun _ => ?_) (fun _ => ?_)
            · exact hs (n - (h + 1)) _ _ _ _ (by omega) ⟨h + 1, by omega, rfl, rfl, Or.inl ⟨rfl, g⟩, rfl⟩
            · exact hs (n - (h + 1)) _ _ _ _ (by omega) ⟨h + 1, by omega, rfl, rfl, Or.inl ⟨rfl, g⟩, rfl⟩
          · rw [if_neg (by decide), ad1]
            rcases hp with ⟨rfl, hn⟩ | ⟨d, hd, rfl, hsm⟩
            · rw [if_pos rfl, if_pos rfl]
              refine hs (n - (h + 1)) _ _ _ _ (by omega) ⟨h + 1, by omega, rfl, rfl, Or.inr ⟨rfl, ?_⟩, rfl⟩
              rcases g with ⟨q1, q2⟩ | ⟨c, q1, q2, ⟨i, q3, q4⟩, q5⟩
              · refine Or.inl ⟨q1, fun i hi => ?_⟩
                by_cases e : i = h
                · rw [e]; exact hn
                · exact q2 i (by omega)
              · refine Or.inr ⟨c, q1, q2, ⟨i, by omega, q4⟩, fun i d hi he => ?_⟩
                by_cases e : i = h
                · rw [e, hn] at he; cases he
                · exact q5 i d (by omega) he
            · rw [if_neg (ne_m4 (by omega)), if_neg (ne_m4 (by omega)), if_neg (ne_m4 (by omega))]
              rcases g with ⟨rfl, q2⟩ | ⟨c, q1, rfl, ⟨i, q3, q4⟩, q5⟩
              · rw [if_pos rfl]
                refine hs (n - (h + 1)) _ _ _ _ (by omega) ⟨h + 1, by omega, rfl, rfl, Or.inr ⟨rfl, Or.inr ⟨_, hd, rfl, ⟨h, by omega, hsm⟩, fun i d hi he => ?_⟩⟩, rfl⟩
                by_cases e : i = h
                · rw [e, hsm] at he; cases he; rfl
                · rw [q2 i (by omega)] at he; cases he
              · rw [if_neg (ne_m4 (by omega))]
                by_cases hc : d = c
                · rw [if_pos (by rw [hc])]
                  refine hs (n - (h + 1)) _ _ _ _ (by omega) ⟨h + 1, by omega, rfl, rfl, Or.inr ⟨rfl, Or.inr ⟨_, hd, rfl, ⟨h, by omega, hsm⟩, fun i d' hi he => ?_⟩⟩, rfl⟩
                  by_cases e : i = h
                  · rw [e, hsm] at he; cases he; rfl
                  · rw [hc]; exact q5 i d' (by omega) he
                · rw [if_neg (fun e => hc ((nI_eq (by omega) (by omega)).mp e))]
                  exact hs (n - (h + 1)) _ _ _ _ (by omega) ⟨h + 1, by omega, rfl, rfl, Or.inl ⟨rfl, fun hA => hc (hA i h c _ (by omega) (by omega) q4 hsm).symm⟩, rfl⟩
        by_cases a1 : hal w' h = 1
        · rw [if_neg (ne_l 0 (by omega) (by omega) (by omega)), wp_bnd, (rd_wordOf (n := n) hV hW (by omega) ha g2 g7).wp]
          refine step _ ?_
          by_cases hs' : a < vs w' (hv w' h)
          · rw [if_pos hs']
            exact Or.inr ⟨_, by have := (s4 a hs').1; omega, rfl, if_pos ⟨a1, hs'⟩⟩
          · rw [if_neg hs']
            exact Or.inl ⟨rfl, if_neg (fun q => hs' q.2)⟩
        · rw [if_pos (eq_l 0 (by omega))]
          exact step _ (Or.inl ⟨rfl, if_neg (fun q => a1 q.1)⟩)
    rw [if_neg (by decide), wp_bnd]
    refine wp_mono key1 (fun r w' h => ?_)
    obtain ⟨rfl, h⟩ := h
    have key3 : ∀ v, ((v = 1 ∧ Agr w' a n) ∨ (v = 0 ∧ ¬ Agr w' a n)) → wp (bnd (f_X9_isPlace (nI a)) fun v1 => if v1 = 0 then rt (-1) else fix3 FU (f_X9_same_17 (nI a)) (-4) 1 0) w' (fun b w2 => b = v ∧ Inv w2) := by
      intro v hv
      rw [wp_bnd, wp_pla ha, if_neg (by decide)]
      refine wp_mono key2 (fun r w'' h => ?_)
      obtain ⟨rfl, h⟩ := h
      refine ⟨?_, hw⟩
      rcases h with ⟨rfl, h⟩ | ⟨rfl, h⟩ <;> rcases hv with ⟨rfl, h'⟩ | ⟨rfl, h'⟩ <;> first | rfl | exact absurd h h' | exact absurd h' h
    rcases h with ⟨rfl, h⟩ | ⟨rfl, h⟩
    · rw [if_neg (by decide), wp_rt]
      exact key3 1 (Or.inl ⟨rfl, h⟩)
    · rw [if_pos rfl, wp_rt]
      exact key3 0 (Or.inr ⟨rfl, h⟩)
  · refine (wp_beo (n := 8) h1).mpr ?_
    rw [if_pos rfl, wp_rt, wp_bnd, wp_plao h1, if_pos rfl]
    exact wp_rt.mpr ⟨rfl, hw⟩
end HEADS3
