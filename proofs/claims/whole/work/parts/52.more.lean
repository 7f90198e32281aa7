/-! more easy calls -/
def sm (f : Nat → Nat) : Nat → Nat
  | 0 => 0
  | n + 1 => sm f n + f n
theorem sm_succ (f : Nat → Nat) (n : Nat) : sm f (n + 1) = sm f n + f n := rfl
theorem sm_le {f : Nat → Nat} {b : Nat} : ∀ n, (∀ i, i < n → f i ≤ b) → sm f n ≤ b * n
  | 0, _ => Nat.zero_le _
  | n + 1, h => by
    have h1 := sm_le n (fun i hi => h i (by omega))
    have h2 := h n (by omega)
    show sm f n + f n ≤ b * (n + 1)
    rw [Nat.mul_add]
    omega
theorem sm_congr {f g : Nat → Nat} : ∀ n, (∀ i, i < n → f i = g i) → sm f n = sm g n
  | 0, _ => rfl
  | n + 1, h => by
    show sm f n + f n = sm g n + g n
    rw [sm_congr n (fun i hi => h i (by omega)), h n (by omega)]
section MORE
variable {w : Wd}
theorem pr_alter (hw : Inv w) (x1 x2 : Int32) : Pair (f_X8_alter x1 x2) (f_X9_alter x1 x2) w := by
  obtain ⟨t, W, hR, hT, hTo, hJ, hV, hS, hK, hL, hH⟩ := id hw
  obtain ⟨n, n1, n2, n3, n4⟩ := id hS
  have ht := hR.1
  have n3' : gi w 169 0 = nI n := n3
  unfold Pair f_X8_alter f_X9_alter
  rw [wp_rI, show gi w 20 3 = nI n from n2, wp_bnd]
  rcases ix_cases x1 n (by omega) with ⟨a, ha, rfl⟩ | h1
  · refine (wp_bel ha (by omega)).mpr ?_
    rw [if_neg (by decide), wp_bnd]
    rcases ix_cases x2 1024 (by omega) with ⟨b, hb, rfl⟩ | h2
    · refine (wp_bel (n := 1024) hb (by omega)).mpr ?_
      obtain ⟨hW, y, m, k1, k2, k3, k4, k5, k6, k7, k8, k9⟩ := n4 (by omega)
      obtain ⟨k, f1, f2, f3⟩ := k9 a ha
      rw [if_neg (by decide), wp_aIn (by omega) (by omega), wp_sIn (by omega) (by omega), wp_rt, wp_a0 (by omega) (by omega), gi_si_n (by omega), n3', wp_bnd, wp_in (by rw [i2l_toInt, nI_toInt (by omega), m1_toInt (by omega)]; exact ⟨by show (0 : Int) ≤ a; omega, by omega⟩), if_neg (by decide), wp_bnd, wp_in (by rw [i2l_toInt, nI_toInt (by omega)]; exact ⟨by show (0 : Int) ≤ b; omega, by show (b : Int) ≤ 1023; omega⟩), if_neg (by decide), wp_aIn (by omega) (by omega), wp_sIn (by omega) (by omega), wp_rt]
      refine ⟨?_, ?_⟩
      · rw [gi_si_n (by omega)]
        rw [show gi w 29 a = nI k from f2]
        rw [show 84 * 0 + a = a by omega] at f3
        exact f3
      · refine inv_s hR hT hTo hJ hV hK hL hH rfl ((Eqo.rf.si (by unfold oP cS0; omega)).si (by unfold oP cS0; omega)) ⟨n, n1, ?_, ?_, fun h0 => ⟨hW, y, m, k1, k2, k3, k4, ?_, ?_, ?_, ?_, fun z hz => ?_⟩⟩
        · rw [gi_si_n (by omega), gi_si_n (by omega)]; exact n2
        · rw [gi_si_n (by omega), gi_si_n (by omega)]; exact n3
        · rw [gi_si_n (by omega), gi_si_n (by omega)]; exact k5
        · rw [gi_si_n (by omega), gi_si_n (by omega)]; exact k6
        · rw [gi_si_n (by omega), gi_si_n (by omega)]; exact k7
        · rw [gi_si_n (by omega), gi_si_n (by omega)]; exact k8
        · by_cases hza : z = a
          · subst hza
            refine ⟨b, hb, ?_, ?_⟩
            · rw [gi_si_n (by omega), show 29 + 10 * 0 = 29 by omega, gi_si_s]
            · rw [show 84 * 0 + z = z by omega, gi_si_s]
          · obtain ⟨k', e1, e2, e3⟩ := k9 z hz
            refine ⟨k', e1, ?_, ?_⟩
            · rw [gi_si_n (by omega), gi_si_n (by omega)]; exact e2
            · rw [gi_si_n (by omega), gi_si_n (by omega)]; exact e3
    · refine (wp_beo (n := 1024) h2).mpr ?_
      have h3 := out_toInt h2 (by omega)
      rw [if_pos rfl]
      unfold f_X8_alter_24
      rw [wp_rt, wp_a0 (by omega) (by omega), n3', wp_bnd, wp_in (by rw [i2l_toInt, nI_toInt (by omega), m1_toInt (by omega)]; exact ⟨by show (0 : Int) ≤ a; omega, by omega⟩), if_neg (by decide), wp_bnd, wp_ino (by rw [i2l_toInt]; exact h3.imp (fun z => by show x2.toInt < 0; omega) (fun z => by show (1023 : Int) < x2.toInt; omega)), if_pos rfl]
      exact wp_rt.mpr ⟨rfl, hw⟩
  · refine (wp_beo h1).mpr ?_
    have h3 := out_toInt h1 (by omega)
    rw [if_pos rfl]
    unfold f_X8_alter_24
    rw [wp_rt, wp_a0 (by omega) (by omega), n3', wp_bnd, wp_ino (by rw [i2l_toInt, m1_toInt (by omega)]; exact h3.imp (fun z => by show x1.toInt < 0; omega) (fun z => by omega)), if_pos rfl]
    exact wp_rt.mpr ⟨rfl, hw⟩
theorem pr_slip (hw : Inv w) (x1 x2 x3 : Int32) : Pair (f_X8_slip x1 x2 x3) (f_X9_slip x1 x2 x3) w := by
  obtain ⟨t, W, hR, hT, hTo, hJ, hV, hS, hK, hL, hH⟩ := id hw
  obtain ⟨W16, W1, W2, -⟩ := id hTo
  obtain ⟨n, n1, n2, n3, n4⟩ := id hL
  have ht := hR.1
  unfold Pair f_X8_slip f_X9_slip
  rw [wp_bnd]
  rcases ix_cases x1 6 (by omega) with ⟨a, ha, rfl⟩ | h1
  · refine (wp_bel (n := 6) ha (by omega)).mpr ?_
    rw [if_neg (by decide), wp_bnd]
    rcases ix_cases x2 8 (by omega) with ⟨b, hb, rfl⟩ | h2
    · refine (wp_bel (n := 8) hb (by omega)).mpr ?_
      rw [if_neg (by decide), wp_tongue hR, wp_rI, W1, wp_bnd]
      rcases ix_cases x3 W (by omega) with ⟨c, hc, rfl⟩ | h3
      · refine (wp_bel hc (by omega)).mpr ?_
        unfold f_X5_append
        rw [if_neg (by decide), wp_bnd, wp_rI, n2]
        by_cases hn : n < 20
        · have e1 : nI n + 1 = nI (n + 1) := nI_add n 1
          rw [if_pos (lt_l 20 hn (by omega)), wp_rI, n2, wp_sIn (by omega) (by omega), wp_rI, gi_si_n (by omega), n2, wp_sIn (by omega) (by omega), wp_rI, gi_si_n (by omega), gi_si_n (by omega), n2, wp_sIn (by omega) (by omega), wp_rI, gi_si_n (by omega), gi_si_n (by omega), gi_si_n (by omega), n2, wp_wI, e1, wp_rI, gi_si_s, wp_rt, wp_rt]
          generalize hw1 : si (si (si (si w 150 n (nI a)) 151 n (nI b)) 152 n (nI c)) 149 0 (nI (n + 1)) = w1
          have g163 : gi w1 163 0 = nI W := by rw [← hw1, gi_si_n (by omega), gi_si_n (by omega), gi_si_n (by omega), gi_si_n (by omega)]; exact W2
          have g13 : gi w1 161 13 = nI n := by rw [← hw1, gi_si_n (by omega), gi_si_n (by omega), gi_si_n (by omega), gi_si_n (by omega)]; exact n3
          have m3 : 3 * nI n = nI (3 * n) := mul_nI 3 n
          rw [wp_bnd, wp_ver ha, if_neg (by decide), wp_bnd, wp_pla hb, if_neg (by decide), wp_bnd, wp_wor g163 W16 hc, if_neg (by decide), wp_rI, g13, if_neg (ne_l 20 (by omega) (by omega) (by omega)), wp_rI, g13, m3, wp_sIn (by omega) (by omega), wp_rI, gi_si_n (by omega), g13, m3, ad1, wp_sIn (by omega) (by omega), wp_rI, gi_si_n (by omega), gi_si_n (by omega), g13, m3, ad2, wp_sIn (by omega) (by omega), wp_rI, gi_si_n (by omega), gi_si_n (by omega), gi_si_n (by omega), g13, wp_wI, e1, wp_rI, gi_si_s, wp_rt]
          refine ⟨rfl, ?_⟩
          rw [← hw1]
          refine inv_sl hR hT hTo hJ hV hS hK hH rfl ((((((((Eqo.rf.si (by unfold oSl cTxt cTon cBk cHd; omega)).si (by unfold oSl cTxt cTon cBk cHd; omega)).si (by unfold oSl cTxt cTon cBk cHd; omega)).si (by unfold oSl cTxt cTon cBk cHd; omega)).si (by unfold oSl cTxt cTon cBk cHd; omega)).si (by unfold oSl cTxt cTon cBk cHd; omega)).si (by unfold oSl cTxt cTon cBk cHd; omega)).si (by unfold oSl cTxt cTon cBk cHd; omega)) ⟨n + 1, by omega, ?_, gi_si_s _ _ _ _, fun i hi => ?_⟩
          · rw [gi_si_n (by omega), gi_si_n (by omega), gi_si_n (by omega), gi_si_n (by omega), gi_si_s]
          · by_cases hin : i = n
            · subst hin
              refine ⟨a, b, c, ha, hb, hc, ?_, ?_, ?_, ?_, ?_, ?_⟩
              · simp [gi_si]
              · rw [gi_si_n (by omega), gi_si_n (by omega), gi_si_n (by omega), gi_si_s]
              · simp [gi_si]
              · rw [gi_si_n (by omega), gi_si_n (by omega), gi_si_s]
              · simp [gi_si]
              · rw [gi_si_n (by omega), gi_si_s]
            · obtain ⟨v, p, x, k1, k2, k3, k4, k5, k6, k7, k8, k9⟩ := n4 i (by omega)
              refine ⟨v, p, x, k1, k2, k3, ?_, ?_, ?_, ?_, ?_, ?_⟩
              all_goals (rw [gi_si_n (by omega), gi_si_n (by omega), gi_si_n (by omega), gi_si_n (by omega), gi_si_n (by omega), gi_si_n (by omega), gi_si_n (by omega), gi_si_n (by omega)]; assumption)
        · rw [if_neg (nlt_l 20 (by omega) (by omega)), wp_rt, wp_rt, wp_bnd, wp_ver ha, if_neg (by decide), wp_bnd, wp_pla hb, if_neg (by decide), wp_bnd, wp_wor W2 W16 hc, if_neg (by decide), wp_rI, n3, if_pos (eq_l 20 (by omega))]
          exact wp_rt.mpr ⟨rfl, hw⟩
      · refine (wp_beo h3).mpr ?_
        rw [if_pos rfl]
        unfold f_X8_slip_32
        rw [wp_rt, wp_bnd, wp_ver ha, if_neg (by decide), wp_bnd, wp_pla hb, if_neg (by decide), wp_bnd, wp_woro W2 W16 h3, if_pos rfl]
        exact wp_rt.mpr ⟨rfl, hw⟩
    · refine (wp_beo (n := 8) h2).mpr ?_
      rw [if_pos rfl]
      unfold f_X8_slip_32
      rw [wp_rt, wp_bnd, wp_ver ha, if_neg (by decide), wp_bnd, wp_plao h2, if_pos rfl]
      exact wp_rt.mpr ⟨rfl, hw⟩
  · refine (wp_beo (n := 6) h1).mpr ?_
    rw [if_pos rfl]
    unfold f_X8_slip_32
    rw [wp_rt, wp_bnd, wp_vero h1, if_pos rfl]
    exact wp_rt.mpr ⟨rfl, hw⟩
/-- a loop that only reads -/
theorem pr_count (hw : Inv w) (x1 : Int32) : Pair (f_X8_count x1) (f_X9_count x1) w := by
  obtain ⟨t, W, hR, hT, hTo, hJ, hV, hS, hK, hL, hH⟩ := id hw
  unfold Pair f_X8_count f_X9_count
  refine wp_if (fun e => ?_) (fun n0 => ?_)
  · rw [wp_tongue hR, wp_rI, wp_rt, if_pos e, wp_a0 (by omega) (by omega), wp_rt]
    exact ⟨by rw [hTo.2.1, hTo.2.2.1], hw⟩
  rw [if_neg n0]
  refine wp_if (fun e => ?_) (fun n1 => ?_)
  · obtain ⟨n, h1, h2, h3, -⟩ := hT
    rw [wp_rI, wp_rt, if_pos e, wp_rI, wp_rt]
    exact ⟨by rw [h2, h3], hw⟩
  rw [if_neg n1]
  refine wp_if (fun e => ?_) (fun n2 => ?_)
  · obtain ⟨n, h1, h2, h3, -⟩ := hS
    rw [wp_rI, wp_rt, if_pos e, wp_a0 (by omega) (by omega), wp_rt]
    exact ⟨by rw [show gi w 20 3 = nI n from h2, show gi w 169 0 = nI n from h3], hw⟩
  rw [if_neg n2]
  refine wp_if (fun e => ?_) (fun n3 => ?_)
  · obtain ⟨n, h1, h2, h3, -⟩ := hL
    rw [wp_rI, wp_rt, if_pos e, wp_rI, wp_rt]
    exact ⟨by rw [h2, h3], hw⟩
  rw [if_neg n3]
  refine wp_if (fun e => ?_) (fun n4 => ?_)
  · obtain ⟨n, h1, h2, h3, -⟩ := hH
    rw [wp_rI, wp_rt, if_pos e, wp_rI, wp_rt]
    exact ⟨by rw [h2, h3], hw⟩
  rw [if_neg n4]
  refine wp_if (fun e => ?_) (fun n5 => ?_)
  · obtain ⟨n, h1, h2, h3, -⟩ := hK
    rw [wp_rI, wp_rt, if_pos e, wp_rI, wp_rt]
    exact ⟨by rw [h2, h3], hw⟩
  rw [if_neg n5]
  refine wp_if (fun e => ?_) (fun n6 => ?_)
  · rw [if_pos e, wp_bnd]
    have key1 : wp (f_X0_wordsInAll 20) w (fun r w' => r = nI (sm (fun v => (gi w 28 v).toNatClampNeg) 6) ∧ w' = w) := by
      unfold f_X0_wordsInAll
      refine wp_fix2 (fun n a b w' => ∃ v, v ≤ 6 ∧ n = 6 - v ∧ b = nI v ∧ a = nI (sm (fun v => (gi w 28 v).toNatClampNeg) v) ∧ w' = w) (fun n a b w' self hI hs => ?_) FU 6 0 0 w (by have := FU_big; omega) ⟨0, by omega, by omega, rfl, rfl, rfl⟩
      obtain ⟨v, v1, v2, rfl, rfl, rfl⟩ := hI
      unfold f_X0_wordsInAll_4
      by_cases hv : v < 6
      · obtain ⟨s, s1, s2, -⟩ := hV.z hv
        rw [if_neg (nge_l 6 hv (by omega)), wp_aIn (by omega) (by omega), wp_nm, show gi w' (20 + 8) v = nI s from s2, nI_add, ad1]
        exact hs (6 - (v + 1)) _ _ _ (by omega) ⟨v + 1, by omega, rfl, rfl, by rw [sm_succ, s2, cl_nI (by omega)], rfl⟩
      · rw [if_pos (ge_l 6 (by omega) (by omega)), wp_rt]
        have : v = 6 := by omega
        subst this
        exact ⟨rfl, rfl⟩
    refine wp_mono key1 (fun r w' h => ?_)
    obtain ⟨rfl, rfl⟩ := h
    rw [wp_rt]
    refine wp_fix2 (fun n a b w'' => ∃ v, v ≤ 6 ∧ n = 6 - v ∧ b = nI v ∧ a = nI (sm (fun v => (gi w' 28 v).toNatClampNeg) v) ∧ w'' = w') (fun n a b w'' self hI hs => ?_) FU 6 0 0 w' (by have := FU_big; omega) ⟨0, by omega, by omega, rfl, rfl, rfl⟩
    obtain ⟨v, v1, v2, rfl, rfl, rfl⟩ := hI
    unfold f_X9_count_80
    by_cases hv : v < 6
    · obtain ⟨s, s1, s2, s3, -⟩ := hV.z hv
      rw [if_neg (nge_l 6 hv (by omega)), wp_aIn (by omega) (by omega), wp_nm, s3, nI_add, ad1]
      exact hs (6 - (v + 1)) _ _ _ (by omega) ⟨v + 1, by omega, rfl, rfl, by rw [sm_succ, s2, cl_nI (by omega)], rfl⟩
    · rw [if_pos (ge_l 6 (by omega) (by omega)), wp_rt]
      have : v = 6 := by omega
      subst this
      exact ⟨rfl, hw⟩
  · rw [wp_rt, if_neg n6, wp_rt]
    exact ⟨rfl, hw⟩
end MORE
