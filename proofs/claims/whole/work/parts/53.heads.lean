/-! heads: alive, same, lost, from -/
section HEADS
variable {w : Wd}
theorem narZ0 : vp_nar .boolean (0 : Int32) = 0 := by decide
theorem narZ1 : vp_nar .boolean (1 : Int32) = 1 := by decide
theorem wp_head {Q : Int32 → Wd → Prop} {n j : Nat} (hn : gi w 161 15 = nI n) (hb : n ≤ 16) (h : j < n) : wp (f_X9_isHead (nI j)) w Q ↔ Q 1 w := by
  unfold f_X9_isHead
  rw [wp_rI, hn, wp_bnd, wp_in (by rw [i2l_toInt, nI_toInt (by omega), m1_toInt (by omega)]; exact ⟨by show (0 : Int) ≤ j; omega, by omega⟩), wp_gd, wp_rt]
  simp
theorem wp_heado {Q : Int32 → Wd → Prop} {n : Nat} {x : Int32} (hn : gi w 161 15 = nI n) (hb : n ≤ 16) (h : x < 0 ∨ nI n ≤ x) : wp (f_X9_isHead x) w Q ↔ Q 0 w := by
  unfold f_X9_isHead
  have h2 := out_toInt h (by omega)
  rw [wp_rI, hn, wp_bnd, wp_ino (by rw [i2l_toInt, m1_toInt (by omega)]; exact h2.imp (fun z => by show x.toInt < 0; omega) (fun z => by omega)), wp_gd, wp_rt]
  simp
theorem wp_isAlive {Q : Int32 → Wd → Prop} {h a : Nat} (hh : h < 16) (ha : a < 2) (e : gi w 174 (4 * h + 3) = nI a) : wp (f_X9_isAlive (nI h)) w Q ↔ Q (nI a) w := by
  unfold f_X9_isAlive
  rw [mu4, ad3, wp_aIn (by omega) (by omega), e]
  rcases (by omega : a = 0 ∨ a = 1) with rfl | rfl
  · rw [if_neg (by decide)]
    unfold f_X9_isAlive_19
    rw [wp_gd, wp_rt]
    simp
    exact Iff.rfl
  · rw [if_pos (eq_l 1 rfl)]
    unfold f_X9_isAlive_19
    rw [wp_gd, wp_rt]
    simp
    exact Iff.rfl
theorem pr_alive (hw : Inv w) (x1 x2 : Int32) (hx2 : x2 = 0 ∨ x2 = 1) : Pair (f_X8_alive x1 x2) (f_X9_alive x1 x2) w := by
  obtain ⟨t, W, hR, hT, hTo, hJ, hV, hS, hK, hL, hH⟩ := id hw
  obtain ⟨n, n1, n2, n3, n4⟩ := id hH
  have ht := hR.1
  obtain ⟨d, hd, rfl⟩ : ∃ d, d < 2 ∧ x2 = nI d := by
    rcases hx2 with rfl | rfl
    · exact ⟨0, by omega, rfl⟩
    · exact ⟨1, by omega, rfl⟩
  have nar : vp_nar .boolean (nI d) = nI d := by
    rcases (by omega : d = 0 ∨ d = 1) with rfl | rfl
    · exact narZ0
    · exact narZ1
  unfold Pair f_X8_alive f_X9_alive
  rw [wp_rI, n2, wp_bnd]
  rcases ix_cases x1 n (by omega) with ⟨h, hh, rfl⟩ | h1
  · refine (wp_bel hh (by omega)).mpr ?_
    obtain ⟨y, v, a, b, l, g1, g2, g3, g4, g5, g6, g7, g8, g9, g10, g11, g12, g13, g14, g15⟩ := n4 h hh
    have key : wp (if gi w 155 h = 0 then f_X8_alive_33 (nI h) (nI d) 0 else f_X8_alive_33 (nI h) (nI d) 1) w (fun r w' => r = nI a ∧ w' = si w 155 h (nI d)) := by
      rw [g10]
      unfold f_X8_alive_33
      rcases (by omega : a = 0 ∨ a = 1) with rfl | rfl
      · rw [if_pos (eq_l 0 rfl), wp_sIn (by omega) (by omega), wp_rt, nar]
        exact ⟨rfl, rfl⟩
      · rw [if_neg (by decide), wp_sIn (by omega) (by omega), wp_rt, nar]
        exact ⟨rfl, rfl⟩
    rw [if_neg (by decide), wp_aIn (by omega) (by omega)]
    refine wp_mono key (fun r w' hr => ?_)
    obtain ⟨rfl, rfl⟩ := hr
    have key2 : wp (if nI d = 0 then f_X9_alive_39 (nI a) 0 (nI (4 * h + 3)) else f_X9_alive_39 (nI a) 1 (nI (4 * h + 3))) (si w 155 h (nI d)) (fun r w' => r = nI a ∧ w' = si (si w 155 h (nI d)) 174 (4 * h + 3) (nI d)) := by
      unfold f_X9_alive_39
      rcases (by omega : d = 0 ∨ d = 1) with rfl | rfl
      · rw [if_pos (eq_l 0 rfl), wp_sIn (by omega) (by omega), wp_rt]
        exact ⟨rfl, rfl⟩
      · rw [if_neg (by decide), wp_sIn (by omega) (by omega), wp_rt]
        exact ⟨rfl, rfl⟩
    rw [wp_bnd, wp_head (by rw [gi_si_n (by omega)]; exact n3) n1 hh, if_neg (by decide), mu4, ad3, wp_aIn (by omega) (by omega), gi_si_n (by omega), g11]
    refine wp_mono key2 (fun r w' hr => ?_)
    obtain ⟨rfl, rfl⟩ := hr
    refine ⟨rfl, inv_hd hR hT hTo hJ hV hS hK hL rfl ((Eqo.rf.si (by unfold oHd cTxt cTon cBk cSl; omega)).si (by unfold oHd cTxt cTon cBk cSl; omega)) ⟨n, n1, ?_, ?_, fun i hi => ?_⟩⟩
    · rw [gi_si_n (by omega), gi_si_n (by omega)]; exact n2
    · rw [gi_si_n (by omega), gi_si_n (by omega)]; exact n3
    · obtain ⟨y', v', a', b', l', k1, k2, k3, k4, k5, k6, k7, k8, k9, k10, k11, k12, k13, k14, k15⟩ := n4 i hi
      by_cases hih : i = h
      · subst hih
        refine ⟨y', v', d, b', l', k1, k2, hd, k4, k5, ?_, ?_, ?_, ?_, ?_, gi_si_s _ _ _ _, ?_, ?_, k14, fun hb => ?_⟩
        · rw [gi_si_n (by omega), gi_si_n (by omega)]; exact k6
        · rw [gi_si_n (by omega), gi_si_n (by omega)]; exact k7
        · rw [gi_si_n (by omega), gi_si_n (by omega)]; exact k8
        · rw [gi_si_n (by omega), gi_si_n (by omega)]; exact k9
        · rw [gi_si_n (by omega), gi_si_s]
        · rw [gi_si_n (by omega), gi_si_n (by omega)]; exact k12
        · rw [gi_si_n (by omega), gi_si_n (by omega)]; exact k13
        · rw [gi_si_n (by omega), gi_si_n (by omega)]; exact k15 hb
      · refine ⟨y', v', a', b', l', k1, k2, k3, k4, k5, ?_, ?_, ?_, ?_, ?_, ?_, ?_, ?_, k14, fun hb => ?_⟩
        · rw [gi_si_n (by omega), gi_si_n (by omega)]; exact k6
        · rw [gi_si_n (by omega), gi_si_n (by omega)]; exact k7
        · rw [gi_si_n (by omega), gi_si_n (by omega)]; exact k8
        · rw [gi_si_n (by omega), gi_si_n (by omega)]; exact k9
        · rw [gi_si_n (by omega), gi_si_n (by omega)]; exact k10
        · rw [gi_si_n (by omega), gi_si_n (by omega)]; exact k11
        · rw [gi_si_n (by omega), gi_si_n (by omega)]; exact k12
        · rw [gi_si_n (by omega), gi_si_n (by omega)]; exact k13
        · rw [gi_si_n (by omega), gi_si_n (by omega)]; exact k15 hb
  · refine (wp_beo h1).mpr ?_
    rw [if_pos rfl, wp_rt, wp_bnd, wp_heado n3 n1 h1, if_pos rfl]
    exact wp_rt.mpr ⟨rfl, hw⟩
end HEADS
