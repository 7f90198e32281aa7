/-! odds -/
section ODDS
variable {w : Wd}
theorem gcd_step {A B : Nat} : Nat.gcd B (A % B) = Nat.gcd A B := by
  rw [Nat.gcd_comm A B, Nat.gcd_rec B A, Nat.gcd_comm]
theorem mod_half {A B : Nat} (h0 : 0 < B) (h : B ≤ A) : 2 * (A % B) ≤ A := by
  have h1 : A % B < B := Nat.mod_lt _ h0
  have h2 : A % B ≤ A - B := by
    rw [Nat.mod_eq_sub_mod h]
    exact Nat.mod_le _ _
  omega
theorem rd_gcd8 {v : Nat} (hv : v ≤ 10000) : Rd (f_X8_commonDivisor (nI v) 10000) w (nI (Nat.gcd v 10000)) := by
  have hg : 0 < Nat.gcd v 10000 := Nat.gcd_pos_of_pos_right _ (by omega)
  have hg2 : Nat.gcd v 10000 ≤ 10000 := Nat.gcd_le_right _ (by omega)
  unfold f_X8_commonDivisor
  refine wp_fix3 (fun m x y z w' => ∃ k A B, k ≤ 64 ∧ m = 64 - k ∧ z = nI k ∧ x = nI A ∧ y = nI B ∧ A ≤ 10000 ∧ B ≤ 10000 ∧ Nat.gcd A B = Nat.gcd v 10000 ∧ ((k = 0 ∧ A = v ∧ B = 10000) ∨ (1 ≤ k ∧ 0 < A ∧ B ≤ A ∧ A * B * 2 ^ (k - 1) ≤ 100000000)) ∧ w' = w) (fun m x y z w' self hI hs => ?_) FU 64 _ _ 0 w (by have := FU_big; omega) ⟨0, v, 10000, by omega, by omega, rfl, rfl, rfl, hv, by omega, rfl, Or.inl ⟨rfl, rfl, rfl⟩, rfl⟩
  obtain ⟨k, A, B, k1, k2, rfl, rfl, rfl, hA, hB, hG, hc, rfl⟩ := hI
  unfold f_X8_commonDivisor_7 f_X8_commonDivisor_34
  by_cases b0 : B = 0
  · subst b0
    rw [Nat.gcd_zero_right] at hG
    have fin : wp (rt (if 1 < nI A then nI A else 1)) w' (fun r w'' => r = nI (Nat.gcd v 10000) ∧ w'' = w') := by
      rw [wp_rt]
      refine ⟨?_, rfl⟩
      by_cases h1 : 1 < A
      · rw [if_pos (gt_l 1 h1 (by omega)), hG]
      · rw [if_neg (ngt_l 1 (by omega) (by omega)), ← hG, show A = 1 by omega]; rfl
    refine wp_if (fun _ => fin) (fun _ => ?_)
    rw [if_pos (by decide)]
    exact fin
  · have k64 : k < 64 := by
      rcases hc with ⟨h, -⟩ | ⟨h1, h2, h3, h4⟩
      · omega
      · by_cases hk : k < 64
        · exact hk
        · exfalso
          have e : k = 64 := by omega
          subst e
          have h5 : 1 ≤ A * B := Nat.mul_pos h2 (by omega)
          have h6 : 1 * 2 ^ (64 - 1) ≤ A * B * 2 ^ (64 - 1) := Nat.mul_le_mul_right _ h5
          omega
    rw [if_neg (nge_l 64 k64 (by omega)), if_neg (nle_l 0 (by omega) (by omega)), wp_gd]
    refine ⟨ne_l 0 b0 (by omega) (by omega), ?_⟩
    rw [wp_nm, pk_rem (by omega) (by omega) (by omega), ad1]
    have hm : A % B < B := Nat.mod_lt _ (by omega)
    refine hs (64 - (k + 1)) _ _ _ _ (by omega) ⟨k + 1, B, A % B, by omega, rfl, rfl, rfl, rfl, hB, by omega, by rw [gcd_step, hG], Or.inr ⟨by omega, by omega, by omega, ?_⟩, rfl⟩
    rcases hc with ⟨rfl, rfl, rfl⟩ | ⟨h1, h2, h3, h4⟩
    · have := Nat.mul_le_mul (Nat.le_refl 10000) (show A % 10000 ≤ 10000 by omega)
      show 10000 * (A % 10000) * 1 ≤ _
      omega
    · have h5 := mod_half (by omega) h3
      obtain ⟨j, rfl⟩ : ∃ j, k = j + 1 := ⟨k - 1, by omega⟩
      show B * (A % B) * 2 ^ (j + 1) ≤ _
      have h6 : B * (A % B) * 2 ^ (j + 1) = (B * (2 * (A % B))) * 2 ^ j := by
        rw [Nat.pow_succ, Nat.mul_comm (2 ^ j) 2, ← Nat.mul_assoc, Nat.mul_assoc B, Nat.mul_comm (A % B) 2]
      rw [h6]
      refine Nat.le_trans (Nat.mul_le_mul_right _ (Nat.mul_le_mul_left _ h5)) ?_
      rw [Nat.mul_comm B A]
      exact h4
def pw (c : Int64) : Nat → Int64
  | 0 => 1
  | k + 1 => pw c k * c
theorem rd_pow8 {j q : Nat} (hj : j < 5) (hq : q < 2 ^ 31) : Rd (fix2 FU (f_X8_odds_87 (nI j) (nI q)) 1 0) w (pw (lN q) j) := by
  refine wp_fix2 (fun m x y w' => ∃ k, k ≤ j ∧ m = j - k ∧ y = nI k ∧ x = pw (lN q) k ∧ w' = w) (fun m x y w' self hI hs => ?_) FU j _ 0 w (by have := FU_big; omega) ⟨0, by omega, by omega, rfl, rfl, rfl⟩
  obtain ⟨k, k1, k2, rfl, rfl, rfl⟩ := hI
  unfold f_X8_odds_87
  by_cases hk : j ≤ k
  · rw [if_pos (nI_le hk (by omega)), wp_rt, show k = j by omega]
    exact ⟨rfl, rfl⟩
  · rw [if_neg (nI_ge (by omega) (by omega)), wp_nm, nI_l hq, ad1]
    exact hs (j - (k + 1)) _ _ _ (by omega) ⟨k + 1, by omega, rfl, rfl, rfl, rfl⟩
theorem rd_pow9 {j q : Nat} (hj : j < 5) : Rd (f_X9_odds_120 (nI j) (lN q)) w (pw (lN q) j) := by
  unfold f_X9_odds_120
  refine wp_fix2 (fun m x y w' => ∃ k, k ≤ j ∧ m = j - k ∧ y = nI k ∧ x = pw (lN q) k ∧ w' = w) (fun m x y w' self hI hs => ?_) FU j _ 0 w (by have := FU_big; omega) ⟨0, by omega, by omega, rfl, rfl, rfl⟩
  obtain ⟨k, k1, k2, rfl, rfl, rfl⟩ := hI
  unfold f_X9_odds_128
  by_cases hk : j ≤ k
  · rw [if_pos (nI_le hk (by omega)), wp_rt, show k = j by omega]
    exact ⟨rfl, rfl⟩
  · rw [if_neg (nI_ge (by omega) (by omega)), wp_nm, ad1]
    exact hs (j - (k + 1)) _ _ _ (by omega) ⟨k + 1, by omega, rfl, rfl, rfl, rfl⟩
theorem rd_odds9 {v j c : Nat} (hv : v ≤ 10000) (hj : j < 5) (hc : c < 2) : Rd (fix2 FU (f_X9_odds_77 (nI j) (nI c) (lN v) 10000) 10000 (lN v)) w (pw (lN ((if c = 0 then v else 10000) / Nat.gcd v 10000)) j) := by
  have hg : 0 < Nat.gcd v 10000 := Nat.gcd_pos_of_pos_right _ (by omega)
  have hg2 : Nat.gcd v 10000 ≤ 10000 := Nat.gcd_le_right _ (by omega)
  refine wp_fix2 (fun m x y w' => ∃ A B, m = B ∧ x = lN A ∧ y = lN B ∧ A ≤ 10000 ∧ B ≤ 10000 ∧ Nat.gcd A B = Nat.gcd v 10000 ∧ w' = w) (fun m x y w' self hI hs => ?_) FU v _ _ w (by have := FU_big; omega) ⟨10000, v, rfl, rfl, rfl, by omega, hv, Nat.gcd_comm _ _, rfl⟩
  obtain ⟨A, B, rfl, rfl, rfl, hA, hB, hG, rfl⟩ := hI
  unfold f_X9_odds_77
  by_cases b0 : m = 0
  · subst b0
    rw [Nat.gcd_zero_right] at hG
    rw [if_pos ((lg_cmp_eq (lN 0) 0).mpr rfl)]
    have nz : ¬ lN A = 0 := fun e => by
      have := (pk_lEQ (a := A) (b := 0) (by omega) (by omega)).mp e
      omega
    rcases (by omega : c = 0 ∨ c = 1) with rfl | rfl
    · rw [if_pos (eq_l 0 rfl), wp_gd]
      refine ⟨nz, ?_⟩
      rw [pk_lDiv (by omega) (by omega) (by omega), hG]
      exact rd_pow9 hj
    · rw [if_neg (by decide), wp_gd]
      refine ⟨nz, ?_⟩
      rw [show (10000 : Int64) = lN 10000 from rfl, pk_lDiv (by omega) (by omega) (by omega), hG]
      exact rd_pow9 hj
  · have nz : ¬ lN m = 0 := fun e => b0 ((pk_lEQ (a := m) (b := 0) (by omega) (by omega)).mp e)
    rw [if_neg (fun e => nz ((lg_cmp_eq _ _).mp e)), wp_gd]
    refine ⟨nz, ?_⟩
    have hm : A % m < m := Nat.mod_lt _ (by omega)
    rw [wp_nm, pk_lRem (by omega) (by omega) (by omega)]
    exact hs (A % m) _ _ _ hm ⟨m, A % m, rfl, rfl, rfl, hB, by omega, by rw [gcd_step, hG], rfl⟩
theorem pr_odds (hw : Inv w) (x1 x2 x3 x4 : Int32) : Pair (f_X8_odds x1 x2 x3 x4) (f_X9_odds x1 x2 x3 x4) w := by
  unfold Pair f_X8_odds f_X9_odds f_X8_odds_37 f_X9_odds_47
  rw [wp_bnd]
  have inn : ∀ {j n : Nat} {hi : Int64} {w' : Wd} {Q : Int32 → Wd → Prop}, j < n → n < 2 ^ 31 → hi.toInt = n - 1 → (wp (f_X9_in (nI j).toInt64 0 hi) w' Q ↔ Q 1 w') := by
    intro j n hi w' Q h1 h2 h3
    exact wp_in (by rw [i2l_toInt, nI_toInt (by omega), h3]; exact ⟨by show (0 : Int) ≤ j; omega, by omega⟩)
  have ino : ∀ {x : Int32} {n : Nat} {hi : Int64} {w' : Wd} {Q : Int32 → Wd → Prop}, (x < 0 ∨ nI n ≤ x) → n < 2 ^ 31 → hi.toInt = n - 1 → (wp (f_X9_in x.toInt64 0 hi) w' Q ↔ Q 0 w') := by
    intro x n hi w' Q h1 h2 h3
    have ho := out_toInt h1 h2
    exact wp_ino (by rw [i2l_toInt, h3]; exact ho.imp (fun z => by show x.toInt < 0; omega) (fun z => by omega))
  rcases ix_cases x1 101 (by omega) with ⟨a, ha, rfl⟩ | h1
  · refine (wp_bel (n := 101) ha (by omega)).mpr ?_
    rw [if_neg (by decide), wp_bnd]
    rcases ix_cases x2 101 (by omega) with ⟨b, hb, rfl⟩ | h2
    · refine (wp_bel (n := 101) hb (by omega)).mpr ?_
      rw [if_neg (by decide)]
      by_cases h3 : ∃ j, 1 ≤ j ∧ j ≤ 4 ∧ x3 = nI j
      · obtain ⟨j, j1, j2, rfl⟩ := h3
        rw [if_neg (nlt_l 1 j1 (by omega)), if_neg (ngt_l 4 j2 (by omega)), wp_bnd]
        have in3 : ∀ {w' : Wd} {Q : Int32 → Wd → Prop}, wp (f_X9_in (nI j).toInt64 1 4) w' Q ↔ Q 1 w' := wp_in (by rw [i2l_toInt, nI_toInt (by omega)]; exact ⟨by show (1 : Int) ≤ j; omega, by show (j : Int) ≤ 4; omega⟩)
        rcases ix_cases x4 2 (by omega) with ⟨c, hc, rfl⟩ | h4
        · refine (wp_bel (n := 2) hc (by omega)).mpr ?_
          have hm : a * (100 - b) ≤ 100 * 100 := Nat.mul_le_mul (by omega) (by omega)
          have e1 : nI a * (100 - nI b) = nI (a * (100 - b)) := by
            rw [show (100 : Int32) - nI b = nI (100 - b) from pk_sub (a := 100) (by omega), pk_mul]
          have e2 : 10000 - nI (a * (100 - b)) = nI (10000 - a * (100 - b)) := pk_sub (a := 10000) (by omega)
          have e3 : 10000 - (nI (a * (100 - b))).toInt64 = lN (10000 - a * (100 - b)) := by
            rw [nI_l (by omega)]
            exact lN_sub (a := 10000) (by omega)
          rw [if_neg (by decide), wp_nm, e1, e2]
          have hv : 10000 - a * (100 - b) ≤ 10000 := by omega
          generalize hvv : 10000 - a * (100 - b) = v at hv e3 ⊢
          have hg : 0 < Nat.gcd v 10000 := Nat.gcd_pos_of_pos_right _ (by omega)
          have hg2 : Nat.gcd v 10000 ≤ 10000 := Nat.gcd_le_right _ (by omega)
          rw [wp_bnd, (rd_gcd8 hv).wp]
          have c8 : Rd (if nI c = 0 then f_X8_odds_76 (nI j) (nI (Nat.gcd v 10000)) (nI v) else f_X8_odds_76 (nI j) (nI (Nat.gcd v 10000)) 10000) w (pw (lN ((if c = 0 then v else 10000) / Nat.gcd v 10000)) j) := by
            unfold Rd f_X8_odds_76
            rcases (by omega : c = 0 ∨ c = 1) with rfl | rfl
            · rw [if_pos (eq_l 0 rfl), wp_gd, wp_nm, pk_div (by omega) (by omega) (by omega)]
              exact ⟨ne_l 0 (by omega) (by omega) (by omega), rd_pow8 (by omega) (by have := Nat.div_le_self v (Nat.gcd v 10000); omega)⟩
            · rw [if_neg (by decide), wp_gd, wp_nm, show (10000 : Int32) = nI 10000 from rfl, pk_div (by omega) (by omega) (by omega)]
              exact ⟨ne_l 0 (by omega) (by omega) (by omega), rd_pow8 (by omega) (by have := Nat.div_le_self 10000 (Nat.gcd v 10000); omega)⟩
          rw [c8.wp, wp_bnd, inn ha (by omega) (by decide), if_neg (by decide), wp_bnd, inn hb (by omega) (by decide), if_neg (by decide), wp_bnd, in3, if_neg (by decide), wp_bnd, inn hc (by omega) (by decide), if_neg (by decide), wp_nm, e3, (rd_odds9 hv (by omega) hc).wp]
          exact ⟨rfl, hw⟩
        · refine (wp_beo (n := 2) h4).mpr ?_
          rw [if_pos rfl, wp_rt, wp_bnd, inn ha (by omega) (by decide), if_neg (by decide), wp_bnd, inn hb (by omega) (by decide), if_neg (by decide), wp_bnd, in3, if_neg (by decide), wp_bnd, ino h4 (by omega) (by decide), if_pos rfl]
          exact wp_rt.mpr ⟨rfl, hw⟩
      · have hx : x3.toInt < 1 ∨ 4 < x3.toInt := by
          by_cases q1 : x3.toInt < 1
          · exact Or.inl q1
          · right
            by_cases q2 : 4 < x3.toInt
            · exact q2
            · exfalso
              refine h3 ⟨x3.toInt.toNat, by omega, by omega, ?_⟩
              apply Int32.toInt_inj.mp
              rw [nI_toInt (by omega)]
              omega
        have r8 : ∀ {Q : Int64 → Wd → Prop} {K : M Int64}, Q (-1) w → wp (if x3 < 1 then rt (-1) else if 4 < x3 then rt (-1) else K) w Q := by
          intro Q K hQ
          rcases hx with hx | hx
          · rw [if_pos (show x3 < (1 : Int32) from Int32.lt_iff_toInt_lt.mpr (show x3.toInt < (1 : Int32).toInt from hx))]
            exact wp_rt.mpr hQ
          · refine wp_if (fun _ => wp_rt.mpr hQ) (fun _ => ?_)
            rw [if_pos (show (4 : Int32) < x3 from Int32.lt_iff_toInt_lt.mpr (show (4 : Int32).toInt < x3.toInt from hx))]
            exact wp_rt.mpr hQ
        refine r8 ?_
        rw [wp_bnd, inn ha (by omega) (by decide), if_neg (by decide), wp_bnd, inn hb (by omega) (by decide), if_neg (by decide), wp_bnd, wp_ino (by rw [i2l_toInt]; exact hx), if_pos rfl]
        exact wp_rt.mpr ⟨rfl, hw⟩
    · refine (wp_beo (n := 101) h2).mpr ?_
      rw [if_pos rfl, wp_rt, wp_bnd, inn ha (by omega) (by decide), if_neg (by decide), wp_bnd, ino h2 (by omega) (by decide), if_pos rfl]
      exact wp_rt.mpr ⟨rfl, hw⟩
  · refine (wp_beo (n := 101) h1).mpr ?_
    rw [if_pos rfl, wp_rt, wp_bnd, ino h1 (by omega) (by decide), if_pos rfl]
    exact wp_rt.mpr ⟨rfl, hw⟩
end ODDS
