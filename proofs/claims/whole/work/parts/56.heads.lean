/-! heads: head, same, lost, from, since -/
section BITS
def bt (x : Int32) (j : Nat) : Bool := x.toBitVec.getLsbD j
theorem sh31 : ∀ j, j < 32 → ((nI j &&& 31).toBitVec.smod 32).toNat = j := by decide
theorem bitx (x : Int32) {j : Nat} (hj : j < 32) : ((x >>> (nI j &&& 31)) &&& 1) = if bt x j then 1 else 0 := by
  apply Int32.toBitVec_inj.mp
  show (x.toBitVec.sshiftRight' ((nI j &&& 31).toBitVec.smod 32)) &&& 1#32 = _
  rw [BitVec.sshiftRight_eq', sh31 j hj]
  apply BitVec.eq_of_getLsbD_eq
  intro i hi
  rw [BitVec.getLsbD_and, BitVec.getLsbD_sshiftRight, BitVec.getLsbD_one]
  unfold bt
  by_cases i0 : i = 0
  · subst i0
    cases hb : x.toBitVec.getLsbD j <;> simp [hb, hj]
  · cases hb : x.toBitVec.getLsbD j <;> simp [i0]
theorem bitn (x : Int32) {j : Nat} (hj : j < 32) : bt (x ^^^ (-1)) j = !bt x j := by
  unfold bt
  show (x.toBitVec ^^^ (-1#32)).getLsbD j = _
  rw [BitVec.getLsbD_xor]
  have : (-1#32 : BitVec 32).getLsbD j = true := by
    rw [BitVec.neg_one_eq_allOnes, BitVec.getLsbD_allOnes]
    simp [hj]
  rw [this]
  simp
theorem bt_nI {n : Nat} (hn : n < 2 ^ 32) (j : Nat) : bt (nI n) j = n.testBit j := by
  unfold bt
  show ((BitVec.ofNat 32 n)).getLsbD j = _
  rw [← BitVec.testBit_toNat, BitVec.toNat_ofNat, Nat.mod_eq_of_lt hn]
theorem or_nI (a b : Nat) (ha : a < 2 ^ 31) (hb : b < 2 ^ 31) : nI a ||| nI b = nI (a ||| b) := by
  apply Int32.toBitVec_inj.mp
  apply BitVec.eq_of_toNat_eq
  show ((nI a).toBitVec ||| (nI b).toBitVec).toNat = _
  have := Nat.or_lt_two_pow ha hb
  rw [BitVec.toNat_or, pk_tn (by omega), pk_tn (by omega), pk_tn (by omega)]
theorem and_nI (a b : Nat) (ha : a < 2 ^ 31) (hb : b < 2 ^ 31) : nI a &&& nI b = nI (a &&& b) := by
  apply Int32.toBitVec_inj.mp
  apply BitVec.eq_of_toNat_eq
  show ((nI a).toBitVec &&& (nI b).toBitVec).toNat = _
  have := Nat.and_lt_two_pow a hb
  rw [BitVec.toNat_and, pk_tn (by omega), pk_tn (by omega), pk_tn (by omega)]
theorem shl1 {j : Nat} (hj : j < 31) : (1 : Int32) <<< (nI j &&& 31) = nI (2 ^ j) := by
  have h := Nat.pow_lt_pow_right (a := 2) (by omega) hj
  have := pk_shlN (n := 1) (nI j &&& 31) j (sh31 j (by omega)) (by omega)
  rw [show 1 * 2 ^ j = 2 ^ j by omega] at this
  exact this
theorem orn_and (a b : Int32) : (a ||| b) &&& (b ^^^ (-1)) = a &&& (b ^^^ (-1)) := by
  apply Int32.toBitVec_inj.mp
  apply BitVec.eq_of_getLsbD_eq
  intro i hi
  show ((a.toBitVec ||| b.toBitVec) &&& (b.toBitVec ^^^ (-1#32))).getLsbD i = (a.toBitVec &&& (b.toBitVec ^^^ (-1#32))).getLsbD i
  have : (-1#32 : BitVec 32).getLsbD i = true := by
    rw [BitVec.neg_one_eq_allOnes, BitVec.getLsbD_allOnes]
    simp [hi]
  rw [BitVec.getLsbD_and, BitVec.getLsbD_and, BitVec.getLsbD_or, BitVec.getLsbD_xor, this]
  cases a.toBitVec.getLsbD i <;> cases b.toBitVec.getLsbD i <;> rfl
theorem or4 (a b c d : Int32) : (a ||| b) ||| (c ||| d) = (a ||| c) ||| (b ||| d) := by
  rw [Int32.or_assoc, Int32.or_assoc]
  congr 1
  rw [← Int32.or_assoc, ← Int32.or_assoc, Int32.or_comm b c]
def orr (f : Nat → Int32) : Nat → Int32
  | 0 => 0
  | n + 1 => orr f n ||| f n
theorem orr_or {f g h : Nat → Int32} (e : ∀ i, h i = f i ||| g i) : ∀ n, orr h n = orr f n ||| orr g n
  | 0 => by show (0 : Int32) = 0 ||| 0; decide
  | n + 1 => by
    show orr h n ||| h n = (orr f n ||| f n) ||| (orr g n ||| g n)
    rw [orr_or e n, e n, or4]
end BITS
section HEADS2
variable {w : Wd}
def hy (w : Wd) (h : Nat) : Nat := (gi w 156 h).toNatClampNeg
def hv (w : Wd) (h : Nat) : Nat := (gi w 157 h).toNatClampNeg
def hal (w : Wd) (h : Nat) : Nat := (gi w 155 h).toNatClampNeg
def hln (w : Wd) (h : Nat) : Nat := (gi w 158 h).toNatClampNeg
theorem IHd.g (hH : IHd w) : ∃ n, n ≤ 16 ∧ gi w 154 0 = nI n ∧ gi w 161 15 = nI n ∧ ∀ h, h < n → hy w h ≤ 3000 ∧ hv w h < 6 ∧ hal w h < 2 ∧ gi w 156 h = nI (hy w h) ∧ gi w 174 (4 * h) = nI (hy w h) ∧ gi w 157 h = nI (hv w h) ∧ gi w 174 (4 * h + 2) = nI (hv w h) ∧ gi w 155 h = nI (hal w h) ∧ gi w 174 (4 * h + 3) = nI (hal w h) ∧ gi w 158 h = nI (hln w h) ∧ hln w h < 2 ^ (h + 1) ∧ ((gi w 174 (4 * h + 1) = nI 0 - 1 ∧ hln w h = 2 ^ h) ∨ ∃ g, g < h ∧ gi w 174 (4 * h + 1) = nI g ∧ hln w g < 2 ^ h ∧ hln w h = 2 ^ h + hln w g) := by
  obtain ⟨n, n1, n2, n3, n4⟩ := hH
  refine ⟨n, n1, n2, n3, fun h hh => ?_⟩
  obtain ⟨y, v, a, b, l, g1, g2, g3, g4, g5, g6, g7, g8, g9, g10, g11, g12, g13, g14, g15⟩ := n4 h hh
  have hp : 2 ^ (h + 1) ≤ 2 ^ 17 := Nat.pow_le_pow_right (by omega) (by omega)
  have e1 : hy w h = y := by unfold hy; rw [g6, cl_nI (by omega)]
  have e2 : hv w h = v := by unfold hv; rw [g8, cl_nI (by omega)]
  have e3 : hal w h = a := by unfold hal; rw [g10, cl_nI (by omega)]
  have e4 : hln w h = l := by unfold hln; rw [g13, cl_nI (by omega)]
  rw [e1, e2, e3, e4]
  refine ⟨g1, g2, g3, g6, g7, g8, g9, g10, g11, g13, g5, ?_⟩
  by_cases b0 : b = 0
  · left
    rw [b0] at g12
    exact ⟨g12, g14 b0⟩
  · right
    obtain ⟨l', f1, f2, f3⟩ := g15 (by omega)
    have hp2 : 2 ^ b ≤ 2 ^ h := Nat.pow_le_pow_right (by omega) g4
    have hp3 : 2 ^ h ≤ 2 ^ 16 := Nat.pow_le_pow_right (by omega) (by omega)
    have e5 : hln w (b - 1) = l' := by unfold hln; rw [f1, cl_nI (by omega)]
    refine ⟨b - 1, by omega, ?_, by rw [e5]; omega, by rw [e5]; exact f3⟩
    rw [g12, show b = (b - 1) + 1 by omega, sb1]
    rfl
theorem rd_has (x : Int32) {j : Nat} (hj : j < 32) : Rd (f_X9_has x (nI j)) w (if bt x j then 1 else 0) := by
  unfold f_X9_has f_X9_has_14
  rw [bitx x hj]
  cases bt x j
  · rw [if_neg (by decide)]
    exact wp_gd.mpr ⟨by decide, rd_rt⟩
  · rw [if_pos (by rfl)]
    exact wp_gd.mpr ⟨by decide, rd_rt⟩
theorem set_cases (x : Int32) {n : Nat} (hn : n ≤ 16) (h1 : gi w 154 0 = nI n) (h2 : gi w 161 15 = nI n) : (Rd (f_X2_isSet x) w 1 ∧ Rd (f_X9_areHeads x) w 1) ∨ (Rd (f_X2_isSet x) w 0 ∧ Rd (f_X9_areHeads x) w 0) := by
  have hp : 2 ^ n ≤ 2 ^ 16 := Nat.pow_le_pow_right (by omega) hn
  have hp0 : 0 < 2 ^ n := Nat.two_pow_pos n
  unfold Rd f_X2_isSet f_X2_isSet_17 f_X2_isSet_18 f_X9_areHeads
  have em : (1 : Int32) <<< (nI n &&& 31) - 1 = nI (2 ^ n - 1) := by
    rw [shl1 (by omega), show 2 ^ n = (2 ^ n - 1) + 1 by omega, sb1]
    rfl
  simp only [wp_rI, h2, em]
  rcases ix_cases x (2 ^ n) (by omega) with ⟨s, hs, rfl⟩ | hx
  · left
    refine ⟨?_, ?_⟩
    · rw [if_neg (nI_pos (by omega)), wp_rI, h1, pk_shrN (by omega) _ n (sh31 n (by omega)), Nat.div_eq_of_lt hs, if_pos (eq_l 0 rfl), wp_gd, wp_rt]
      exact ⟨by decide, rfl, rfl⟩
    · rw [wp_bnd, wp_in (by rw [i2l_toInt, i2l_toInt, nI_toInt (by omega), nI_toInt (by omega)]; exact ⟨by show (0 : Int) ≤ s; omega, by omega⟩), wp_gd, wp_rt]
      exact ⟨by decide, rfl, rfl⟩
  · right
    have ho := out_toInt hx (by omega)
    refine ⟨?_, ?_⟩
    · refine wp_if (fun _ => ?_) (fun hx0 => ?_)
      · rw [wp_gd, wp_rt]
        exact ⟨by decide, rfl, rfl⟩
      · obtain ⟨s, hs, rfl⟩ := nI_of hx0
        rw [nI_toInt hs] at ho
        rw [wp_rI, h1, pk_shrN hs _ n (sh31 n (by omega)), if_neg (ne_l 0 (by
          have : 0 < s / 2 ^ n := Nat.div_pos (by omega) hp0
          omega) (by have := Nat.div_le_self s (2 ^ n); omega) (by omega)), wp_gd, wp_rt]
        exact ⟨by decide, rfl, rfl⟩
    · rw [wp_bnd, wp_ino (by rw [i2l_toInt, i2l_toInt, nI_toInt (by omega)]; exact ho.imp (fun z => by show x.toInt < 0; omega) (fun z => by omega)), wp_gd, wp_rt]
      exact ⟨by decide, rfl, rfl⟩
theorem pr_lost (hw : Inv w) (x1 : Int32) : Pair (f_X8_lost x1) (f_X9_lost x1) w := by
  obtain ⟨t, W, hR, hT, hTo, hJ, hV, hS, hK, hL, hH⟩ := id hw
  obtain ⟨n, n1, n2, n3, n4⟩ := hH.g
  unfold Pair f_X8_lost f_X9_lost
  rcases set_cases x1 n1 n2 n3 with ⟨s1, s2⟩ | ⟨s1, s2⟩
  · let f : Int32 → Nat → Int32 := fun x h => if hal w h = 1 ∧ bt x h = true then (1 : Int32) <<< (nI (hv w h) &&& 31) else 0
    have hf1 : ∀ x h, hal w h = 1 → bt x h = true → f x h = (1 : Int32) <<< (nI (hv w h) &&& 31) := fun x h a b => if_pos ⟨a, b⟩
    have hf0 : ∀ x h, ¬ (hal w h = 1 ∧ bt x h = true) → f x h = 0 := fun x h a => if_neg a
    have key1 : ∀ x, Rd (f_X2_versesOf x) w (orr (f x) n) := by
      intro x
      unfold f_X2_versesOf
      refine wp_fix2 (fun m a b w' => ∃ h, h ≤ n ∧ m = n - h ∧ b = nI h ∧ a = orr (f x) h ∧ w' = w) (fun m a b w' self hI hs => ?_) FU n 0 0 w (by have := FU_big; omega) ⟨0, by omega, by omega, rfl, rfl, rfl⟩
      obtain ⟨h, h1, h2, rfl, rfl, rfl⟩ := hI
      unfold f_X2_versesOf_4 f_X2_versesOf_41
      rw [wp_rI, n2]
      by_cases hh : n ≤ h
      · rw [if_pos (nI_le hh (by omega)), wp_rt, show h = n by omega]
        exact ⟨rfl, rfl⟩
      · obtain ⟨g1, g2, g3, g4, g5, g6, g7, g8, g9, -⟩ := n4 h (by omega)
        rw [if_neg (nI_ge (by omega) (by omega)), wp_aIn (by omega) (by omega), g8, bitx x (by omega), ad1]
        have go : ∀ u, u = f x h → wp (self (orr (f x) h ||| u) (nI (h + 1))) w' (fun r w'' => r = orr (f x) n ∧ w'' = w') := fun u hu =>
          hs (n - (h + 1)) _ _ _ (by omega) ⟨h + 1, by omega, rfl, rfl, by rw [hu]; rfl, rfl⟩
        have z : orr (f x) h ||| 0 = orr (f x) h := Int32.or_zero
        by_cases a1 : hal w' h = 1
        · rw [if_neg (ne_l 0 (by omega) (by omega) (by omega))]
          cases hb : bt x h
          · rw [if_neg (by decide), ← z]
            exact go 0 (hf0 x h (by rw [hb]; simp)).symm
          · rw [if_pos (by rfl), wp_aIn (by omega) (by omega), g6, wp_nm]
            exact go _ (hf1 x h a1 hb).symm
        · rw [if_pos (eq_l 0 (by omega)), ← z]
          exact go 0 (hf0 x h (fun q => a1 q.1)).symm
    have key2 : Rd (fix3 FU (f_X9_lost_17 x1) 0 0 0) w (orr (f x1) n &&& (orr (f (x1 ^^^ (-1))) n ^^^ (-1))) := by
      let c : Nat → Int32 := fun h => if hal w h = 1 then (1 : Int32) <<< (nI (hv w h) &&& 31) else 0
      let f' : Nat → Int32 := fun h => if h < 32 then f x1 h else c h
      let g' : Nat → Int32 := fun h => if h < 32 then f (x1 ^^^ (-1)) h else c h
      have hc1 : ∀ h, hal w h = 1 → c h = (1 : Int32) <<< (nI (hv w h) &&& 31) := fun h a => if_pos a
      have hc0 : ∀ h, ¬ hal w h = 1 → c h = 0 := fun h a => if_neg a
      have hg' : ∀ h, h < 32 → g' h = f (x1 ^^^ (-1)) h := fun h a => if_pos a
      have hc : ∀ i, c i = f' i ||| g' i := by
        intro i
        show (if _ then _ else _) = (if _ then (if _ then _ else _) else (if _ then _ else _)) ||| (if _ then (if _ then _ else _) else (if _ then _ else _))
        by_cases hi : i < 32
        · rw [if_pos hi, if_pos hi, bitn x1 hi]
          by_cases a1 : hal w i = 1
          · cases bt x1 i <;> simp [a1]
          · simp [a1]
        · rw [if_neg hi, if_neg hi, Int32.or_self]
      have oc : ∀ (u v : Nat → Int32), (∀ i, i < 32 → u i = v i) → ∀ m, m ≤ 32 → orr u m = orr v m := by
        intro u v e m
        induction m with
        | zero => intro _; rfl
        | succ m ih =>
          intro hm
          show orr u m ||| u m = orr v m ||| v m
          rw [ih (by omega), e m (by omega)]
      have ef := oc f' (f x1) (fun i hi => by show (if _ then _ else _) = _; rw [if_pos hi]) n (by omega)
      have eg := oc g' (f (x1 ^^^ (-1))) (fun i hi => by show (if _ then _ else _) = _; rw [if_pos hi]) n (by omega)
      refine wp_fix3 (fun m a b d w' => ∃ h, h ≤ n ∧ m = n - h ∧ d = nI h ∧ a = orr c h ∧ b = orr g' h ∧ w' = w) (fun m a b d w' self hI hs => ?_) FU n 0 0 0 w (by have := FU_big; omega) ⟨0, by omega, by omega, rfl, rfl, rfl, rfl⟩
      obtain ⟨h, h1, h2, rfl, rfl, rfl, rfl⟩ := hI
      unfold f_X9_lost_17 f_X9_lost_52 f_X9_lost_75
      rw [wp_rI, n3]
      by_cases hh : n ≤ h
      · rw [if_pos (nI_le hh (by omega)), wp_rt, show h = n by omega, orr_or hc n, orn_and, ef, eg]
        exact ⟨rfl, rfl⟩
      · obtain ⟨g1, g2, g3, g4, g5, g6, g7, g8, g9, -⟩ := n4 h (by omega)
        rw [if_neg (nI_ge (by omega) (by omega)), wp_bnd, wp_isAlive (by omega) g3 g9]
        have go : ∀ p q, p = c h → q = g' h → wp (self (orr c h ||| p) (orr g' h ||| q) (nI (h + 1))) w' (fun r w'' => r = orr (f x1) n &&& (orr (f (x1 ^^^ (-1))) n ^^^ (-1)) ∧ w'' = w') := fun p q hp hq =>
          hs (n - (h + 1)) _ _ _ _ (by omega) ⟨h + 1, by omega, rfl, rfl, by rw [hp]; rfl, by rw [hq]; rfl, rfl⟩
        have rest : ∀ p, p = c h → wp (nm (orr c h ||| p) fun v1 => bnd (f_X9_has x1 (nI h)) fun v2 => if v2 = 0 then nm (orr g' h ||| p) fun v1_1 => self v1 v1_1 (nI h + 1) else nm (orr g' h ||| 0) fun v1_1 => self v1 v1_1 (nI h + 1)) w' (fun r w'' => r = orr (f x1) n &&& (orr (f (x1 ^^^ (-1))) n ^^^ (-1)) ∧ w'' = w') := by
          intro p hp
          rw [wp_nm, wp_bnd, (rd_has x1 (by omega)).wp, ad1]
          cases hb : bt x1 h
          · rw [if_pos (by rfl), wp_nm]
            refine go p p hp ?_
            rw [hp, hg' h (by omega)]
            by_cases a1 : hal w' h = 1
            · rw [hc1 h a1, hf1 _ h a1 (by rw [bitn x1 (by omega), hb]; rfl)]
            · rw [hc0 h a1, hf0 _ h (fun q => a1 q.1)]
          · rw [if_neg (by decide), wp_nm]
            refine go p 0 hp ?_
            rw [hg' h (by omega), hf0 _ h (by rw [bitn x1 (by omega), hb]; simp)]
        by_cases a1 : hal w' h = 1
        · rw [if_neg (ne_l 0 (by omega) (by omega) (by omega)), mu4, ad2, wp_aIn (by omega) (by omega), g7]
          exact rest _ (hc1 h a1).symm
        · rw [if_pos (eq_l 0 (by omega))]
          exact rest _ (hc0 h a1).symm
    rw [wp_bnd, s1.wp, if_neg (by decide), wp_bnd, (key1 x1).wp, wp_bnd, (key1 _).wp, wp_rt, wp_bnd, s2.wp, if_neg (by decide), key2.wp]
    exact ⟨rfl, hw⟩
  · rw [wp_bnd, s1.wp, if_pos rfl, wp_rt, wp_bnd, s2.wp, if_pos rfl]
    exact wp_rt.mpr ⟨rfl, hw⟩
/-- the first number with P, or -4 -/
def fnd (P : Nat → Prop) [DecidablePred P] (i : Nat) : Nat → Int32
  | 0 => -4
  | k + 1 => if P i then nI i else fnd P (i + 1) k
theorem pr_from (hw : Inv w) (x1 x2 : Int32) : Pair (f_X8_from x1 x2) (f_X9_from x1 x2) w := by
  obtain ⟨t, W, hR, hT, hTo, hJ, hV, hS, hK, hL, hH⟩ := id hw
  obtain ⟨n, n1, n2, n3, n4⟩ := hH.g
  unfold Pair f_X8_from f_X9_from f_X8_from_20 f_X9_from_15
  rcases set_cases x1 n1 n2 n3 with ⟨s1, s2⟩ | ⟨s1, s2⟩
  · rw [wp_bnd, s1.wp, if_neg (by decide), wp_bnd]
    rcases ix_cases x2 6 (by omega) with ⟨b, hb, rfl⟩ | h2
    · refine (wp_bel (n := 6) hb (by omega)).mpr ?_
      let P : Nat → Prop := fun h => hal w h = 1 ∧ bt x1 h = false ∧ hv w h = b
      haveI : DecidablePred P := fun h => inferInstanceAs (Decidable (_ ∧ _))
      have stop : ∀ h, h < n → P h → fnd P h (n - h) = nI h := fun h h1 h2 => by
        rw [show n - h = (n - h - 1) + 1 by omega]
        show (if P h then _ else _) = _
        rw [if_pos h2]
      have skip : ∀ h, h < n → ¬ P h → fnd P h (n - h) = fnd P (h + 1) (n - (h + 1)) := fun h h1 h2 => by
        rw [show n - h = (n - (h + 1)) + 1 by omega]
        show (if P h then _ else _) = _
        rw [if_neg h2]
      have key1 : Rd (f_X2_lowestWith (x1 ^^^ (-1)) (nI b)) w (fnd P 0 n) := by
        unfold f_X2_lowestWith
        refine wp_fix1 (fun m a w' => ∃ h, h ≤ n ∧ m = n - h ∧ a = nI h ∧ fnd P 0 n = fnd P h (n - h) ∧ w' = w) (fun m a w' self hI hs => ?_) FU n 0 w (by have := FU_big; omega) ⟨0, by omega, by omega, rfl, rfl, rfl⟩
        obtain ⟨h, h1, h2, rfl, h3, rfl⟩ := hI
        unfold f_X2_lowestWith_2 f_X2_lowestWith_40
        rw [wp_rI, n2]
        by_cases hh : n ≤ h
        · rw [if_pos (nI_le hh (by omega)), wp_rt, h3, show n - h = 0 by omega]
          exact ⟨rfl, rfl⟩
        · obtain ⟨g1, g2, g3, g4, g5, g6, g7, g8, g9, -⟩ := n4 h (by omega)
          rw [if_neg (nI_ge (by omega) (by omega)), wp_aIn (by omega) (by omega), g8, bitx _ (by omega), bitn _ (by omega), ad1]
          have go : ¬ P h → wp (self (nI (h + 1))) w' (fun r w'' => r = fnd P 0 n ∧ w'' = w') := fun hP =>
            hs (n - (h + 1)) _ _ (by omega) ⟨h + 1, by omega, rfl, rfl, by rw [h3, skip h (by omega) hP], rfl⟩
          by_cases a1 : hal w' h = 1
          · rw [if_neg (ne_l 0 (by omega) (by omega) (by omega))]
            cases hb : bt x1 h
            · rw [if_pos (by rfl), wp_aIn (by omega) (by omega), g6]
              by_cases hvb : hv w' h = b
              · rw [if_pos (by rw [hvb]), wp_rt, h3, stop h (by omega) ⟨a1, hb, hvb⟩]
                exact ⟨rfl, rfl⟩
              · rw [if_neg (fun e => hvb ((nI_eq (by omega) (by omega)).mp e))]
                exact go (fun q => hvb q.2.2)
            · rw [if_neg (by decide)]
              exact go (fun q => Bool.noConfusion (hb.symm.trans q.2.1))
          · rw [if_pos (eq_l 0 (by omega))]
            exact go (fun q => a1 q.1)
      have key2 : Rd (fix1 FU (f_X9_from_19 x1 (nI b)) 0) w (fnd P 0 n) := by
        refine wp_fix1 (fun m a w' => ∃ h, h ≤ n ∧ m = n - h ∧ a = nI h ∧ fnd P 0 n = fnd P h (n - h) ∧ w' = w) (fun m a w' self hI hs => ?_) FU n 0 w (by have := FU_big; omega) ⟨0, by omega, by omega, rfl, rfl, rfl⟩
        obtain ⟨h, h1, h2, rfl, h3, rfl⟩ := hI
        unfold f_X9_from_19 f_X9_from_59
        rw [wp_rI, n3]
        by_cases hh : n ≤ h
        · rw [if_pos (nI_le hh (by omega)), wp_rt, h3, show n - h = 0 by omega]
          exact ⟨rfl, rfl⟩
        · obtain ⟨g1, g2, g3, g4, g5, g6, g7, g8, g9, -⟩ := n4 h (by omega)
          have go : ¬ P h → wp (self (nI h + 1)) w' (fun r w'' => r = fnd P 0 n ∧ w'' = w') := fun hP => by
            rw [ad1]
            exact hs (n - (h + 1)) _ _ (by omega) ⟨h + 1, by omega, rfl, rfl, by rw [h3, skip h (by omega) hP], rfl⟩
          rw [if_neg (nI_ge (by omega) (by omega)), wp_bnd, wp_isAlive (by omega) g3 g9]
          by_cases a1 : hal w' h = 1
          · rw [if_neg (ne_l 0 (by omega) (by omega) (by omega)), wp_bnd, (rd_has x1 (by omega)).wp]
            cases hb : bt x1 h
            · rw [if_pos (by rfl), mu4, ad2, wp_aIn (by omega) (by omega), g7]
              by_cases hvb : hv w' h = b
              · rw [if_pos (by rw [hvb]), wp_rt, h3, stop h (by omega) ⟨a1, hb, hvb⟩]
                exact ⟨rfl, rfl⟩
              · rw [if_neg (fun e => hvb ((nI_eq (by omega) (by omega)).mp e))]
                exact go (fun q => hvb q.2.2)
            · rw [if_neg (by decide)]
              exact go (fun q => Bool.noConfusion (hb.symm.trans q.2.1))
          · rw [if_pos (eq_l 0 (by omega))]
            exact go (fun q => a1 q.1)
      rw [if_neg (by decide), wp_bnd, key1.wp, wp_rt, wp_bnd, s2.wp, if_neg (by decide), wp_bnd, wp_ver hb, if_neg (by decide), key2.wp]
      exact ⟨rfl, hw⟩
    · refine (wp_beo (n := 6) h2).mpr ?_
      rw [if_pos rfl, wp_rt, wp_bnd, s2.wp, if_neg (by decide), wp_bnd, wp_vero h2, if_pos rfl]
      exact wp_rt.mpr ⟨rfl, hw⟩
  · rw [wp_bnd, s1.wp, if_pos rfl, wp_rt, wp_bnd, s2.wp, if_pos rfl]
    exact wp_rt.mpr ⟨rfl, hw⟩
end HEADS2
