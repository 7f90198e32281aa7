/-! write, list, keep, back -/
/-- a program that only reads, and its answer -/
def Rd {R : Type} (m : M R) (w : Wd) (v : R) : Prop := wp m w (fun r w' => r = v ∧ w' = w)
section RD
variable {R : Type} {w : Wd} {v : R} {m f g : M R}
theorem Rd.wp {Q : R → Wd → Prop} (h : Rd m w v) : wp m w Q ↔ Q v w := by
  obtain ⟨r, w', h1, rfl, rfl⟩ := h
  exact wp_of h1
theorem pair_rd (hw : Inv w) (h1 : Rd f w v) (h2 : Rd g w v) : Pair f g w := by
  unfold Pair
  rw [h1.wp, h2.wp]
  exact ⟨rfl, hw⟩
theorem rd_rt : Rd (rt v) w v := wp_rt.mpr ⟨rfl, rfl⟩
end RD
theorem byte_of (x : Int64) : ∃ c, c < 256 ∧ (x &&& 255).toInt32 = nI c ∧ x.toInt32.toInt8.toInt32 = (nI c).toInt8.toInt32 := by
  have hx : x.toInt = (x.toBitVec.toNat : Int).bmod (2 ^ 64) := BitVec.toInt_eq_toNat_bmod _
  have h1 : x.toBitVec.toNat % 256 < 256 := Nat.mod_lt _ (by omega)
  have hn : (x &&& 255).toBitVec.toNat = x.toBitVec.toNat % 256 := by
    show (x.toBitVec &&& (255 : Int64).toBitVec).toNat = _
    rw [BitVec.toNat_and]
    exact Nat.and_two_pow_sub_one_eq_mod _ 8
  have hm : (x &&& 255).toInt = (x.toBitVec.toNat % 256 : Nat) := by
    have h2 : (x &&& 255).toInt = ((x &&& 255).toBitVec.toNat : Int).bmod (2 ^ 64) := BitVec.toInt_eq_toNat_bmod _
    rw [h2, hn]
    exact Int.bmod_eq_of_le (by omega) (by omega)
  refine ⟨x.toBitVec.toNat % 256, h1, ?_, ?_⟩
  · apply Int32.toInt_inj.mp
    rw [Int64.toInt_toInt32, hm, nI_toInt (by omega)]
    exact Int.bmod_eq_of_le (by omega) (by omega)
  · congr 1
    apply Int8.toInt_inj.mp
    rw [Int32.toInt_toInt8, Int32.toInt_toInt8, Int64.toInt_toInt32, nI_toInt (by omega), Int.bmod_bmod_of_dvd (by decide), hx, Int.bmod_bmod_of_dvd (by decide)]
    show _ = (((x.toBitVec.toNat % 256 : Nat) : Int)).bmod 256
    rw [Int.natCast_emod]
    exact (Int.emod_bmod (x := (x.toBitVec.toNat : Int)) (n := 256)).symm
section BOOKS
variable {w : Wd}
theorem m1_lt : nI 0 - 1 < 0 := by decide
theorem m1_add (r : Nat) : nI r + (-1) = nI r - 1 := by rw [Int32.sub_eq_add_neg]
theorem wp_append (x2 : Int64) {n j : Nat} (h : n + j ≤ 300) (hn : gi w 1 1 = nI n) : wp (fix1 FU (f_X4_append_20 x2) (nI j - 1)) w (fun r w' => r = nI (n + j) ∧ gr w' = gr w ∧ gi w' 1 1 = nI (n + j) ∧ (∀ i, i < j → gi w' 2 (n + i) = ((x2 >>> ((8 * nI (j - 1 - i)).toInt64 &&& 63)).toInt32).toInt8.toInt32) ∧ ∀ q k, ¬ (q = 1 ∧ k = 1) → ¬ (q = 2 ∧ n ≤ k) → gi w' q k = gi w q k) := by
  refine wp_fix1 (fun m a w' => m ≤ j ∧ a = nI m - 1 ∧ gr w' = gr w ∧ gi w' 1 1 = nI (n + (j - m)) ∧ (∀ i, i < j - m → gi w' 2 (n + i) = ((x2 >>> ((8 * nI (j - 1 - i)).toInt64 &&& 63)).toInt32).toInt8.toInt32) ∧ ∀ q k, ¬ (q = 1 ∧ k = 1) → ¬ (q = 2 ∧ n ≤ k) → gi w' q k = gi w q k) (fun m a w' self hI hs => ?_) FU j _ w (by have := FU_big; omega) ⟨by omega, rfl, rfl, by rw [hn]; congr 1; omega, fun i hi => by omega, fun _ _ _ _ => rfl⟩
  obtain ⟨h1, rfl, h2, h3, h4, h5⟩ := hI
  unfold f_X4_append_20
  cases m with
  | zero =>
    rw [if_pos m1_lt, wp_rI, h3, wp_rt]
    exact ⟨rfl, h2, h3, h4, h5⟩
  | succ m =>
    rw [sb1, if_neg (nI_pos (by omega)), wp_rI, h3, wp_sIn (by omega) (by omega), wp_rI, gi_si_n (by omega), h3, wp_wI, m1_add, ad1, pk_vb]
    refine hs m _ _ (by omega) ⟨by omega, rfl, h2, ?_, fun i hi => ?_, fun q k hq hk => ?_⟩
    · rw [gi_si_s]; congr 1; omega
    · rw [gi_si_n (by omega)]
      by_cases e : i = j - (m + 1)
      · rw [e, gi_si_s, show j - 1 - (j - (m + 1)) = m by omega]
      · rw [gi_si_n (by omega)]
        exact h4 i (by omega)
    · rw [gi_si_n (by omega), gi_si_n (by omega)]
      exact h5 q k hq hk
theorem wp_write9 (x2 : Int64) {n j : Nat} (h : n + j ≤ 300) (hn : gi w 161 0 = nI n) : wp (fix1 FU (f_X9_write_34 x2) (nI j - 1)) w (fun r w' => r = nI (n + j) ∧ gr w' = gr w ∧ gi w' 161 0 = nI (n + j) ∧ (∀ i, i < j → gi w' 162 (n + i) = ((x2 >>> ((8 * nI (j - 1 - i)).toInt64 &&& 63)) &&& 255).toInt32) ∧ ∀ q k, ¬ (q = 161 ∧ k = 0) → ¬ (q = 162 ∧ n ≤ k) → gi w' q k = gi w q k) := by
  refine wp_fix1 (fun m a w' => m ≤ j ∧ a = nI m - 1 ∧ gr w' = gr w ∧ gi w' 161 0 = nI (n + (j - m)) ∧ (∀ i, i < j - m → gi w' 162 (n + i) = ((x2 >>> ((8 * nI (j - 1 - i)).toInt64 &&& 63)) &&& 255).toInt32) ∧ ∀ q k, ¬ (q = 161 ∧ k = 0) → ¬ (q = 162 ∧ n ≤ k) → gi w' q k = gi w q k) (fun m a w' self hI hs => ?_) FU j _ w (by have := FU_big; omega) ⟨by omega, rfl, rfl, by rw [hn]; congr 1; omega, fun i hi => by omega, fun _ _ _ _ => rfl⟩
  obtain ⟨h1, rfl, h2, h3, h4, h5⟩ := hI
  unfold f_X9_write_34
  cases m with
  | zero =>
    rw [if_pos m1_lt, wp_rI, h3, wp_rt]
    exact ⟨rfl, h2, h3, h4, h5⟩
  | succ m =>
    rw [sb1, if_neg (nI_pos (by omega)), wp_rI, h3, wp_sIn (by omega) (by omega), wp_rI, gi_si_n (by omega), h3, wp_wI, m1_add, ad1]
    refine hs m _ _ (by omega) ⟨by omega, rfl, h2, ?_, fun i hi => ?_, fun q k hq hk => ?_⟩
    · rw [gi_si_s]; congr 1; omega
    · rw [gi_si_n (by omega)]
      by_cases e : i = j - (m + 1)
      · rw [e, gi_si_s, show j - 1 - (j - (m + 1)) = m by omega]
      · rw [gi_si_n (by omega)]
        exact h4 i (by omega)
    · rw [gi_si_n (by omega), gi_si_n (by omega)]
      exact h5 q k hq hk
theorem pr_write (hw : Inv w) (x1 : Int32) (x2 : Int64) : Pair (f_X8_write x1 x2) (f_X9_write x1 x2) w := by
  obtain ⟨t, W, hR, hT, hTo, hJ, hV, hS, hK, hL, hH⟩ := id hw
  obtain ⟨n, h1, h2, h3, h4⟩ := id hT
  have ht := hR.1
  unfold Pair f_X8_write f_X9_write
  rcases ix_cases x1 9 (by omega) with ⟨j, hj, rfl⟩ | hx
  · by_cases j0 : j = 0
    · subst j0
      unfold f_X8_write_11
      rw [if_pos (lt_l 1 (by omega) (by omega)), wp_rt, wp_bnd, wp_ino (by decide), if_pos rfl]
      exact wp_rt.mpr ⟨rfl, hw⟩
    · unfold f_X4_append
      rw [if_neg (nlt_l 1 (by omega) (by omega)), if_pos (le_l 8 (by omega) (by omega)), wp_bnd, wp_rI, h2, nI_add]
      have hin : ∀ {w' : Wd} {Q : Int32 → Wd → Prop}, wp (f_X9_in (nI j).toInt64 1 8) w' Q ↔ Q 1 w' := wp_in (by rw [i2l_toInt, nI_toInt (by omega)]; exact ⟨by show (1 : Int) ≤ j; omega, by show (j : Int) ≤ 8; omega⟩)
      by_cases hb : n + j ≤ 300
      · rw [if_pos (le_l 300 hb (by omega)), wp_nm]
        refine wp_mono (wp_append x2 hb h2) (fun r w1 g => ?_)
        obtain ⟨rfl, g1, g2, g3, g4⟩ := g
        have n1 : gi w1 161 0 = nI n := by rw [g4 161 0 (by omega) (by omega)]; exact h3
        rw [wp_rt, wp_bnd, hin, if_neg (by decide), wp_rI, n1, nI_add, if_pos (le_l 300 hb (by omega)), wp_nm]
        refine wp_mono (wp_write9 x2 hb n1) (fun r w2 k => ?_)
        obtain ⟨rfl, k1, k2, k3, k4⟩ := k
        refine ⟨rfl, inv_txt hR hTo hJ hV hS hK hL hH (k1.trans g1) (fun q k hc => ?_) ⟨n + j, hb, ?_, k2, fun k hk => ?_⟩⟩
        · unfold oTxt cTon cBk cSl cHd at hc
          rw [k4 q k (by omega) (by omega), g4 q k (by omega) (by omega)]
        · rw [k4 1 1 (by omega) (by omega)]; exact g2
        · by_cases hkn : k < n
          · obtain ⟨c, c1, c2, c3⟩ := h4 k hkn
            refine ⟨c, c1, ?_, ?_⟩
            · rw [k4 162 k (by omega) (by omega), g4 162 k (by omega) (by omega)]; exact c2
            · rw [k4 2 k (by omega) (by omega), g4 2 k (by omega) (by omega)]; exact c3
          · obtain ⟨i, rfl⟩ : ∃ i, k = n + i := ⟨k - n, by omega⟩
            obtain ⟨c, c1, c2, c3⟩ := byte_of (x2 >>> ((8 * nI (j - 1 - i)).toInt64 &&& 63))
            refine ⟨c, c1, ?_, ?_⟩
            · rw [k3 i (by omega)]; exact c2
            · rw [k4 2 _ (by omega) (by omega), g3 i (by omega)]; exact c3
      · rw [if_neg (nle_l 300 (by omega) (by omega)), wp_rt, wp_rt, wp_bnd, hin, if_neg (by decide), wp_rI, h3, nI_add, if_neg (nle_l 300 (by omega) (by omega))]
        exact wp_rt.mpr ⟨rfl, hw⟩
  · have ho := out_toInt hx (by omega)
    have hino : ∀ {w' : Wd} {Q : Int32 → Wd → Prop}, wp (f_X9_in x1.toInt64 1 8) w' Q ↔ Q 0 w' := wp_ino (by rw [i2l_toInt]; exact ho.imp (fun z => by show x1.toInt < 1; omega) (fun z => by show (8 : Int) < x1.toInt; omega))
    have key : ∀ {Q : Int32 → Wd → Prop}, Q (-1) w → wp (if x1 < 1 then f_X8_write_11 else if x1 ≤ 8 then bnd (f_X4_append x1 x2) fun v1 => rt v1 else f_X8_write_11) w Q := by
      intro Q hQ
      refine wp_if (fun _ => wp_rt.mpr hQ) (fun h1 => ?_)
      rw [if_neg (fun h => ?_)]
      · exact wp_rt.mpr hQ
      · have z1 := Int32.le_iff_toInt_le.mp h
        have z2 : ¬ x1.toInt < 1 := fun z => h1 (Int32.lt_iff_toInt_lt.mpr z)
        have z3 : x1.toInt ≤ 8 := z1
        omega
    refine key ?_
    rw [wp_bnd, hino, if_pos rfl]
    exact wp_rt.mpr ⟨rfl, hw⟩
-- the words of a verse
def vs (w : Wd) (v : Nat) : Nat := (gi w 28 v).toNatClampNeg
def vw (w : Wd) (v p : Nat) : Nat := (gi w (22 + v) p).toNatClampNeg
theorem IVs.g {W : Nat} (h : IVs W 0 w) (hW : W ≤ 16) {v : Nat} (hv : v < 6) : vs w v ≤ 8 ∧ gi w 28 v = nI (vs w v) ∧ gi w 167 v = nI (vs w v) ∧ ∀ p, p < vs w v → vw w v p < W ∧ gi w (22 + v) p = nI (vw w v p) ∧ gi w 168 (8 * v + p) = nI (vw w v p) := by
  obtain ⟨s, a, b, c, d⟩ := h.z hv
  have e : vs w v = s := by unfold vs; rw [b, cl_nI (by omega)]
  rw [e]
  refine ⟨a, b, c, fun p hp => ?_⟩
  obtain ⟨x, e1, e2, e3⟩ := d p hp
  have e' : vw w v p = x := by unfold vw; rw [e2, cl_nI (by omega)]
  rw [e']
  exact ⟨e1, e2, e3⟩
theorem rem16 {a : Nat} (ha : a < 2 ^ 31) : nI a - nI a / 16 * 16 = nI (a % 16) := pk_rem (d := 16) ha (by omega) (by omega)
theorem pr_list (hw : Inv w) (x1 x2 : Int32) : Pair (f_X8_list x1 x2) (f_X9_list x1 x2) w := by
  obtain ⟨t, W, hR, hT, hTo, hJ, hV, hS, hK, hL, hH⟩ := id hw
  have hW := hTo.1
  unfold Pair f_X8_list f_X9_list f_X8_list_18 f_X9_list_19
  rw [wp_bnd]
  rcases ix_cases x1 6 (by omega) with ⟨a, ha, rfl⟩ | h1
  · refine (wp_bel (n := 6) ha (by omega)).mpr ?_
    rw [if_neg (by decide), wp_bnd]
    rcases ix_cases x2 9 (by omega) with ⟨b, hb, rfl⟩ | h2
    · refine (wp_bel (n := 9) hb (by omega)).mpr ?_
      obtain ⟨s1, s2, s3, s4⟩ := hV.g hW ha
      let f1 : Nat → Nat := fun p => if wf w (vw w a p) = b then 1 else 0
      let f2 : Nat → Nat := fun p => wb w (vw w a p)
      have b1 : ∀ n, n ≤ vs w a → sm f1 n ≤ 8 := fun n hn => by
        have := sm_le (f := f1) (b := 1) n (fun i hi => by show (if _ then 1 else 0) ≤ 1; split <;> omega)
        omega
      have b2 : ∀ n, n ≤ vs w a → sm f2 n ≤ 128 := fun n hn => by
        have := sm_le (f := f2) (b := 16) n (fun i hi => by
          have h1 := (s4 i (by omega)).1
          have h2 := (hTo.fl h1).2.2.2.1
          show wb w (vw w a i) ≤ 16
          omega)
        omega
      have key1 : Rd (fix3 FU (f_X8_list_39 (nI a) (nI b) (21 + 1 + a)) 0 0 0) w (if b = 8 then nI (sm f2 (vs w a) % 16) else nI (sm f1 (vs w a))) := by
        refine wp_fix3 (fun n x y z w' => ∃ p, p ≤ vs w a ∧ n = 8 - p ∧ z = nI p ∧ x = nI (sm f1 p) ∧ y = nI (sm f2 p) ∧ w' = w) (fun n x y z w' self hI hs => ?_) FU 8 0 0 0 w (by have := FU_big; omega) ⟨0, by omega, by omega, rfl, rfl, rfl, rfl⟩
        obtain ⟨p, p1, p2, rfl, rfl, rfl, rfl⟩ := hI
        have c1 := b1 p p1
        have c2 := b2 p p1
        unfold f_X8_list_39
        rw [wp_aIn (by omega) (by omega), s2]
        by_cases hp : vs w' a ≤ p
        · have e : p = vs w' a := by omega
          rw [if_pos (nI_le hp (by omega))]
          unfold f_X8_list_118
          by_cases h8 : b = 8
          · subst h8
            rw [if_pos (eq_l 8 rfl), wp_gd, wp_rt, if_pos rfl, rem16 (by omega), e]
            exact ⟨by decide, rfl, rfl⟩
          · rw [if_neg (ne_l 8 h8 (by omega) (by omega)), wp_rt, if_neg h8, e]
            exact ⟨rfl, rfl⟩
        · obtain ⟨q1, q2, q3⟩ := s4 p (by omega)
          obtain ⟨r1, r2, r3, r4, -, -⟩ := hTo.fl q1
          obtain ⟨z1, z2, -⟩ := hTo.2.2.2.1 _ q1
          rw [if_neg (nI_ge (by omega) (by omega)), wp_tongue hR, wp_aIn (by omega) (by omega), show gi w' (21 + 1 + a) p = nI (vw w' a p) from by rw [← q2], wp_aIn (by omega) (by omega), z1, r1]
          unfold f_X8_list_76
          have e76 : ∀ (u : Nat), u = f1 p → wp (nm (nI (sm f1 p) + nI u) fun v1 => rT 0 1 fun t2 => aI (21 + 1 + a) 8 (nI p) fun v3 => aI (t2 + 2) 16 v3 fun v5 => nm (nI (sm f2 p) + v5) fun v7 => self v1 v7 (nI p + 1)) w' (fun r w'' => r = (if b = 8 then nI (sm f2 (vs w' a) % 16) else nI (sm f1 (vs w' a))) ∧ w'' = w') := by
            intro u hu
            rw [wp_nm, wp_tongue hR, wp_aIn (by omega) (by omega), show gi w' (21 + 1 + a) p = nI (vw w' a p) from by rw [← q2], wp_aIn (by omega) (by omega), z2, r3, wp_nm, nI_add, nI_add, ad1]
            refine hs (8 - (p + 1)) _ _ _ _ (by omega) ⟨p + 1, by omega, rfl, rfl, by rw [sm_succ, hu], rfl, rfl⟩
          by_cases hf : wf w' (vw w' a p) = b
          · rw [if_pos (by rw [hf])]
            exact e76 1 (by show 1 = if _ then 1 else 0; rw [if_pos hf])
          · rw [if_neg (fun h => hf ((nI_eq (by omega) (by omega)).mp h))]
            exact e76 0 (by show 0 = if _ then 1 else 0; rw [if_neg hf])
      have key2 : Rd (fix2 FU (f_X9_list_26 (nI a) (nI b)) 0 0) w (if b = 8 then nI (sm f2 (vs w a) % 16) else nI (sm f1 (vs w a))) := by
        refine wp_fix2 (fun n x z w' => ∃ p, p ≤ vs w a ∧ n = 8 - p ∧ z = nI p ∧ x = (if b = 8 then nI (sm f2 p) else nI (sm f1 p)) ∧ w' = w) (fun n x z w' self hI hs => ?_) FU 8 0 0 w (by have := FU_big; omega) ⟨0, by omega, by omega, rfl, by split <;> rfl, rfl⟩
        obtain ⟨p, p1, p2, rfl, rfl, rfl⟩ := hI
        have c1 := b1 p p1
        have c2 := b2 p p1
        unfold f_X9_list_26
        rw [wp_aIn (by omega) (by omega), s3]
        by_cases hp : vs w' a ≤ p
        · have e : p = vs w' a := by omega
          rw [if_pos (nI_le hp (by omega))]
          unfold f_X9_list_110
          by_cases h8 : b = 8
          · subst h8
            rw [if_pos (eq_l 8 rfl), wp_gd, wp_rt, if_pos rfl, if_pos rfl, rem16 (by omega), e]
            exact ⟨by decide, rfl, rfl⟩
          · rw [if_neg (ne_l 8 h8 (by omega) (by omega)), wp_rt, if_neg h8, if_neg h8, e]
            exact ⟨rfl, rfl⟩
        · obtain ⟨q1, q2, q3⟩ := s4 p (by omega)
          obtain ⟨r1, r2, r3, r4, -, -⟩ := hTo.fl q1
          rw [if_neg (nI_ge (by omega) (by omega)), mu8, nI_add, wp_aIn (by omega) (by omega), q3, wp_nm, mu3]
          unfold f_X9_list_88
          by_cases h8 : b = 8
          · rw [if_pos (eq_l 8 h8), ad1, wp_aIn (by omega) (by omega), r3, wp_nm, if_pos h8, nI_add, ad1]
            exact hs (8 - (p + 1)) _ _ _ (by omega) ⟨p + 1, by omega, rfl, rfl, by rw [if_pos h8]; rfl, rfl⟩
          · rw [if_neg (ne_l 8 h8 (by omega) (by omega)), wp_aIn (by omega) (by omega), r1, if_neg h8]
            by_cases hf : wf w' (vw w' a p) = b
            · rw [if_pos (by rw [hf]), wp_nm, ad1, ad1]
              exact hs (8 - (p + 1)) _ _ _ (by omega) ⟨p + 1, by omega, rfl, rfl, by rw [if_neg h8, sm_succ]; show nI (sm f1 p + 1) = nI (sm f1 p + if _ then 1 else 0); rw [if_pos hf], rfl⟩
            · rw [if_neg (fun h => hf ((nI_eq (by omega) (by omega)).mp h)), wp_nm, show nI (sm f1 p) + 0 = nI (sm f1 p) from nI_add _ 0, ad1]
              exact hs (8 - (p + 1)) _ _ _ (by omega) ⟨p + 1, by omega, rfl, rfl, by rw [if_neg h8, sm_succ]; show nI (sm f1 p) = nI (sm f1 p + if _ then 1 else 0); rw [if_neg hf]; rfl, rfl⟩
      rw [if_neg (by decide), wp_gdn ha (by omega), cl_nI (by omega), key1.wp, wp_bnd, wp_ver ha, if_neg (by decide), wp_bnd, wp_in (by rw [i2l_toInt, nI_toInt (by omega)]; exact ⟨by show (0 : Int) ≤ b; omega, by show (b : Int) ≤ 8; omega⟩), if_neg (by decide), key2.wp]
      exact ⟨rfl, hw⟩
    · refine (wp_beo (n := 9) h2).mpr ?_
      have ho := out_toInt h2 (by omega)
      rw [if_pos rfl, wp_rt, wp_bnd, wp_ver ha, if_neg (by decide), wp_bnd, wp_ino (by rw [i2l_toInt]; exact ho.imp (fun z => by show x2.toInt < 0; omega) (fun z => by show (8 : Int) < x2.toInt; omega)), if_pos rfl]
      exact wp_rt.mpr ⟨rfl, hw⟩
  · refine (wp_beo (n := 6) h1).mpr ?_
    rw [if_pos rfl, wp_rt, wp_bnd, wp_vero h1, if_pos rfl]
    exact wp_rt.mpr ⟨rfl, hw⟩
end BOOKS
