/-! said, say -/
section SAID
variable {w : Wd} {t W : Nat}
theorem tkL_fr {w w' : Wd} (h : ∀ q k, (q = 164 ∨ q = 165) → gi w' q k = gi w q k) (L : List (Nat × Bool)) (r : Nat → Nat) (i : Nat) : tkL w' L r i = tkL w L r i := by
  have h1 : wf w' = wf w := by funext j; unfold wf; rw [h _ _ (by omega)]
  have h2 : wb w' = wb w := by funext j; unfold wb; rw [h _ _ (by omega)]
  have h3 : wl w' = wl w := by funext j; unfold wl; rw [h _ _ (by omega)]
  have h4 : jn w' = jn w := by funext a b; unfold jn; rw [h _ _ (by omega)]
  unfold tkL tk tkf tkr
  rw [h1, h2, h3, h4]
theorem Fr.same {C : Nat → Nat → Prop} {w' : Wd} (h : Fr C w w') (hR : IRef t w) (hc : ∀ q k, core t q k → ¬ C q k) : Same t w w' :=
  ⟨fun q k hq => h.2.2 q k (hc q k hq), by rw [h.1], by rw [h.1], by rw [h.1]; exact hR.2.2.2.1⟩
theorem core_c8 (ht : isT t) {q k : Nat} (h : core t q k) : ¬ c8 q k := by
  unfold core cTxt cTon cBk cSl cHd at h
  unfold c8
  omega
theorem core_c9 (ht : isT t) {q k : Nat} (h : core t q k) : ¬ c9 q k := by
  unfold core cTxt cTon cBk cSl cHd at h
  unfold c9
  omega
def cR (q _k : Nat) : Prop := q = 181
theorem RLay.to {L : List (Nat × Bool)} {w' : Wd} (h : RLay L w) (f : Fr cR w w') : RLay L w' := by
  refine ⟨?_, fun i hi => ?_⟩
  · rw [f.2.2 _ _ (by unfold cR; omega)]; exact h.1
  · rw [f.2.2 _ _ (by unfold cR; omega), f.2.2 _ _ (by unfold cR; omega), f.2.2 _ _ (by unfold cR; omega)]; exact h.2 i hi
theorem wp_layRow (hV : IVs W 0 w) (hW : W ≤ 16) {a : Nat} (ha : a < 6) : wp (f_X9_layRow (nI a)) w (fun _ w' => (∀ p, p < vs w a → gi w' 181 p = nI (vw w a p)) ∧ Fr cR w w') := by
  obtain ⟨s1, s2, s3, s4⟩ := hV.g hW ha
  unfold f_X9_layRow
  refine wp_fix1 (fun n x w' => ∃ p, p ≤ vs w a ∧ n = vs w a - p ∧ x = nI p ∧ (∀ j, j < p → gi w' 181 j = nI (vw w a j)) ∧ Fr cR w w') (fun n x w' self hI hs => ?_) FU (vs w a) 0 w (by have := FU_big; omega) ⟨0, by omega, by omega, rfl, fun j hj => by omega, Fr.rf⟩
  obtain ⟨p, p1, p2, rfl, p3, p4⟩ := hI
  unfold f_X9_layRow_2
  rw [wp_aIn (by omega) (by omega), p4.2.2 _ _ (by unfold cR; omega), s3]
  by_cases hp : vs w a ≤ p
  · rw [if_pos (nI_le hp (by omega)), wp_rt, show vs w a = p by omega]
    exact ⟨p3, p4⟩
  · rw [if_neg (nI_ge (by omega) (by omega)), mu8, nI_add, wp_aIn (by omega) (by omega), p4.2.2 _ _ (by unfold cR; omega), (s4 p (by omega)).2.2, wp_sIn (by omega) (by omega), ad1]
    refine hs (vs w a - (p + 1)) _ _ (by omega) ⟨p + 1, by omega, rfl, rfl, fun j hj => ?_, p4.si rfl⟩
    by_cases e : j = p
    · rw [e, gi_si_s]
    · rw [gi_si_n (by omega)]; exact p3 j (by omega)
theorem bitw {y : Nat} (hy : y < 5) : (1 : Int32) <<< (nI y &&& 31) = nI (2 ^ y) := shl1 (by omega)
theorem two32 : ∀ y, y < 5 → 2 ^ y < 32 := by decide
/-- both sides have laid a verse's saying -/
theorem wp_laid9 (hV : IVs W 0 w) (hTo : ITon t W w) {a y : Nat} (ha : a < 6) (hy : y < 5) (h0 : 0 < vs w a) {R : Type} {K : M R} {Q : R → Wd → Prop} (hk : ∀ w', RLay (CL y (vs w a)) w' → (∀ p, p < vs w a → vw w a p < W ∧ gi w' 181 p = nI (vw w a p)) → Fr c9 w w' → wp K w' Q) : wp (bnd (f_X9_layWays (1 <<< (nI y &&& 31)) (nI (vs w a))) (fun _ => bnd (f_X9_layRow (nI a)) (fun _ => K))) w Q := by
  obtain ⟨s1, s2, s3, s4⟩ := hV.g hTo.1 ha
  rw [wp_bnd, bitw hy]
  refine wp_mono (wp_layWays (two32 y hy) (by omega) h0) (fun _ w1 h1 => ?_)
  rw [LW_one y hy _ (by omega)] at h1
  obtain ⟨r1, -, f1⟩ := h1
  have hc : ∀ q k, cV0 q k → gi w1 q k = gi w q k := fun q k hq => f1.2.2 q k (by unfold cV0 at hq; unfold c9; omega)
  have hV1 : IVs W 0 w1 := hV.to0 hc
  have e1 : vs w1 a = vs w a := by unfold vs; rw [hc _ _ (by unfold cV0; omega)]
  have e2 : ∀ p, vw w1 a p = vw w a p := fun p => by unfold vw; rw [hc _ _ (by unfold cV0; omega)]
  rw [wp_bnd]
  refine wp_mono (wp_layRow hV1 hTo.1 ha) (fun _ w2 h2 => ?_)
  rw [e1] at h2
  refine hk w2 (r1.to h2.2) (fun p hp => ⟨(s4 p hp).1, ?_⟩) (f1.tr (h2.2.sub (fun q k hq => by unfold cR at hq; unfold c9; omega)))
  rw [h2.1 p hp, e2]
theorem pr_said (hw : Inv w) (x1 x2 x3 : Int32) : Pair (f_X8_said x1 x2 x3) (f_X9_said x1 x2 x3) w := by
  obtain ⟨t, W, hR, hT, hTo, hJ, hV, hS, hK, hL, hH⟩ := id hw
  have hW := hTo.1
  have ht := hR.1
  unfold Pair f_X8_said f_X9_said f_X8_said_22 f_X9_said_19
  rw [wp_bnd]
  rcases ix_cases x1 6 (by omega) with ⟨a, ha, rfl⟩ | h1
  · refine (wp_bel (n := 6) ha (by omega)).mpr ?_
    rw [if_neg (by decide), wp_bnd]
    rcases ix_cases x2 5 (by omega) with ⟨y, hy, rfl⟩ | h2
    · refine (wp_bel (n := 5) hy (by omega)).mpr ?_
      obtain ⟨s1, s2, s3, s4⟩ := hV.g hW ha
      rw [if_neg (by decide)]
      by_cases h3 : (-1) ≤ x3
      · rw [if_pos h3, wp_aIn (by omega) (by omega), s2]
        by_cases hs0 : vs w a = 0
        · rw [if_pos (eq_l 0 hs0), wp_rt, wp_bnd, wp_ver ha, if_neg (by decide), wp_bnd, wp_way hy, if_neg (by decide), if_pos h3, wp_aIn (by omega) (by omega), s3, if_pos (eq_l 0 hs0)]
          exact wp_rt.mpr ⟨rfl, hw⟩
        · have cl := clen_le y hy (vs w a) (by omega)
          unfold clen at cl
          rw [if_neg (ne_l 0 hs0 (by omega) (by omega)), wp_aIn (by omega) (by omega), s2, wp_bnd]
          refine wp_mono (wp_follow hy (by omega) (by omega)) (fun _ w1 h => ?_)
          obtain ⟨hC, f1⟩ := h
          have sm1 := f1.same hR (fun q k hq => core_c8 ht hq)
          have o1 : ∀ q k, ¬ (50 ≤ q ∧ q ≤ 52) → gi w1 q k = gi w q k := fun q k hq => f1.2.2 q k hq
          have eT : Eqo (cTon t) w w1 := fun q k hc => sm1.1 q k (Or.inr (Or.inl hc))
          have hTo1 := hTo.to eT
          have hJ1 := hJ.to hTo eT
          have hV1 : IVs W 0 w1 := hV.to0 (fun q k hq => o1 q k (by unfold cV0 at hq; omega))
          have hR1 : IRef t w1 := hR.to f1.1 (o1 _ _ (by omega))
          have v1 : vs w1 a = vs w a := by unfold vs; rw [o1 _ _ (by omega)]
          have v2 : ∀ p, vw w1 a p = vw w a p := fun p => by unfold vw; rw [o1 _ _ (by omega)]
          have s3' : gi w1 167 a = nI (vs w a) := by rw [o1 _ _ (by omega)]; exact s3
          -- the reference's answer, whatever the class answered
          have ref : ∀ v : Int32, (∀ w3, RLay (CL y (vs w a)) w3 → (∀ p, p < vs w a → vw w a p < W ∧ gi w3 181 p = nI (vw w a p)) → Fr c9 w1 w3 → wp (if 0 ≤ x3 then (rI 161 19 (fun v9 => if v9 ≤ x3 then (f_X9_said_80 (-4)) else (bnd (f_X9_tokenAt x3) (fun v10 => f_X9_said_80 v10)))) else (rI 161 19 (fun v12 => f_X9_said_80 v12))) w3 (fun r w' => r = v ∧ w' = w3)) → wp (bnd (f_X9_isVerse (nI a)) fun v1 => if v1 = 0 then (rt (-1) : M Int32) else bnd (f_X9_isWay (nI y)) fun v2 => if v2 = 0 then rt (-1) else if (-1) ≤ x3 then aI 167 18 (nI a) (fun v3 => if v3 = 0 then (rt (-2)) else (aI 167 18 (nI a) (fun v5 => bnd (f_X9_layWays (1 <<< (nI y &&& 31)) v5) (fun _ => bnd (f_X9_layRow (nI a)) (fun _ => if 0 ≤ x3 then (rI 161 19 (fun v9 => if v9 ≤ x3 then (f_X9_said_80 (-4)) else (bnd (f_X9_tokenAt x3) (fun v10 => f_X9_said_80 v10)))) else (rI 161 19 (fun v12 => f_X9_said_80 v12))))))) else rt (-1)) w1 (fun b w2 => b = v ∧ Inv w2) := by
            intro v hv
            rw [wp_bnd, wp_ver ha, if_neg (by decide), wp_bnd, wp_way hy, if_neg (by decide), if_pos h3, wp_aIn (by omega) (by omega), s3', if_neg (ne_l 0 hs0 (by omega) (by omega)), wp_aIn (by omega) (by omega), s3']
            have := wp_laid9 hV1 hTo1 ha hy (by omega) (K := if 0 ≤ x3 then (rI 161 19 (fun v9 => if v9 ≤ x3 then (f_X9_said_80 (-4)) else (bnd (f_X9_tokenAt x3) (fun v10 => f_X9_said_80 v10)))) else (rI 161 19 (fun v12 => f_X9_said_80 v12))) (Q := fun b w2 => b = v ∧ Inv w2) (fun w3 r3 q3 f3 => by
              rw [v1] at r3 q3
              refine wp_mono (hv w3 r3 (fun p hp => by rw [← v2]; exact q3 p hp) f3) (fun r w' h => ?_)
              obtain ⟨rfl, rfl⟩ := h
              refine ⟨rfl, Same.inv hR hT hTo hJ hV hS hK hL hH ?_⟩
              refine ⟨fun q k hq => ?_, ?_, ?_, ?_⟩
              · rw [f3.2.2 q k (core_c9 ht hq), f1.2.2 q k (core_c8 ht hq)]
              · rw [f3.1, f1.1]
              · rw [f3.1, f1.1]
              · rw [f3.1, f1.1]; exact hR.2.2.2.1)
            rw [v1] at this
            exact this
          by_cases hm1 : x3 = -1
          · rw [if_pos hm1, wp_rI, hC.1, wp_rt]
            refine ref _ (fun w3 r3 q3 f3 => ?_)
            unfold f_X9_said_80
            rw [if_neg (by rw [hm1]; decide), wp_rI, r3.1, wp_rt]
            exact ⟨rfl, rfl⟩
          · have x0 : ¬ x3 < 0 := by
              intro q
              have q1 := Int32.lt_iff_toInt_lt.mp q
              have q2 := Int32.le_iff_toInt_le.mp h3
              have q3 : x3.toInt ≠ -1 := fun z => hm1 (Int32.toInt_inj.mp z)
              have q4 : (-1 : Int32).toInt = -1 := by decide
              have q5 : (0 : Int32).toInt = 0 := by decide
              omega
            obtain ⟨i, hi, rfl⟩ := nI_of x0
            unfold f_X8_said_106
            rw [if_neg hm1, wp_rI, hC.1]
            by_cases hil : (CL y (vs w a)).length ≤ i
            · rw [if_pos (nI_le hil (by omega)), wp_rt]
              refine ref _ (fun w3 r3 q3 f3 => ?_)
              unfold f_X9_said_80
              rw [if_pos (ge_l 0 (by omega) (by omega)), wp_rI, r3.1, if_pos (nI_le hil (by omega)), wp_rt]
              exact ⟨rfl, rfl⟩
            · have tk8 := rd_token8 hTo1 hJ1 (q := 21 + 1 + a) (r := vw w a) hC cl s1 (CL_lt y hy _ (by omega) (by omega)) (fun p hp => ⟨(s4 p hp).1, by rw [o1 _ _ (by omega), show 21 + 1 + a = 22 + a by omega]; exact (s4 p hp).2.1⟩) (i := i) (by omega)
              rw [if_neg (nI_ge (by omega) (by omega)), wp_tongue hR1, wp_gdn ha (by omega), cl_nI (by omega), wp_bnd, tk8.wp, wp_rt]
              refine ref _ (fun w3 r3 q3 f3 => ?_)
              have eT3 : Eqo (cTon t) w1 w3 := fun q k hc => f3.2.2 q k (core_c9 ht (Or.inr (Or.inl hc)))
              have tk9 := rd_token9 (hTo1.to eT3) (r := vw w a) r3 (by omega) s1 (CL_lt y hy _ (by omega) (by omega)) q3 (i := i) (by omega)
              unfold f_X9_said_80
              rw [if_pos (ge_l 0 (by omega) (by omega)), wp_rI, r3.1, if_neg (nI_ge (by omega) (by omega)), wp_bnd, tk9.wp, wp_rt]
              exact ⟨by rw [tkL_fr (fun q k hq => f3.2.2 q k (by unfold c9; omega))], rfl⟩
      · rw [if_neg h3, wp_rt, wp_bnd, wp_ver ha, if_neg (by decide), wp_bnd, wp_way hy, if_neg (by decide), if_neg h3]
        exact wp_rt.mpr ⟨rfl, hw⟩
    · refine (wp_beo (n := 5) h2).mpr ?_
      rw [if_pos rfl, wp_rt, wp_bnd, wp_ver ha, if_neg (by decide), wp_bnd, wp_wayo h2, if_pos rfl]
      exact wp_rt.mpr ⟨rfl, hw⟩
  · refine (wp_beo (n := 6) h1).mpr ?_
    rw [if_pos rfl, wp_rt, wp_bnd, wp_vero h1, if_pos rfl]
    exact wp_rt.mpr ⟨rfl, hw⟩
theorem pr_say (hw : Inv w) (x1 x2 : Int32) : Pair (f_X8_say x1 x2) (f_X9_say x1 x2) w := by
  obtain ⟨t, W, hR, hT, hTo, hJ, hV, hS, hK, hL, hH⟩ := id hw
  have hW := hTo.1
  have ht := hR.1
  unfold Pair f_X8_say f_X9_say f_X8_say_17 f_X9_say_14
  rw [wp_bnd]
  rcases ix_cases x1 6 (by omega) with ⟨a, ha, rfl⟩ | h1
  · refine (wp_bel (n := 6) ha (by omega)).mpr ?_
    rw [if_neg (by decide), wp_bnd]
    rcases ix_cases x2 5 (by omega) with ⟨y, hy, rfl⟩ | h2
    · refine (wp_bel (n := 5) hy (by omega)).mpr ?_
      obtain ⟨s1, s2, s3, s4⟩ := hV.g hW ha
      rw [if_neg (by decide), wp_aIn (by omega) (by omega), s2]
      by_cases hs0 : vs w a = 0
      · rw [if_pos (eq_l 0 hs0), wp_rt, wp_bnd, wp_ver ha, if_neg (by decide), wp_bnd, wp_way hy, if_neg (by decide), wp_aIn (by omega) (by omega), s3, if_pos (eq_l 0 hs0)]
        exact wp_rt.mpr ⟨rfl, hw⟩
      · have cl := clen_le y hy (vs w a) (by omega)
        unfold clen at cl
        have lt := CL_lt y hy _ (show vs w a < 9 by omega) (by omega)
        let L := CL y (vs w a)
        let T : Nat → Nat := fun i => tkL w L (vw w a) i
        have Tlt : ∀ i, i < L.length → T i < 1024 := fun i hi => tk_lt hTo ((s4 _ (own_mem lt hi)).1) (map_lt (af_mem (i := i) lt) (fun p hp => (s4 p hp).1))
        rw [if_neg (ne_l 0 hs0 (by omega) (by omega)), wp_aIn (by omega) (by omega), s2, wp_bnd]
        refine wp_mono (wp_follow hy (by omega) (by omega)) (fun _ w1 h => ?_)
        obtain ⟨hC, f1⟩ := h
        let cA : Nat → Nat → Prop := fun q k => c8 q k ∨ q = 29 ∨ (q = 20 ∧ 3 ≤ k)
        have key8 : wp (fix1 FU (f_X8_say_53 (nI a) (nI y)) 0) w1 (fun r w' => r = nI L.length ∧ Fr cA w w' ∧ gi w' 20 3 = nI L.length ∧ gi w' 20 4 = nI y ∧ gi w' 20 5 = nI (vs w a) ∧ ∀ i, i < L.length → gi w' 29 i = nI (T i)) := by
          refine wp_fix1 (fun n x w' => ∃ i, i ≤ L.length ∧ n = L.length - i ∧ x = nI i ∧ Fr cA w w' ∧ CLay L w' ∧ ∀ j, j < i → gi w' 29 j = nI (T j)) (fun n x w' self hI hs => ?_) FU L.length 0 w1 (by have := FU_big; show (CL y (vs w a)).length < FU; omega) ⟨0, by omega, by omega, rfl, f1.sub (fun q k hq => Or.inl hq), hC, fun j hj => by omega⟩
          obtain ⟨i, i1, i2, rfl, i3, i4, i5⟩ := hI
          unfold f_X8_say_53
          rw [wp_rI, i4.1]
          have o : ∀ q k, ¬ (50 ≤ q ∧ q ≤ 52) → q ≠ 29 → q ≠ 20 → gi w' q k = gi w q k := fun q k h1 h2 h3 => i3.2.2 q k (fun hq => by
            rcases hq with hq | hq | hq
            · exact h1 hq
            · exact h2 hq
            · exact h3 hq.1)
          have hLl : L.length ≤ 84 := cl
          by_cases hi : L.length ≤ i
          · have e : i = L.length := by omega
            subst e
            rw [if_pos (nI_le hi (by omega)), wp_rI, i4.1, wp_wI, wp_wI, wp_aIn (by omega) (by omega), gi_si_n (by omega), gi_si_n (by omega), o _ _ (by omega) (by omega) (by omega), s2, wp_wI, wp_rI, gi_si_n (by omega), gi_si_n (by omega), gi_si_s, wp_rt]
            refine ⟨rfl, ((i3.si (Or.inr (Or.inr ⟨rfl, by omega⟩))).si (Or.inr (Or.inr ⟨rfl, by omega⟩))).si (Or.inr (Or.inr ⟨rfl, by omega⟩)), ?_, ?_, ?_, fun j hj => ?_⟩
            · rw [gi_si_n (by omega), gi_si_n (by omega), gi_si_s]
            · rw [gi_si_n (by omega), gi_si_s]
            · rw [gi_si_s]
            · rw [gi_si_n (by omega), gi_si_n (by omega), gi_si_n (by omega)]; exact i5 j hj
          · have eT : Eqo (cTon t) w w' := fun q k hc => o q k (by unfold cTon at hc; omega) (by unfold cTon at hc; omega) (by unfold cTon at hc; omega)
            have hR' : IRef t w' := hR.to i3.1 (o _ _ (by omega) (by omega) (by omega))
            have tk8 := rd_token8 (hTo.to eT) (hJ.to hTo eT) (q := 21 + 1 + a) (r := vw w a) i4 hLl s1 lt (fun p hp => ⟨(s4 p hp).1, by rw [o _ _ (by omega) (by omega) (by omega), show 21 + 1 + a = 22 + a by omega]; exact (s4 p hp).2.1⟩) (i := i) (by omega)
            rw [if_neg (nI_ge (by omega) (by omega)), wp_tongue hR', wp_gdn ha (by omega), cl_nI (by omega), wp_bnd, tk8.wp, wp_sIn (by omega) (by omega), ad1, tkL_fr (fun q k hq => o q k (by omega) (by omega) (by omega))]
            refine hs (L.length - (i + 1)) _ _ (by omega) ⟨i + 1, by omega, rfl, rfl, i3.si (Or.inr (Or.inl rfl)), ⟨?_, fun j hj => ?_⟩, fun j hj => ?_⟩
            · rw [gi_si_n (by omega)]; exact i4.1
            · rw [gi_si_n (by omega), gi_si_n (by omega)]; exact i4.2 j hj
            · by_cases e : j = i
              · rw [e, gi_si_s]
              · rw [gi_si_n (by omega)]; exact i5 j (by omega)
        refine wp_mono key8 (fun r w2 h => ?_)
        obtain ⟨rfl, g1, g2, g3, g4, g5⟩ := h
        have o2 : ∀ q k, ¬ (50 ≤ q ∧ q ≤ 52) → q ≠ 29 → q ≠ 20 → gi w2 q k = gi w q k := fun q k h1 h2 h3 => g1.2.2 q k (fun hq => by
          rcases hq with hq | hq | hq
          · exact h1 hq
          · exact h2 hq
          · exact h3 hq.1)
        have eT2 : Eqo (cTon t) w w2 := fun q k hc => o2 q k (by unfold cTon at hc; omega) (by unfold cTon at hc; omega) (by unfold cTon at hc; omega)
        have hTo2 := hTo.to eT2
        have hV2 : IVs W 0 w2 := hV.to0 (fun q k hq => o2 q k (by unfold cV0 at hq; omega) (by unfold cV0 at hq; omega) (by unfold cV0 at hq; omega))
        have v1 : vs w2 a = vs w a := by unfold vs; rw [o2 _ _ (by omega) (by omega) (by omega)]
        have v2 : ∀ p, vw w2 a p = vw w a p := fun p => by unfold vw; rw [o2 _ _ (by omega) (by omega) (by omega)]
        have s3' : gi w2 167 a = nI (vs w a) := by rw [o2 _ _ (by omega) (by omega) (by omega)]; exact s3
        rw [wp_bnd, wp_ver ha, if_neg (by decide), wp_bnd, wp_way hy, if_neg (by decide), wp_aIn (by omega) (by omega), s3', if_neg (ne_l 0 hs0 (by omega) (by omega)), wp_aIn (by omega) (by omega), s3', ← v1]
        refine wp_laid9 hV2 hTo2 ha hy (by omega) (fun w3 r3 q3 f3 => ?_)
        rw [v1] at r3 q3
        have hLl : L.length ≤ 84 := cl
        have r30 : gi w3 161 19 = nI L.length := r3.1
        have s3'' : gi w3 167 a = nI (vs w a) := by rw [f3.2.2 _ _ (by unfold c9; omega)]; exact s3'
        rw [wp_rI, r30]
        show wp (sI 169 3 (nI 0) (nI L.length) _) w3 _
        rw [wp_sIn (by omega) (by omega)]
        show wp (sI 170 3 (nI 0) (nI y) _) _ _
        rw [wp_sIn (by omega) (by omega), wp_aIn (by omega) (by omega), gi_si_n (by omega), gi_si_n (by omega), s3'']
        show wp (sI 171 3 (nI 0) _ _) _ _
        rw [wp_sIn (by omega) (by omega)]
        let cB : Nat → Nat → Prop := fun q k => c9 q k ∨ ((q = 169 ∨ q = 170 ∨ q = 171) ∧ k = 0) ∨ (q = 172 ∧ k < 84)
        refine wp_fix1 (fun n x w' => ∃ i, i ≤ L.length ∧ n = L.length - i ∧ x = nI i ∧ Fr cB w2 w' ∧ RLay L w' ∧ (∀ p, p < vs w a → vw w2 a p < W ∧ gi w' 181 p = nI (vw w2 a p)) ∧ gi w' 169 0 = nI L.length ∧ gi w' 170 0 = nI y ∧ gi w' 171 0 = nI (vs w a) ∧ ∀ j, j < i → gi w' 172 j = nI (T j)) (fun n x w' self hI hs => ?_) FU L.length 0 _ (by have := FU_big; omega) ⟨0, by omega, by omega, rfl, (((f3.sub (C' := cB) (fun q k hq => Or.inl hq)).si (show cB 169 0 from Or.inr (Or.inl ⟨Or.inl rfl, rfl⟩))).si (show cB 170 0 from Or.inr (Or.inl ⟨Or.inr (Or.inl rfl), rfl⟩))).si (show cB 171 0 from Or.inr (Or.inl ⟨Or.inr (Or.inr rfl), rfl⟩)), ⟨by rw [gi_si_n (by omega), gi_si_n (by omega), gi_si_n (by omega)]; exact r30, fun i hi => by
            rw [gi_si_n (by omega), gi_si_n (by omega), gi_si_n (by omega), gi_si_n (by omega), gi_si_n (by omega), gi_si_n (by omega), gi_si_n (by omega), gi_si_n (by omega), gi_si_n (by omega)]
            exact r3.2 i hi⟩, fun p hp => by
            rw [gi_si_n (by omega), gi_si_n (by omega), gi_si_n (by omega)]
            exact q3 p hp, by rw [gi_si_n (by omega), gi_si_n (by omega), gi_si_s], by rw [gi_si_n (by omega), gi_si_s], by rw [gi_si_s], fun j hj => by omega⟩
        obtain ⟨i, i1, i2, rfl, i3, i4, i5, i6, i7, i8, i9⟩ := hI
        unfold f_X9_say_77
        rw [wp_rI, i4.1]
        have o3 : ∀ q k, ¬ c9 q k → ¬ (169 ≤ q ∧ q ≤ 171 ∧ k = 0) → ¬ (q = 172 ∧ k < 84) → gi w' q k = gi w2 q k := fun q k h1 h2 h3 => i3.2.2 q k (fun hq => by
          rcases hq with hq | hq | hq
          · exact h1 hq
          · omega
          · exact h3 hq)
        by_cases hi : L.length ≤ i
        · have e : i = L.length := by omega
          subst e
          rw [if_pos (nI_le hi (by omega)), wp_rI, i4.1, wp_rt]
          refine ⟨rfl, ?_⟩
          have z : ∀ k, k < 6 → gi w' 20 k = gi w2 20 k := fun k hk => o3 _ _ (by unfold c9; omega) (by omega) (by omega)
          refine inv_s hR hT hTo hJ hV hK hL hH (i3.1.trans g1.1) (fun q k hc => ?_) ⟨L.length, hLl, (z 3 (by omega)).trans g2, i6, fun _ => ⟨?_, y, vs w a, hy, by omega, s1, rfl, (z 4 (by omega)).trans g3, i7, (z 5 (by omega)).trans g4, i8, fun j hj => ⟨T j, Tlt j hj, ?_, ?_⟩⟩⟩
          · obtain ⟨hc1, hc2⟩ := hc
            have n9 := core_c9 ht hc1
            have n8 := core_c8 ht hc1
            unfold cS0 at hc2
            unfold c8 at n8
            rw [o3 q k n9 (by omega) (by omega), o2 q k (by omega) (by omega) (by omega)]
          · have := (s4 0 (by omega)).1
            omega
          · rw [show 29 + 10 * 0 = 29 by omega, o3 _ _ (by unfold c9; omega) (by omega) (by omega)]; exact g5 j hj
          · rw [show 84 * 0 + j = j by omega]; exact i9 j hj
        · have eT3 : Eqo (cTon t) w2 w' := fun q k hc => o3 q k (core_c9 ht (Or.inr (Or.inl hc))) (by unfold cTon at hc; omega) (by unfold cTon at hc; omega)
          have tk9 := rd_token9 (hTo2.to eT3) (r := vw w a) i4 (by omega) s1 lt (fun p hp => by rw [← v2]; exact i5 p hp) (i := i) (by omega)
          rw [if_neg (nI_ge (by omega) (by omega)), wp_bnd, tk9.wp, wp_sIn (by omega) (by omega), ad1]
          refine hs (L.length - (i + 1)) _ _ (by omega) ⟨i + 1, by omega, rfl, rfl, i3.si (Or.inr (Or.inr ⟨rfl, by omega⟩)), ⟨?_, fun j hj => ?_⟩, fun p hp => ?_, ?_, ?_, ?_, fun j hj => ?_⟩
          · rw [gi_si_n (by omega)]; exact i4.1
          · rw [gi_si_n (by omega), gi_si_n (by omega), gi_si_n (by omega)]; exact i4.2 j hj
          · rw [gi_si_n (by omega)]; exact i5 p hp
          · rw [gi_si_n (by omega)]; exact i6
          · rw [gi_si_n (by omega)]; exact i7
          · rw [gi_si_n (by omega)]; exact i8
          · by_cases e : j = i
            · rw [e, gi_si_s, tkL_fr (fun q k hq => (o3 q k (by unfold c9; omega) (by omega) (by omega)).trans (o2 q k (by omega) (by omega) (by omega)))]
            · rw [gi_si_n (by omega)]; exact i9 j (by omega)
    · refine (wp_beo (n := 5) h2).mpr ?_
      rw [if_pos rfl, wp_rt, wp_bnd, wp_ver ha, if_neg (by decide), wp_bnd, wp_wayo h2, if_pos rfl]
      exact wp_rt.mpr ⟨rfl, hw⟩
  · refine (wp_beo (n := 6) h1).mpr ?_
    rw [if_pos rfl, wp_rt, wp_bnd, wp_vero h1, if_pos rfl]
    exact wp_rt.mpr ⟨rfl, hw⟩
end SAID
