/-! many ways at once; the chains; tokens -/
section WAYS
variable {w : Wd}
def LW (S m : Nat) : List (Nat × Bool) := (List.range 5).flatMap (fun y => if S.testBit y then CL y m else [])
def LWp (S m j : Nat) : List (Nat × Bool) := (List.range j).flatMap (fun y => if S.testBit y then CL y m else [])
theorem LWp_len : ∀ S, S < 32 → ∀ m, m < 9 → ∀ j, j < 6 → (LWp S m j).length ≤ 156 := by decide +kernel
theorem LW_lt : ∀ S, S < 32 → ∀ m, m < 9 → 0 < m → ∀ x ∈ LW S m, x.1 < m := by decide +kernel
theorem LW_one : ∀ y, y < 5 → ∀ m, m < 9 → LW (2 ^ y) m = CL y m := by decide +kernel
def lst (L : List (Nat × Bool)) (i : Nat) : Nat := max (own L i) (max ((bf L i).getD 0) ((af L i).getD 0))
/-- the last of the first n whose latest place is p -/
def prv (L : List (Nat × Bool)) (p : Nat) : Nat → Option Nat
  | 0 => none
  | n + 1 => if lst L n = p then some n else prv L p n
def Chn (L : List (Nat × Bool)) (w : Wd) : Prop := (∀ p, p < 8 → gi w 179 p = oI (prv L p L.length)) ∧ ∀ i, i < L.length → gi w 180 i = oI (prv L (lst L i) i)
theorem m4_le (x : Nat) (h : x < 2 ^ 31) : (-4 : Int32) ≤ nI x := by
  rw [Int32.le_iff_toInt_le, nI_toInt h]
  show (-4 : Int) ≤ x
  omega
theorem nle_m4 (x : Nat) (h : x < 2 ^ 31) : ¬ nI x ≤ (-4 : Int32) := by
  rw [Int32.le_iff_toInt_le, nI_toInt h]
  show ¬ (x : Int) ≤ (-4 : Int)
  omega
def mxo : Option Nat → Option Nat → Option Nat
  | none, b => b
  | some x, none => some x
  | some x, some y => some (max x y)
theorem mxo_getD (a b : Option Nat) : (mxo a b).getD 0 = max (a.getD 0) (b.getD 0) := by
  cases a <;> cases b <;> simp [mxo]
theorem rd_later (a b : Option Nat) (ha : a.getD 0 < 8) (hb : b.getD 0 < 8) : Rd (f_X9_later (oI a) (oI b)) w (oI (mxo a b)) := by
  unfold f_X9_later f_X9_later_10
  cases a with
  | none =>
    cases b with
    | none => rw [show oI none = (-4 : Int32) from rfl, if_pos (by decide)]; exact rd_rt
    | some y => rw [show oI none = (-4 : Int32) from rfl, show oI (some y) = nI y from rfl, if_pos (m4_le y (by simp at hb; omega))]; exact rd_rt
  | some x =>
    cases b with
    | none => rw [show oI none = (-4 : Int32) from rfl, show oI (some x) = nI x from rfl, if_neg (nle_m4 x (by simp at ha; omega))]; exact rd_rt
    | some y =>
      have ha : x < 8 := ha
      have hb : y < 8 := hb
      rw [show oI (some x) = nI x from rfl, show oI (some y) = nI y from rfl, show oI (mxo (some x) (some y)) = nI (max x y) from rfl]
      by_cases h : x ≤ y
      · rw [if_pos (nI_le h (by omega)), show max x y = y by omega]; exact rd_rt
      · rw [if_neg (nI_ge (by omega) (by omega)), show max x y = x by omega]; exact rd_rt
theorem bf_mem {L : List (Nat × Bool)} {b i : Nat} (hb : ∀ x ∈ L, x.1 < b) (hi : i < L.length) : ∀ p, bf L i = some p → p < b := by
  intro p hp
  unfold bf at hp
  by_cases h : i = 0 ∨ beg L i = true
  · rw [if_pos h] at hp; cases hp
  · rw [if_neg h] at hp
    cases hp
    exact own_mem hb (by omega)
theorem af_mem {L : List (Nat × Bool)} {b i : Nat} (hb : ∀ x ∈ L, x.1 < b) : ∀ p, af L i = some p → p < b := by
  intro p hp
  unfold af at hp
  by_cases h : beg L (i + 1) = true
  · rw [if_pos h] at hp; cases hp
  · rw [if_neg h] at hp
    cases hp
    refine own_mem hb ?_
    by_cases hl : i + 1 < L.length
    · exact hl
    · exact absurd (beg_out (by omega)) h
theorem getD_lt {o : Option Nat} {b : Nat} (h : ∀ p, o = some p → p < b) (hb : 0 < b) : o.getD 0 < b := by
  cases o with
  | none => exact hb
  | some p => exact h p rfl
theorem lst_lt {L : List (Nat × Bool)} {b i : Nat} (hb : ∀ x ∈ L, x.1 < b) (hi : i < L.length) : lst L i < b := by
  have h1 := own_mem hb hi
  have h2 := getD_lt (bf_mem hb hi) (by omega)
  have h3 := getD_lt (af_mem (i := i) hb) (by omega)
  unfold lst
  omega
theorem prv_lt (L : List (Nat × Bool)) (p : Nat) : ∀ n j, prv L p n = some j → j < n
  | 0, j, h => by cases h
  | n + 1, j, h => by
    unfold prv at h
    by_cases e : lst L n = p
    · rw [if_pos e] at h; cases h; omega
    · rw [if_neg e] at h
      have := prv_lt L p n j h
      omega
theorem wp_chain {L : List (Nat × Bool)} (h : RLay L w) (hb : ∀ x ∈ L, x.1 < 8) (hl : L.length ≤ 168) : wp (fix1 FU (f_X9_layWays_34) 0) w (fun _ w' => RLay L w' ∧ Chn L w' ∧ Fr c9 w w') := by
  refine wp_fix1 (fun n x w' => ∃ p, p ≤ 8 ∧ n = 8 - p ∧ x = nI p ∧ RLay L w' ∧ (∀ j, j < p → gi w' 179 j = -4) ∧ Fr c9 w w') (fun n x w' self hI hs => ?_) FU 8 0 w (by have := FU_big; omega) ⟨0, by omega, by omega, rfl, h, fun j hj => by omega, Fr.rf⟩
  obtain ⟨p, p1, p2, rfl, p3, p4, p5⟩ := hI
  unfold f_X9_layWays_34
  by_cases hp : p < 8
  · rw [if_neg (nge_l 8 hp (by omega)), wp_sIn (by omega) (by omega), ad1]
    refine hs (8 - (p + 1)) _ _ (by omega) ⟨p + 1, by omega, rfl, rfl, ⟨?_, fun i hi => ?_⟩, fun j hj => ?_, p5.si (by unfold c9; omega)⟩
    · rw [gi_si_n (by omega)]; exact p3.1
    · rw [gi_si_n (by omega), gi_si_n (by omega), gi_si_n (by omega)]; exact p3.2 i hi
    · by_cases e : j = p
      · rw [e, gi_si_s]
      · rw [gi_si_n (by omega)]; exact p4 j (by omega)
  · rw [if_pos (ge_l 8 (by omega) (by omega))]
    refine wp_fix1 (fun n x w'' => ∃ i, i ≤ L.length ∧ n = L.length - i ∧ x = nI i ∧ RLay L w'' ∧ ((∀ p, p < 8 → gi w'' 179 p = oI (prv L p i)) ∧ ∀ j, j < i → gi w'' 180 j = oI (prv L (lst L j) j)) ∧ Fr c9 w w'') (fun n x w'' self hI hs => ?_) FU L.length 0 w' (by have := FU_big; omega) ⟨0, by omega, by omega, rfl, p3, ⟨fun j hj => p4 j (by omega), fun j hj => by omega⟩, p5⟩
    obtain ⟨i, i1, i2, rfl, i3, ⟨i4, i5⟩, i6⟩ := hI
    unfold f_X9_layWays_56
    rw [wp_rI, i3.1]
    by_cases hi : L.length ≤ i
    · have e : i = L.length := by omega
      subst e
      rw [if_pos (nI_le hi (by omega)), wp_rt]
      exact ⟨i3, ⟨i4, i5⟩, i6⟩
    · obtain ⟨o1, o2, o3⟩ := i3.2 i (by omega)
      have l8 := lst_lt hb (show i < L.length by omega)
      have w8 := own_mem hb (show i < L.length by omega)
      have b8 := bf_mem hb (show i < L.length by omega)
      have a8 := af_mem (i := i) hb
      rw [if_neg (nI_ge (by omega) (by omega)), wp_aIn (by omega) (by omega), o1, wp_aIn (by omega) (by omega), o2, wp_aIn (by omega) (by omega), o3, wp_bnd, (rd_later _ _ (getD_lt b8 (by omega)) (getD_lt a8 (by omega))).wp, wp_bnd]
      have hlat : Rd (f_X9_later (nI (own L i)) (oI (mxo (bf L i) (af L i)))) w'' (nI (lst L i)) := by
        have hc : (mxo (bf L i) (af L i)).getD 0 < 8 := by
          rw [mxo_getD]
          have h1 := getD_lt b8 (by omega)
          have h2 := getD_lt a8 (by omega)
          omega
        have := rd_later (w := w'') (some (own L i)) (mxo (bf L i) (af L i)) w8 hc
        have e : oI (mxo (some (own L i)) (mxo (bf L i) (af L i))) = nI (lst L i) := by
          unfold lst
          rw [← mxo_getD]
          cases mxo (bf L i) (af L i) with
          | none => show nI (own L i) = nI (max (own L i) 0); congr 1; omega
          | some y => rfl
        rw [e] at this
        exact this
      rw [hlat.wp, wp_aIn (by omega) (by omega), i4 _ l8, wp_sIn (by omega) (by omega), wp_sIn (by omega) (by omega), ad1]
      refine hs (L.length - (i + 1)) _ _ (by omega) ⟨i + 1, by omega, rfl, rfl, ⟨?_, fun j hj => ?_⟩, ⟨fun p hp => ?_, fun j hj => ?_⟩, (i6.si (by unfold c9; omega)).si (by unfold c9; omega)⟩
      · rw [gi_si_n (by omega), gi_si_n (by omega)]; exact i3.1
      · rw [gi_si_n (by omega), gi_si_n (by omega), gi_si_n (by omega), gi_si_n (by omega), gi_si_n (by omega), gi_si_n (by omega)]; exact i3.2 j hj
      · show _ = oI (if lst L i = p then some i else prv L p i)
        by_cases e : lst L i = p
        · rw [if_pos e, ← e, gi_si_s]; rfl
        · rw [if_neg e, gi_si_n (by omega), gi_si_n (by omega)]; exact i4 p hp
      · rw [gi_si_n (by omega)]
        by_cases e : j = i
        · rw [e, gi_si_s]
        · rw [gi_si_n (by omega)]; exact i5 j (by omega)
theorem wp_layWays {S m : Nat} (hS : S < 32) (hm : m < 9) (h0 : 0 < m) : wp (f_X9_layWays (nI S) (nI m)) w (fun _ w' => RLay (LW S m) w' ∧ Chn (LW S m) w' ∧ Fr c9 w w') := by
  unfold f_X9_layWays
  rw [wp_wI]
  refine wp_fix1 (fun n x w' => ∃ j, j ≤ 5 ∧ n = 5 - j ∧ x = nI j ∧ RLay (LWp S m j) w' ∧ Fr c9 w w') (fun n x w' self hI hs => ?_) FU 5 0 _ (by have := FU_big; omega) ⟨0, by omega, by omega, rfl, ⟨by rw [gi_si_s]; rfl, fun i hi => absurd hi (Nat.not_lt_zero _)⟩, Fr.rf.si (by unfold c9; omega)⟩
  obtain ⟨j, j1, j2, rfl, j3, j4⟩ := hI
  unfold f_X9_layWays_7 f_X9_layWays_26
  by_cases hj : j < 5
  · have hl := LWp_len S hS m hm (j + 1) (by omega)
    have es : LWp S m (j + 1) = LWp S m j ++ (if S.testBit j then CL j m else []) := fm_succ _ j
    rw [es, List.length_append] at hl
    rw [if_neg (nge_l 5 hj (by omega)), wp_bnd, (rd_has _ (by omega)).wp, bt_nI (by omega), ad1]
    cases hb : S.testBit j
    · rw [if_pos (by rfl)]
      refine hs (5 - (j + 1)) _ _ (by omega) ⟨j + 1, by omega, rfl, rfl, ?_, j4⟩
      rw [es, hb]
      show RLay (LWp S m j ++ []) w'
      rw [List.append_nil]
      exact j3
    · rw [if_neg (by decide), wp_bnd]
      rw [hb, if_pos rfl] at hl es
      refine wp_mono (wp_layWay hj hm h0 j3 (by omega)) (fun _ w1 h => ?_)
      refine hs (5 - (j + 1)) _ _ (by omega) ⟨j + 1, by omega, rfl, rfl, ?_, j4.tr h.2⟩
      rw [es]
      exact h.1
  · have e : j = 5 := by omega
    subst e
    rw [if_pos (ge_l 5 (by omega) (by omega))]
    have hlen := LWp_len S hS m hm 5 (by omega)
    refine wp_mono (wp_chain (L := LW S m) j3 (fun x hx => by have := LW_lt S hS m hm h0 x hx; omega) (by show (LWp S m 5).length ≤ 168; omega)) (fun _ w1 h => ?_)
    exact ⟨h.1, h.2.1, j4.tr h.2.2⟩
end WAYS
section TOK
variable {w : Wd} {t W : Nat}
def tkf (w : Wd) (b : Option Nat) (x : Nat) : Nat := match b with | none => wf w x | some o => jn w (wl w o) (wf w x) % 8
def tkr (w : Wd) (x : Nat) (a : Option Nat) : Nat := match a with | none => wl w x | some o => jn w (wl w x) (wf w o) / 8
def tk (w : Wd) (b : Option Nat) (x : Nat) (a : Option Nat) : Nat := 128 * tkf w b x + 8 * wb w x + tkr w x a
def oW : Option Nat → Nat
  | none => 16
  | some o => o
theorem tkf_lt (hTo : ITon t W w) {b : Option Nat} {x : Nat} (hx : x < W) : tkf w b x < 8 := by
  cases b with
  | none => exact (hTo.fl hx).2.1
  | some o => exact Nat.mod_lt _ (by omega)
theorem tkr_lt (hTo : ITon t W w) {a : Option Nat} {x : Nat} (hx : x < W) (ha : ∀ o, a = some o → o < W) : tkr w x a < 8 := by
  cases a with
  | none => exact (hTo.fl hx).2.2.2.2.2
  | some o =>
    have h1 := (hTo.jl (hTo.fl hx).2.2.2.2.2 (hTo.fl (ha o rfl)).2.1).2
    show jn w (wl w x) (wf w o) / 8 < 8
    omega
theorem tk_lt (hTo : ITon t W w) {a b : Option Nat} {x : Nat} (hx : x < W) (ha : ∀ o, a = some o → o < W) : tk w b x a < 1024 := by
  have h1 := tkf_lt hTo (b := b) hx
  have h2 := tkr_lt hTo hx ha
  have h3 := (hTo.fl hx).2.2.2.1
  unfold tk
  omega
theorem mu17 (a : Nat) : 17 * nI a = nI (17 * a) := pk_mul 17 a
theorem mu128 (a : Nat) : 128 * nI a = nI (128 * a) := pk_mul 128 a
theorem rd_tok8 (hTo : ITon t W w) (hJ : IJoin t W w) {a b : Option Nat} {x : Nat} (hx : x < W) (ha : ∀ o, a = some o → o < W) (hb : ∀ o, b = some o → o < W) : Rd (f_X6_token t (nI (oW b)) (nI x) (nI (oW a))) w (nI (tk w b x a)) := by
  have hW := hTo.1
  have e1 : oW b ≤ 16 := by cases b with | none => exact Nat.le_refl _ | some o => have := hb o rfl; show o ≤ 16; omega
  have e2 : oW a ≤ 16 := by cases a with | none => exact Nat.le_refl _ | some o => have := ha o rfl; show o ≤ 16; omega
  have f1 : gi w (t + 6) (17 * oW b + x) = nI (128 * tkf w b x + 8 * wb w x) := by
    cases b with
    | none => exact (hJ.1 x hx).1
    | some o => exact (hJ.2 x o hx (hb o rfl)).1
  have f2 : gi w (t + 7) (17 * oW a + x) = nI (tkr w x a) := by
    cases a with
    | none => exact (hJ.1 x hx).2
    | some o => exact (hJ.2 x o hx (ha o rfl)).2
  unfold Rd f_X6_token
  rw [mu17, mu17, nI_add, nI_add, wp_aIn (by omega) (by omega), f1, wp_aIn (by omega) (by omega), f2, wp_rt, nI_add]
  exact ⟨rfl, rfl⟩
theorem m4_neg : ¬ (0 : Int32) ≤ -4 := by decide
theorem rem8 {a : Nat} (ha : a < 2 ^ 31) : nI a - nI a / 8 * 8 = nI (a % 8) := pk_rem (d := 8) ha (by omega) (by omega)
theorem div8 {a : Nat} (ha : a < 2 ^ 31) : nI a / 8 = nI (a / 8) := pk_div (d := 8) ha (by omega) (by omega)
theorem rd_tok9 (hTo : ITon t W w) {a b : Option Nat} {x : Nat} (hx : x < W) (ha : ∀ o, a = some o → o < W) (hb : ∀ o, b = some o → o < W) : Rd (f_X9_tokenOf (oI b) (nI x) (oI a)) w (nI (tk w b x a)) := by
  have hW := hTo.1
  obtain ⟨x1, x2, x3, x4, x5, x6⟩ := hTo.fl hx
  have hf := tkf_lt hTo (b := b) hx
  have hr := tkr_lt hTo hx ha
  unfold Rd f_X9_tokenOf
  rw [mu3, wp_aIn (by omega) (by omega), x1, ad2, wp_aIn (by omega) (by omega), x5]
  have rest : wp (f_X9_tokenOf_55 (nI x) (oI a) (nI (wl w x)) (nI (tkf w b x))) w (fun r w' => r = nI (tk w b x a) ∧ w' = w) := by
    unfold f_X9_tokenOf_55 f_X9_tokenOf_88
    have last : wp (aI 164 96 ((3 * nI x) + 1) (fun v1 => rt (((128 * nI (tkf w b x)) + (8 * v1)) + nI (tkr w x a)))) w (fun r w' => r = nI (tk w b x a) ∧ w' = w) := by
      rw [mu3, ad1, wp_aIn (by omega) (by omega), x3, wp_rt, mu128, mu8, nI_add, nI_add]
      exact ⟨rfl, rfl⟩
    cases a with
    | none =>
      rw [show oI none = (-4 : Int32) from rfl, if_neg m4_neg]
      exact last
    | some o =>
      have ho := ha o rfl
      obtain ⟨o1, o2, -⟩ := hTo.fl ho
      obtain ⟨j1, j2⟩ := hTo.jl x6 o2
      rw [show oI (some o) = nI o from rfl, if_pos (ge_l 0 (by omega) (by omega)), mu3, wp_aIn (by omega) (by omega), o1, mu8, nI_add, wp_aIn (by omega) (by omega), j1, wp_gd, div8 (by omega)]
      exact ⟨by decide, last⟩
  cases b with
  | none =>
    rw [show oI none = (-4 : Int32) from rfl, if_neg m4_neg]
    exact rest
  | some o =>
    have ho := hb o rfl
    obtain ⟨o1, o2, o3, o4, o5, o6⟩ := hTo.fl ho
    obtain ⟨j1, j2⟩ := hTo.jl o6 x2
    rw [show oI (some o) = nI o from rfl, if_pos (ge_l 0 (by omega) (by omega)), mu3, ad2, wp_aIn (by omega) (by omega), o5, mu8, nI_add, wp_aIn (by omega) (by omega), j1, wp_gd, rem8 (by omega)]
    exact ⟨by decide, rest⟩
/-- a token of a row of words in a course -/
def tkL (w : Wd) (L : List (Nat × Bool)) (r : Nat → Nat) (i : Nat) : Nat := tk w ((bf L i).map r) (r (own L i)) ((af L i).map r)
theorem map_lt {o : Option Nat} {r : Nat → Nat} {m : Nat} (h : ∀ p, o = some p → p < m) (hr : ∀ p, p < m → r p < W) : ∀ x, o.map r = some x → x < W := by
  intro x hx
  cases o with
  | none => cases hx
  | some p =>
    cases hx
    exact hr p (h p rfl)
theorem rd_token8 (hTo : ITon t W w) (hJ : IJoin t W w) {L : List (Nat × Bool)} {m q i : Nat} {r : Nat → Nat} (hL : CLay L w) (hl : L.length ≤ 84) (hm : m ≤ 8) (hb : ∀ x ∈ L, x.1 < m) (hr : ∀ p, p < m → r p < W ∧ gi w q p = nI (r p)) (hi : i < L.length) : Rd (f_X1_token t q (nI i)) w (nI (tkL w L r i)) := by
  have hW := hTo.1
  have h1 := own_mem hb hi
  have h2 := bf_mem hb hi
  have h3 := af_mem (i := i) hb
  obtain ⟨o1, o2⟩ := hL.2 i hi
  have rb : Rd (f_X1_before (nI i)) w (match bf L i with | none => -1 | some p => nI p) := by
    unfold Rd f_X1_before f_X1_before_13 f_X1_before_25 bf
    by_cases i0 : i = 0
    · rw [if_pos (eq_l 0 i0), wp_rt, if_pos (Or.inl i0)]
      exact ⟨rfl, rfl⟩
    · rw [if_neg (ne_l 0 i0 (by omega) (by omega)), wp_aIn (by omega) (by omega), o2]
      cases hbg : beg L i
      · obtain ⟨q1, q2⟩ := hL.2 (i - 1) (by omega)
        rw [if_pos (show nI (b2 false) = 0 from rfl), show nI i - 1 = nI (i - 1) from pk_sub (b := 1) (by omega), wp_aIn (by omega) (by omega), q1, wp_rt, if_neg (by simp [i0])]
        exact ⟨rfl, rfl⟩
      · rw [if_neg (show ¬ nI (b2 true) = 0 by decide), wp_rt, if_pos (Or.inr rfl)]
        exact ⟨rfl, rfl⟩
  have ra : Rd (f_X1_behind (nI i)) w (match af L i with | none => -1 | some p => nI p) := by
    unfold Rd f_X1_behind f_X1_behind_21 f_X1_behind_33 af
    rw [wp_rI, hL.1, ad1]
    by_cases il : L.length ≤ i + 1
    · rw [if_pos (nI_le il (by omega)), wp_rt, if_pos (beg_out il)]
      exact ⟨rfl, rfl⟩
    · obtain ⟨q1, q2⟩ := hL.2 (i + 1) (by omega)
      rw [if_neg (nI_ge (by omega) (by omega)), wp_aIn (by omega) (by omega), q2]
      cases hbg : beg L (i + 1)
      · rw [if_pos (show nI (b2 false) = 0 from rfl), wp_aIn (by omega) (by omega), q1, wp_rt, if_neg (by simp)]
        exact ⟨rfl, rfl⟩
      · rw [if_neg (show ¬ nI (b2 true) = 0 by decide), wp_rt, if_pos rfl]
        exact ⟨rfl, rfl⟩
  unfold Rd f_X1_token
  rw [wp_bnd, rb.wp, wp_bnd, ra.wp]
  have last : ∀ b : Option Nat, b = bf L i → wp (f_X1_token_29 q (nI i) (match af L i with | none => -1 | some p => nI p) (nI (oW (b.map r))) t) w (fun v w' => v = nI (tkL w L r i) ∧ w' = w) := by
    intro b hbb
    unfold f_X1_token_29 f_X1_token_51
    obtain ⟨r1, r2⟩ := hr _ h1
    have fin : ∀ a : Option Nat, a = af L i → wp (bnd (f_X6_token t (nI (oW (b.map r))) (nI (r (own L i))) (nI (oW (a.map r)))) (fun v1 => rt v1)) w (fun v w' => v = nI (tkL w L r i) ∧ w' = w) := by
      intro a haa
      rw [wp_bnd, (rd_tok8 hTo hJ r1 (map_lt (by rw [haa]; exact h3) (fun p hp => (hr p hp).1)) (map_lt (by rw [hbb]; exact h2) (fun p hp => (hr p hp).1))).wp, wp_rt]
      rw [hbb, haa]
      exact ⟨rfl, rfl⟩
    rw [wp_aIn (by omega) (by omega), o1, wp_aIn (by omega) (by omega), r2]
    cases haf : af L i with
    | none =>
      rw [if_neg (show ¬ (0 : Int32) ≤ -1 by decide)]
      exact fin none haf.symm
    | some p =>
      have hp := h3 p haf
      rw [if_pos (ge_l 0 (by omega) (by omega)), wp_aIn (by omega) (by omega), (hr p hp).2]
      exact fin (some p) haf.symm
  cases hbf : bf L i with
  | none =>
    rw [if_neg (show ¬ (0 : Int32) ≤ -1 by decide)]
    exact last none hbf.symm
  | some p =>
    have hp := h2 p hbf
    rw [if_pos (ge_l 0 (by omega) (by omega)), wp_aIn (by omega) (by omega), (hr p hp).2]
    exact last (some p) hbf.symm
theorem rd_rowAt {m : Nat} {r : Nat → Nat} (hm : m ≤ 8) (hr : ∀ p, p < m → r p < W ∧ gi w 181 p = nI (r p)) {o : Option Nat} (ho : ∀ p, o = some p → p < m) : Rd (f_X9_rowAt (oI o)) w (oI (o.map r)) := by
  unfold Rd f_X9_rowAt f_X9_rowAt_15
  cases o with
  | none => rw [show oI none = (-4 : Int32) from rfl, if_neg m4_neg, wp_rt]; exact ⟨rfl, rfl⟩
  | some p =>
    have hp := ho p rfl
    rw [show oI (some p) = nI p from rfl, if_pos (ge_l 0 (by omega) (by omega)), wp_aIn (by omega) (by omega), (hr p hp).2, wp_rt]
    exact ⟨rfl, rfl⟩
theorem rd_token9 (hTo : ITon t W w) {L : List (Nat × Bool)} {m i : Nat} {r : Nat → Nat} (hL : RLay L w) (hl : L.length ≤ 168) (hm : m ≤ 8) (hb : ∀ x ∈ L, x.1 < m) (hr : ∀ p, p < m → r p < W ∧ gi w 181 p = nI (r p)) (hi : i < L.length) : Rd (f_X9_tokenAt (nI i)) w (nI (tkL w L r i)) := by
  have h1 := own_mem hb hi
  have h2 := bf_mem hb hi
  have h3 := af_mem (i := i) hb
  obtain ⟨o1, o2, o3⟩ := hL.2 i hi
  unfold Rd f_X9_tokenAt
  rw [wp_aIn (by omega) (by omega), o2, wp_bnd, (rd_rowAt hm hr h2).wp, wp_aIn (by omega) (by omega), o1, wp_bnd, show nI (own L i) = oI (some (own L i)) from rfl, (rd_rowAt hm hr (o := some (own L i)) (fun p hp => by cases hp; exact h1)).wp, wp_aIn (by omega) (by omega), o3, wp_bnd, (rd_rowAt hm hr h3).wp, wp_bnd]
  have := rd_tok9 hTo (b := (bf L i).map r) (x := r (own L i)) (a := (af L i).map r) (hr _ h1).1 (map_lt h3 (fun p hp => (hr p hp).1)) (map_lt h2 (fun p hp => (hr p hp).1))
  rw [show oI (Option.map r (some (own L i))) = nI (r (own L i)) from rfl, this.wp, wp_rt]
  exact ⟨rfl, rfl⟩
end TOK
