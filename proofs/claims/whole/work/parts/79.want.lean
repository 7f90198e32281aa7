/-! the class: what is wanted, as records -/
section CLM
variable {R : Type} {w : Wd} {Q : R → Wd → Prop} {q0 p j N : Nat}
theorem wp_aIc {K : Int32 → M R} (hp : p < 2 ^ 31) (hj : j < N) (hN : N < 2 ^ 31) : wp (aI (q0 + (nI p).toNatClampNeg) N (nI j) K) w Q ↔ wp (K (gi w (q0 + p) j)) w Q := by rw [cl_nI hp, wp_aIn hj hN]
theorem wp_aLc {K : Int64 → M R} (hp : p < 2 ^ 31) (hj : j < N) (hN : N < 2 ^ 31) : wp (aL (q0 + (nI p).toNatClampNeg) N (nI j) K) w Q ↔ wp (K (gl w (q0 + p) j)) w Q := by rw [cl_nI hp, wp_aLn hj hN]
theorem wp_sIc {K : M R} {v : Int32} (hp : p < 2 ^ 31) (hj : j < N) (hN : N < 2 ^ 31) : wp (sI (q0 + (nI p).toNatClampNeg) N (nI j) v K) w Q ↔ wp K (si w (q0 + p) j v) Q := by rw [cl_nI hp, wp_sIn hj hN]
theorem wp_sLc {K : M R} {v : Int64} (hp : p < 2 ^ 31) (hj : j < N) (hN : N < 2 ^ 31) : wp (sL (q0 + (nI p).toNatClampNeg) N (nI j) v K) w Q ↔ wp K (sl w (q0 + p) j v) Q := by rw [cl_nI hp, wp_sLn hj hN]
end CLM
section WANT
variable {w w' : Wd} {t W m : Nat}
abbrev TK := Nat × Nat × Nat × Nat
abbrev SK := Nat × Nat
def seatO (p : Nat) : Option Nat → Nat
  | none => 0
  | some q => if q = p then 2 else 1
def tkey (j : It × Nat) : TK := (seatO (ltt j.1) j.1.1, seatO (ltt j.1) (some j.1.2.1), seatO (ltt j.1) j.1.2.2, j.2)
def skey (j : It × Nat) : SK := ((match j.1.1, j.1.2.2 with | some a, some b => if a ≤ b then 0 else 1 | _, _ => 0), j.2)
def isTy (p : Nat) (j : It × Nat) : Bool := !isSp j.1 && decide (ltt j.1 = p)
def isSn (p : Nat) (j : It × Nat) : Bool := isSp j.1 && decide (j.1.2.1 = p)
def tyR (J : List (It × Nat)) (p : Nat) : List (TK × Nat) := rcs (isTy p) tkey J []
def spR (J : List (It × Nat)) (p : Nat) : List (SK × Nat) := rcs (isSn p) skey J []
def TC (p j : Nat) (e : TK × Nat) (w : Wd) : Prop := gi w (75 + 1 + p) j = nI e.1.1 ∧ gi w (84 + 1 + p) j = nI e.1.2.1 ∧ gi w (93 + 1 + p) j = nI e.1.2.2.1 ∧ gi w (102 + 1 + p) j = nI e.1.2.2.2 ∧ gi w (111 + 1 + p) j = nI e.2
def SCl (p j : Nat) (e : SK × Nat) (w : Wd) : Prop := gi w (121 + 1 + p) j = nI e.1.1 ∧ gi w (130 + 1 + p) j = nI e.1.2 ∧ gi w (139 + 1 + p) j = nI e.2
def TLs (R : List (TK × Nat)) (p : Nat) (w : Wd) : Prop := gi w 74 p = nI R.length ∧ ∀ j e, R[j]? = some e → TC p j e w
def SLs (R : List (SK × Nat)) (p : Nat) (w : Wd) : Prop := gi w 120 p = nI R.length ∧ ∀ j e, R[j]? = some e → SCl p j e w
def Wn (J : List (It × Nat)) (w : Wd) : Prop := ∀ p, p < 8 → TLs (tyR J p) p w ∧ SLs (spR J p) p w
/-- what is known of all that is wanted -/
def Jok (m : Nat) (J : List (It × Nat)) : Prop := ∀ j ∈ J, okIt m j.1 = true ∧ j.2 < 1024
def Cap (J : List (It × Nat)) : Prop := ∀ p, p < 8 → (tyR J p).length ≤ 16 ∧ (spR J p).length ≤ 3
def kOK (p : Nat) (k : TK) : Prop := k.1 < 3 ∧ (k.2.1 = 1 ∨ k.2.1 = 2) ∧ k.2.2.1 < 3 ∧ k.2.2.2 < 1024 ∧ (p = 0 → k.1 ≠ 1 ∧ k.2.1 ≠ 1 ∧ k.2.2.1 ≠ 1)
theorem seatO_lt (p : Nat) (o : Option Nat) : seatO p o < 3 := by
  cases o with
  | none => show 0 < 3; omega
  | some q => show (if q = p then 2 else 1) < 3; split <;> omega
theorem seatO_0 {p : Nat} (hp : p = 0) {o : Option Nat} (h : ∀ a, o = some a → a ≤ p) : seatO p o ≠ 1 := by
  cases o with
  | none => show 0 ≠ 1; omega
  | some q =>
    have := h q rfl
    show (if q = p then 2 else 1) ≠ 1
    rw [if_pos (by omega)]
    omega
theorem tkey_ok {j : It × Nat} (hg : j.2 < 1024) : kOK (ltt j.1) (tkey j) := by
  obtain ⟨l1, l2, l3⟩ := ltt_le (x := j.1)
  refine ⟨seatO_lt _ _, ?_, seatO_lt _ _, hg, fun h0 => ⟨seatO_0 h0 l2, seatO_0 (o := some j.1.2.1) h0 (fun a ha => by cases ha; exact l1), seatO_0 h0 l3⟩⟩
  show (if j.1.2.1 = ltt j.1 then 2 else 1) = 1 ∨ (if j.1.2.1 = ltt j.1 then 2 else 1) = 2
  split <;> omega
theorem tyR_ok {J : List (It × Nat)} (hJ : Jok m J) {p : Nat} {e : TK × Nat} (he : e ∈ tyR J p) : kOK p e.1 := by
  rcases rcs_key J [] e.1 (List.mem_map_of_mem he) with h | ⟨j, h1, h2, h3⟩
  · cases h
  · have hp : ltt j.1 = p := by
      unfold isTy at h2
      rw [Bool.and_eq_true] at h2
      simpa using h2.2
    rw [h3, ← hp]
    exact tkey_ok (hJ j h1).2
theorem skey_lt (j : It × Nat) : (skey j).1 < 2 := by
  unfold skey
  show (match j.1.1, j.1.2.2 with | some a, some b => if a ≤ b then 0 else 1 | _, _ => 0) < 2
  cases j.1.1 with
  | none => show 0 < 2; omega
  | some a =>
    cases j.1.2.2 with
    | none => show 0 < 2; omega
    | some b => show (if a ≤ b then 0 else 1) < 2; split <;> omega
theorem spR_ok {J : List (It × Nat)} (hJ : Jok m J) {p : Nat} {e : SK × Nat} (he : e ∈ spR J p) : e.1.1 < 2 ∧ e.1.2 < 1024 ∧ 1 ≤ p ∧ p + 1 < m := by
  rcases rcs_key J [] e.1 (List.mem_map_of_mem he) with h | ⟨j, h1, h2, h3⟩
  · cases h
  · unfold isSn at h2
    rw [Bool.and_eq_true] at h2
    have hp : j.1.2.1 = p := by simpa using h2.2
    obtain ⟨h4, h5⟩ := hJ j h1
    obtain ⟨q1, q2, q3⟩ := okIt_lt h4
    rw [h3]
    refine ⟨skey_lt j, h5, ?_⟩
    obtain ⟨c, hc | hc⟩ := okIt_span h4 h2.1
    · rw [hc] at hp q3
      have hp : c + 1 = p := hp
      have := q3 (c + 2) rfl
      omega
    · rw [hc] at hp q2
      have hp : c + 1 = p := hp
      have := q2 (c + 2) rfl
      omega
def m1 : Option Nat → Int32
  | none => -1
  | some n => nI n
theorem rd_seatOf {p : Nat} (hp : p < 2 ^ 31) (o : Option Nat) (ho : ∀ a, o = some a → a < 2 ^ 31) : Rd (f_X7_seatOf (m1 o) (nI p)) w (nI (seatO p o)) := by
  unfold Rd f_X7_seatOf f_X7_seatOf_16
  cases o with
  | none => rw [show m1 none = (-1 : Int32) from rfl, if_neg (by decide), wp_rt]; exact ⟨rfl, rfl⟩
  | some a =>
    have ha := ho a rfl
    rw [show m1 (some a) = nI a from rfl, if_pos (ge_l 0 (by omega) ha)]
    by_cases e : a = p
    · rw [if_pos (by rw [e]), wp_rt, show seatO p (some a) = 2 from if_pos e]; exact ⟨rfl, rfl⟩
    · rw [if_neg (fun q => e ((nI_eq ha hp).mp q)), wp_rt, show seatO p (some a) = 1 from if_neg e]; exact ⟨rfl, rfl⟩
theorem max_ltt {a b : Option Nat} {o : Nat} (ho : o < 8) (ha : ∀ x, a = some x → x < 8) (hb : ∀ x, b = some x → x < 8) : (if nI o < (if m1 a < m1 b then m1 b else m1 a) then (if m1 a < m1 b then m1 b else m1 a) else nI o) = nI (ltt (a, o, b)) := by
  have lm : ∀ x, x < 8 → (-1 : Int32) < nI x := by decide +kernel
  have lm2 : ∀ x, x < 8 → ¬ nI x < (-1 : Int32) := by decide +kernel
  have mx : ∀ x y, x < 8 → y < 8 → (if nI x < nI y then nI y else nI x) = nI (max x y) := by
    intro x y hx hy
    by_cases h : x < y
    · rw [if_pos (nI_lt h (by omega)), show max x y = y by omega]
    · rw [if_neg (nI_nlt (by omega) (by omega)), show max x y = x by omega]
  unfold ltt
  cases a with
  | none =>
    cases b with
    | none =>
      rw [show m1 none = (-1 : Int32) from rfl, if_neg (show ¬ (-1 : Int32) < -1 by decide), if_neg (lm2 o ho)]
      exact congrArg nI (show o = max o (max 0 0) by omega)
    | some y =>
      have hy := hb y rfl
      rw [show m1 none = (-1 : Int32) from rfl, show m1 (some y) = nI y from rfl, if_pos (lm y hy), mx o y ho hy]
      exact congrArg nI (show max o y = max o (max 0 y) by omega)
  | some x =>
    have hx := ha x rfl
    cases b with
    | none =>
      rw [show m1 none = (-1 : Int32) from rfl, show m1 (some x) = nI x from rfl, if_neg (lm2 x hx), mx o x ho hx]
      exact congrArg nI (show max o x = max o (max x 0) by omega)
    | some y =>
      have hy := hb y rfl
      rw [show m1 (some x) = nI x from rfl, show m1 (some y) = nI y from rfl, mx x y hx hy, mx o (max x y) ho (by omega)]
      rfl
def cTy (p q k : Nat) : Prop := (q = 74 ∧ k = p) ∨ q = 75 + 1 + p ∨ q = 84 + 1 + p ∨ q = 93 + 1 + p ∨ q = 102 + 1 + p ∨ q = 111 + 1 + p
def cSn (p q k : Nat) : Prop := (q = 120 ∧ k = p) ∨ q = 121 + 1 + p ∨ q = 130 + 1 + p ∨ q = 139 + 1 + p
theorem get_mid {α : Type} (pre suf : List α) (a b : α) (j : Nat) : (pre ++ b :: suf)[j]? = if j = pre.length then some b else (pre ++ a :: suf)[j]? := by
  by_cases h : j < pre.length
  · rw [List.getElem?_append_left h, List.getElem?_append_left h, if_neg (by omega)]
  · rw [List.getElem?_append_right (by omega), List.getElem?_append_right (by omega)]
    by_cases e : j = pre.length
    · rw [if_pos e, e, Nat.sub_self]; rfl
    · rw [if_neg e]
      obtain ⟨n, hn⟩ : ∃ n, j - pre.length = n + 1 := ⟨j - pre.length - 1, by omega⟩
      rw [hn]
      rfl
theorem get_end {α : Type} (pre : List α) (b : α) (j : Nat) : (pre ++ [b])[j]? = if j = pre.length then some b else pre[j]? := by
  by_cases h : j < pre.length
  · rw [List.getElem?_append_left h, if_neg (by omega)]
  · rw [List.getElem?_append_right (by omega)]
    by_cases e : j = pre.length
    · rw [if_pos e, e, Nat.sub_self]; rfl
    · rw [if_neg e, List.getElem?_eq_none (by omega : pre.length ≤ j)]
      obtain ⟨n, hn⟩ : ∃ n, j - pre.length = n + 1 := ⟨j - pre.length - 1, by omega⟩
      rw [hn]
      rfl
theorem wp_tieLoop {R : List (TK × Nat)} {p : Nat} {k : TK} (hp : p < 8) (h : TLs R p w) (hk : kOK p k) (hR : ∀ e ∈ R, kOK p e.1) (hc : (addR k R).length ≤ 16) : wp (fix1 FU (f_X7_wantTie_38 (nI k.2.2.2) (nI p) (nI k.1) (nI k.2.1) (nI k.2.2.1)) 0) w (fun _ w' => TLs (addR k R) p w' ∧ Fr (cTy p) w w') := by
  have hl := (addR_len k R).1
  refine wp_fix1 (fun n x w' => ∃ pre suf, R = pre ++ suf ∧ n = suf.length ∧ x = nI pre.length ∧ (∀ e ∈ pre, e.1 ≠ k) ∧ w' = w) (fun n x w' self hI hs => ?_) FU R.length 0 w (by have := FU_big; omega) ⟨[], R, rfl, rfl, rfl, (fun e he => by cases he), rfl⟩
  obtain ⟨pre, suf, e1, e2, rfl, e3, rfl⟩ := hI
  obtain ⟨h1, h2⟩ := h
  unfold f_X7_wantTie_38 f_X7_wantTie_125 f_X7_wantTie_222
  have hlen : R.length = pre.length + suf.length := by rw [e1, List.length_append]
  rw [wp_aIn (by omega) (by omega), h1]
  cases suf with
  | nil =>
    rw [List.append_nil] at e1
    subst e1
    have hadd : addR k R = R ++ [(k, 1)] := by
      have := addR_pre k R [] e3
      rw [List.append_nil] at this
      exact this
    rw [hadd] at hc ⊢
    rw [List.length_append] at hc
    have hc : R.length + 1 ≤ 16 := hc
    rw [if_pos (nI_le (Nat.le_refl _) (by omega)), wp_aIn (by omega) (by omega), h1, if_neg (nge_l 16 (by omega) (by omega)), wp_aIn (by omega) (by omega), h1]
    rw [wp_gdn (by omega) (by omega), wp_sIc (by omega) (by omega) (by omega)]
    rw [wp_gdn (by omega) (by omega), wp_sIc (by omega) (by omega) (by omega)]
    rw [wp_gdn (by omega) (by omega), wp_sIc (by omega) (by omega) (by omega)]
    rw [wp_gdn (by omega) (by omega), wp_sIc (by omega) (by omega) (by omega)]
    rw [wp_gdn (by omega) (by omega), wp_sIc (by omega) (by omega) (by omega)]
    rw [wp_aIn (by omega) (by omega)]
    simp (disch := omega) only [gi_si_n]
    rw [h1, wp_sIn (by omega) (by omega), ad1, wp_rt]
    refine ⟨⟨?_, fun j e he => ?_⟩, ?_⟩
    · rw [gi_si_s, List.length_append]; rfl
    · rw [get_end] at he
      by_cases ej : j = R.length
      · rw [if_pos ej] at he
        cases he
        subst ej
        unfold TC
        simp (disch := omega) only [gi_si_n, gi_si_s]
        exact ⟨trivial, trivial, trivial, trivial, rfl⟩
      · rw [if_neg ej] at he
        have := h2 j e he
        unfold TC at this ⊢
        simp (disch := omega) only [gi_si_n]
        exact this
    · refine (((((Fr.rf.si ?_).si ?_).si ?_).si ?_).si ?_).si ?_ <;> (unfold cTy; omega)
  | cons e suf =>
    have hge : R[pre.length]? = some e := by
      rw [e1, List.getElem?_append_right (Nat.le_refl _), Nat.sub_self]
      rfl
    have hl2 : pre.length < R.length := by rw [hlen, List.length_cons]; omega
    have hmem : e ∈ R := List.mem_of_getElem? hge
    obtain ⟨q1, q2, q3, q4, q5⟩ := h2 _ _ hge
    obtain ⟨o1, o2, o3, o4, -⟩ := hR e hmem
    obtain ⟨k1, k2, k3, k4, -⟩ := hk
    have go : e.1 ≠ k → wp (self (nI pre.length + 1)) w' (fun _ w'' => TLs (addR k R) p w'' ∧ Fr (cTy p) w' w'') := by
      intro hne
      rw [ad1]
      refine hs suf.length _ _ (by rw [e2, List.length_cons]; omega) ⟨pre ++ [e], suf, by rw [e1]; simp, rfl, by rw [List.length_append]; rfl, fun e' he' => ?_, rfl⟩
      rcases List.mem_append.mp he' with q | q
      · exact e3 e' q
      · have : e' = e := by simpa using q
        rw [this]; exact hne
    rw [if_neg (nI_ge hl2 (by omega)), wp_gdn (by omega) (by omega), wp_aIc (by omega) (by omega) (by omega), q1]
    by_cases c1 : e.1.1 = k.1
    · rw [if_pos (by rw [c1]), wp_gdn (by omega) (by omega), wp_aIc (by omega) (by omega) (by omega), q2]
      by_cases c2 : e.1.2.1 = k.2.1
      · rw [if_pos (by rw [c2]), wp_gdn (by omega) (by omega), wp_aIc (by omega) (by omega) (by omega), q3]
        by_cases c3 : e.1.2.2.1 = k.2.2.1
        · rw [if_pos (by rw [c3]), wp_gdn (by omega) (by omega), wp_aIc (by omega) (by omega) (by omega), q4]
          by_cases c4 : e.1.2.2.2 = k.2.2.2
          · have hek : e.1 = k := by
              obtain ⟨⟨a, b, c, d⟩, n⟩ := e
              obtain ⟨a', b', c', d'⟩ := k
              have c1 : a = a' := c1
              have c2 : b = b' := c2
              have c3 : c = c' := c3
              have c4 : d = d' := c4
              show (a, b, c, d) = (a', b', c', d')
              rw [c1, c2, c3, c4]
            have hadd : addR k R = pre ++ (k, e.2 + 1) :: suf := by
              rw [e1, addR_pre k pre _ e3]
              unfold addR
              rw [if_pos hek, hek]
            rw [if_pos (by rw [c4]), wp_gdn (by omega) (by omega), wp_aIc (by omega) (by omega) (by omega), q5, wp_sIc (by omega) (by omega) (by omega), wp_rt, ad1, hadd]
            refine ⟨⟨?_, fun j e' he' => ?_⟩, ?_⟩
            · rw [gi_si_n (by omega), h1, e1, List.length_append, List.length_append, List.length_cons, List.length_cons]
            · rw [get_mid pre suf e, ← e1] at he'
              by_cases ej : j = pre.length
              · rw [if_pos ej] at he'
                cases he'
                subst ej
                unfold TC
                simp (disch := omega) only [gi_si_n, gi_si_s]
                rw [← hek]
                exact ⟨q1, q2, q3, q4, trivial⟩
              · rw [if_neg ej] at he'
                have := h2 j e' he'
                unfold TC at this ⊢
                simp (disch := omega) only [gi_si_n]
                exact this
            · exact Fr.rf.si (by unfold cTy; omega)
          · rw [if_neg (fun q => c4 ((nI_eq (by omega) (by omega)).mp q))]
            exact go (fun q => c4 (by rw [q]))
        · rw [if_neg (fun q => c3 ((nI_eq (by omega) (by omega)).mp q))]
          exact go (fun q => c3 (by rw [q]))
      · rw [if_neg (fun q => c2 ((nI_eq (by omega) (by omega)).mp q))]
        exact go (fun q => c2 (by rw [q]))
    · rw [if_neg (fun q => c1 ((nI_eq (by omega) (by omega)).mp q))]
      exact go (fun q => c1 (by rw [q]))
theorem wp_spanLoop {R : List (SK × Nat)} {p : Nat} {k : SK} (hp : p < 8) (h : SLs R p w) (hk1 : k.1 < 2) (hk2 : k.2 < 1024) (hR : ∀ e ∈ R, e.1.1 < 2 ∧ e.1.2 < 1024) (hc : (addR k R).length ≤ 3) : wp (f_X7_wantSpan (nI p) (nI k.1) (nI k.2)) w (fun _ w' => SLs (addR k R) p w' ∧ Fr (cSn p) w w') := by
  have hl := (addR_len k R).1
  unfold f_X7_wantSpan
  refine wp_fix1 (fun n x w' => ∃ pre suf, R = pre ++ suf ∧ n = suf.length ∧ x = nI pre.length ∧ (∀ e ∈ pre, e.1 ≠ k) ∧ w' = w) (fun n x w' self hI hs => ?_) FU R.length 0 w (by have := FU_big; omega) ⟨[], R, rfl, rfl, rfl, (fun e he => by cases he), rfl⟩
  obtain ⟨pre, suf, e1, e2, rfl, e3, rfl⟩ := hI
  obtain ⟨h1, h2⟩ := h
  unfold f_X7_wantSpan_3 f_X7_wantSpan_54 f_X7_wantSpan_118
  have hlen : R.length = pre.length + suf.length := by rw [e1, List.length_append]
  rw [wp_aIn (by omega) (by omega), h1]
  cases suf with
  | nil =>
    rw [List.append_nil] at e1
    subst e1
    have hadd : addR k R = R ++ [(k, 1)] := by
      have := addR_pre k R [] e3
      rw [List.append_nil] at this
      exact this
    rw [hadd] at hc ⊢
    rw [List.length_append] at hc
    have hc : R.length + 1 ≤ 3 := hc
    rw [if_pos (nI_le (Nat.le_refl _) (by omega)), wp_aIn (by omega) (by omega), h1, if_neg (nge_l 3 (by omega) (by omega)), wp_aIn (by omega) (by omega), h1]
    rw [wp_gdn (by omega) (by omega), wp_sIc (by omega) (by omega) (by omega)]
    rw [wp_gdn (by omega) (by omega), wp_sIc (by omega) (by omega) (by omega)]
    rw [wp_gdn (by omega) (by omega), wp_sIc (by omega) (by omega) (by omega)]
    rw [wp_aIn (by omega) (by omega)]
    simp (disch := omega) only [gi_si_n]
    rw [h1, wp_sIn (by omega) (by omega), ad1, wp_rt]
    refine ⟨⟨?_, fun j e he => ?_⟩, ?_⟩
    · rw [gi_si_s, List.length_append]; rfl
    · rw [get_end] at he
      by_cases ej : j = R.length
      · rw [if_pos ej] at he
        cases he
        subst ej
        unfold SCl
        simp (disch := omega) only [gi_si_n, gi_si_s]
        exact ⟨trivial, trivial, rfl⟩
      · rw [if_neg ej] at he
        have := h2 j e he
        unfold SCl at this ⊢
        simp (disch := omega) only [gi_si_n]
        exact this
    · refine (((Fr.rf.si ?_).si ?_).si ?_).si ?_ <;> (unfold cSn; omega)
  | cons e suf =>
    have hge : R[pre.length]? = some e := by
      rw [e1, List.getElem?_append_right (Nat.le_refl _), Nat.sub_self]
      rfl
    have hl2 : pre.length < R.length := by rw [hlen, List.length_cons]; omega
    have hmem : e ∈ R := List.mem_of_getElem? hge
    obtain ⟨q1, q2, q3⟩ := h2 _ _ hge
    obtain ⟨o1, o2⟩ := hR e hmem
    have go : e.1 ≠ k → wp (self (nI pre.length + 1)) w' (fun _ w'' => SLs (addR k R) p w'' ∧ Fr (cSn p) w' w'') := by
      intro hne
      rw [ad1]
      refine hs suf.length _ _ (by rw [e2, List.length_cons]; omega) ⟨pre ++ [e], suf, by rw [e1]; simp, rfl, by rw [List.length_append]; rfl, fun e' he' => ?_, rfl⟩
      rcases List.mem_append.mp he' with q | q
      · exact e3 e' q
      · have : e' = e := by simpa using q
        rw [this]; exact hne
    rw [if_neg (nI_ge hl2 (by omega)), wp_gdn (by omega) (by omega), wp_aIc (by omega) (by omega) (by omega), q1]
    by_cases c1 : e.1.1 = k.1
    · rw [if_pos (by rw [c1]), wp_gdn (by omega) (by omega), wp_aIc (by omega) (by omega) (by omega), q2]
      by_cases c2 : e.1.2 = k.2
      · have hek : e.1 = k := by
          obtain ⟨⟨a, b⟩, n⟩ := e
          obtain ⟨a', b'⟩ := k
          have c1 : a = a' := c1
          have c2 : b = b' := c2
          show (a, b) = (a', b')
          rw [c1, c2]
        have hadd : addR k R = pre ++ (k, e.2 + 1) :: suf := by
          rw [e1, addR_pre k pre _ e3]
          unfold addR
          rw [if_pos hek, hek]
        rw [if_pos (by rw [c2]), wp_gdn (by omega) (by omega), wp_aIc (by omega) (by omega) (by omega), q3, wp_sIc (by omega) (by omega) (by omega), wp_rt, ad1, hadd]
        refine ⟨⟨?_, fun j e' he' => ?_⟩, ?_⟩
        · rw [gi_si_n (by omega), h1, e1, List.length_append, List.length_append, List.length_cons, List.length_cons]
        · rw [get_mid pre suf e, ← e1] at he'
          by_cases ej : j = pre.length
          · rw [if_pos ej] at he'
            cases he'
            subst ej
            unfold SCl
            simp (disch := omega) only [gi_si_n, gi_si_s]
            rw [← hek]
            exact ⟨q1, q2, trivial⟩
          · rw [if_neg ej] at he'
            have := h2 j e' he'
            unfold SCl at this ⊢
            simp (disch := omega) only [gi_si_n]
            exact this
        · exact Fr.rf.si (by unfold cSn; omega)
      · rw [if_neg (fun q => c2 ((nI_eq (by omega) (by omega)).mp q))]
        exact go (fun q => c2 (by rw [q]))
    · rw [if_neg (fun q => c1 ((nI_eq (by omega) (by omega)).mp q))]
      exact go (fun q => c1 (by rw [q]))
theorem TLs.to {R : List (TK × Nat)} {p : Nat} (h : TLs R p w) (e : ∀ q k, ((q = 74 ∧ k = p) ∨ q = 75 + 1 + p ∨ q = 84 + 1 + p ∨ q = 93 + 1 + p ∨ q = 102 + 1 + p ∨ q = 111 + 1 + p) → gi w' q k = gi w q k) : TLs R p w' := by
  refine ⟨by rw [e _ _ (by omega)]; exact h.1, fun j x hx => ?_⟩
  have := h.2 j x hx
  unfold TC at this ⊢
  rw [e _ _ (by omega), e _ _ (by omega), e _ _ (by omega), e _ _ (by omega), e _ _ (by omega)]
  exact this
theorem SLs.to {R : List (SK × Nat)} {p : Nat} (h : SLs R p w) (e : ∀ q k, ((q = 120 ∧ k = p) ∨ q = 121 + 1 + p ∨ q = 130 + 1 + p ∨ q = 139 + 1 + p) → gi w' q k = gi w q k) : SLs R p w' := by
  refine ⟨by rw [e _ _ (by omega)]; exact h.1, fun j x hx => ?_⟩
  have := h.2 j x hx
  unfold SCl at this ⊢
  rw [e _ _ (by omega), e _ _ (by omega), e _ _ (by omega)]
  exact this
theorem Wn.to {J : List (It × Nat)} (h : Wn J w) (e : ∀ q k, 74 ≤ q → q ≤ 147 → gi w' q k = gi w q k) : Wn J w' :=
  fun p hp => ⟨(h p hp).1.to (fun q k hq => e q k (by omega) (by omega)), (h p hp).2.to (fun q k hq => e q k (by omega) (by omega))⟩
def cW (q _k : Nat) : Prop := 74 ≤ q ∧ q ≤ 147
theorem wp_want {J : List (It × Nat)} {j : It × Nat} (hm : m ≤ 8) (h : Wn J w) (hJ : Jok m (J ++ [j])) (hc : Cap (J ++ [j])) : wp (f_X7_want (m1 j.1.1) (nI j.1.2.1) (m1 j.1.2.2) (nI j.2)) w (fun _ w' => Wn (J ++ [j]) w' ∧ Fr cW w w') := by
  have hJ0 : Jok m J := fun x hx => hJ x (List.mem_append.mpr (Or.inl hx))
  obtain ⟨hj1, hj2⟩ := hJ j (List.mem_append.mpr (Or.inr (by simp)))
  obtain ⟨o1, o2, o3⟩ := okIt_lt hj1
  have ll := ltt_le (x := j.1)
  have hlt : ltt j.1 < 8 := by
    have h1 : j.1.1.getD 0 < 8 := getD_lt (b := 8) (fun a ha => by have := o2 a ha; omega) (by omega)
    have h2 : j.1.2.2.getD 0 < 8 := getD_lt (b := 8) (fun a ha => by have := o3 a ha; omega) (by omega)
    unfold ltt
    omega
  have tie : isSp j.1 = false → wp (f_X7_want_38 (m1 j.1.1) (nI j.1.2.1) (m1 j.1.2.2) (nI j.2)) w (fun _ w' => Wn (J ++ [j]) w' ∧ Fr cW w w') := by
    intro hs
    unfold f_X7_want_38 f_X7_want_47 f_X7_wantTie
    have emax := max_ltt (a := j.1.1) (b := j.1.2.2) (o := j.1.2.1) (by omega) (fun x hx => by have := o2 x hx; omega) (fun x hx => by have := o3 x hx; omega)
    rw [show ((j.1.1, j.1.2.1, j.1.2.2) : It) = j.1 from rfl] at emax
    rw [wp_bnd, wp_nm, emax, wp_bnd, (rd_seatOf (by omega) j.1.1 (fun a ha => by have := o2 a ha; omega)).wp, wp_bnd]
    have hs2 := rd_seatOf (w := w) (p := ltt j.1) (by omega) (some j.1.2.1) (fun a ha => by cases ha; omega)
    rw [show m1 (some j.1.2.1) = nI j.1.2.1 from rfl] at hs2
    rw [hs2.wp, wp_bnd, (rd_seatOf (by omega) j.1.2.2 (fun a ha => by have := o3 a ha; omega)).wp]
    have eT : ∀ p, tyR (J ++ [j]) p = if p = ltt j.1 then addR (tkey j) (tyR J p) else tyR J p := by
      intro p
      unfold tyR
      rw [rcs_snoc]
      unfold isTy
      by_cases e : p = ltt j.1
      · rw [if_pos (by rw [hs, e]; simp), if_pos e]
      · rw [if_neg (by rw [hs]; simp; omega), if_neg e]
    have eS : ∀ p, spR (J ++ [j]) p = spR J p := by
      intro p
      unfold spR
      rw [rcs_snoc]
      unfold isSn
      rw [if_neg (by rw [hs]; simp)]
    have hcap := (hc _ hlt).1
    rw [eT, if_pos rfl] at hcap
    refine wp_mono (wp_tieLoop (k := tkey j) hlt (h _ hlt).1 (tkey_ok hj2) (fun e he => tyR_ok hJ0 he) hcap) (fun _ w1 h1 => ?_)
    rw [wp_rt]
    refine ⟨fun p hp => ⟨?_, ?_⟩, h1.2.sub (fun q k hq => by unfold cTy at hq; unfold cW; omega)⟩
    · rw [eT]
      by_cases e : p = ltt j.1
      · rw [if_pos e, e]; exact h1.1
      · rw [if_neg e]
        exact (h p hp).1.to (fun q k hq => h1.2.2.2 q k (by unfold cTy; omega))
    · rw [eS]
      exact (h p hp).2.to (fun q k hq => h1.2.2.2 q k (by unfold cTy; omega))
  have span : isSp j.1 = true → wp (f_X7_want_30 (nI j.2) (nI (skey j).1) (nI j.1.2.1)) w (fun _ w' => Wn (J ++ [j]) w' ∧ Fr cW w w') := by
    intro hs
    unfold f_X7_want_30 f_X7_want_47
    have eT : ∀ p, tyR (J ++ [j]) p = tyR J p := by
      intro p
      unfold tyR
      rw [rcs_snoc]
      unfold isTy
      rw [if_neg (by rw [hs]; simp)]
    have eS : ∀ p, spR (J ++ [j]) p = if p = j.1.2.1 then addR (skey j) (spR J p) else spR J p := by
      intro p
      unfold spR
      rw [rcs_snoc]
      unfold isSn
      by_cases e : p = j.1.2.1
      · rw [if_pos (by rw [hs, e]; simp), if_pos e]
      · rw [if_neg (by rw [hs]; simp; omega), if_neg e]
    have h8 : j.1.2.1 < 8 := by omega
    have hcap := (hc _ h8).2
    rw [eS, if_pos rfl] at hcap
    rw [wp_bnd]
    refine wp_mono (wp_spanLoop (k := skey j) h8 (h _ h8).2 (skey_lt j) hj2 (fun e he => ⟨(spR_ok hJ0 he).1, (spR_ok hJ0 he).2.1⟩) hcap) (fun _ w1 h1 => ?_)
    rw [wp_rt]
    refine ⟨fun p hp => ⟨?_, ?_⟩, h1.2.sub (fun q k hq => by unfold cSn at hq; unfold cW; omega)⟩
    · rw [eT]
      exact (h p hp).1.to (fun q k hq => h1.2.2.2 q k (by unfold cSn; omega))
    · rw [eS]
      by_cases e : p = j.1.2.1
      · rw [if_pos e, e]; exact h1.1
      · rw [if_neg e]
        exact (h p hp).2.to (fun q k hq => h1.2.2.2 q k (by unfold cSn; omega))
  unfold f_X7_want
  obtain ⟨⟨a, o, b⟩, g⟩ := j
  cases a with
  | none =>
    rw [show m1 none = (-1 : Int32) from rfl, if_pos (by decide)]
    exact tie rfl
  | some a =>
    have ha : a < 8 := by have := o2 a rfl; omega
    cases b with
    | none =>
      rw [show m1 (some a) = nI a from rfl, if_neg (nI_pos (by omega)), show m1 none = (-1 : Int32) from rfl, if_pos (by decide)]
      exact tie rfl
    | some b =>
      have hb : b < 8 := by have := o3 b rfl; omega
      rw [show m1 (some a) = nI a from rfl, show m1 (some b) = nI b from rfl, if_neg (nI_pos (by omega)), if_neg (nI_pos (by omega))]
      have abs2 : ∀ a, a < 8 → ∀ b, b < 8 → ((if 0 ≤ nI a - nI b then nI a - nI b else 0 - (nI a - nI b)) = 2 ↔ (a + 2 = b ∨ b + 2 = a)) := by decide +kernel
      by_cases hd : a + 2 = b ∨ b + 2 = a
      · rw [if_pos ((abs2 a ha b hb).mpr hd)]
        have hsp : isSp (some a, o, some b) = true := by unfold isSp; simpa using hd
        have := span hsp
        by_cases hle : a ≤ b
        · rw [if_pos (nI_le hle (by omega))]
          have e : (skey ((some a, o, some b), g)).1 = 0 := if_pos hle
          rw [e] at this
          exact this
        · rw [if_neg (nI_ge (by omega) (by omega))]
          have e : (skey ((some a, o, some b), g)).1 = 1 := if_neg hle
          rw [e] at this
          exact this
      · rw [if_neg (fun q => hd ((abs2 a ha b hb).mp q))]
        have hsp : isSp (some a, o, some b) = false := by unfold isSp; simpa using hd
        exact tie hsp
end WANT
