/-! the reference: how many tokens of a place are unlike -/
section UNL
variable {w : Wd} {t W : Nat}
/-- a place that a token looks at -/
def look (L : List (Nat × Bool)) (i q : Nat) : Prop := q = own L i ∨ bf L i = some q ∨ af L i = some q
theorem rd_token9l (hTo : ITon t W w) {L : List (Nat × Bool)} {i : Nat} {r : Nat → Nat} (hL : RLay L w) (hl : L.length ≤ 168) (hr : ∀ q, look L i q → q < 8 ∧ r q < W ∧ gi w 181 q = nI (r q)) (hi : i < L.length) : Rd (f_X9_tokenAt (nI i)) w (nI (tkL w L r i)) := by
  obtain ⟨o1, o2, o3⟩ := hL.2 i hi
  have rw1 : ∀ o : Option Nat, (∀ q, o = some q → look L i q) → Rd (f_X9_rowAt (oI o)) w (oI (o.map r)) := by
    intro o ho
    unfold Rd f_X9_rowAt f_X9_rowAt_15
    cases o with
    | none => rw [show oI none = (-4 : Int32) from rfl, if_neg m4_neg, wp_rt]; exact ⟨rfl, rfl⟩
    | some p =>
      obtain ⟨h1, h2, h3⟩ := hr p (ho p rfl)
      rw [show oI (some p) = nI p from rfl, if_pos (ge_l 0 (by omega) (by omega)), wp_aIn (by omega) (by omega), h3, wp_rt]
      exact ⟨rfl, rfl⟩
  have mp : ∀ o : Option Nat, (∀ q, o = some q → look L i q) → ∀ x, o.map r = some x → x < W := by
    intro o ho x hx
    cases o with
    | none => cases hx
    | some p => cases hx; exact (hr p (ho p rfl)).2.1
  have l2 : ∀ q, bf L i = some q → look L i q := fun q hq => Or.inr (Or.inl hq)
  have l3 : ∀ q, af L i = some q → look L i q := fun q hq => Or.inr (Or.inr hq)
  have l1 : ∀ q, some (own L i) = some q → look L i q := fun q hq => by cases hq; exact Or.inl rfl
  unfold Rd f_X9_tokenAt
  rw [wp_aIn (by omega) (by omega), o2, wp_bnd, (rw1 _ l2).wp, wp_aIn (by omega) (by omega), o1, wp_bnd, show nI (own L i) = oI (some (own L i)) from rfl, (rw1 (some (own L i)) l1).wp, wp_aIn (by omega) (by omega), o3, wp_bnd, (rw1 _ l3).wp, wp_bnd]
  have := rd_tok9 hTo (b := (bf L i).map r) (x := r (own L i)) (a := (af L i).map r) (hr _ (Or.inl rfl)).2.1 (mp _ l3) (mp _ l2)
  rw [show oI (Option.map r (some (own L i))) = nI (r (own L i)) from rfl, this.wp, wp_rt]
  exact ⟨rfl, rfl⟩
/-- one token of the place p that is unlike -/
def uo (w : Wd) (L : List (Nat × Bool)) (g : Nat → Nat) (r : Nat → Nat) (p i : Nat) : Nat := if lst L i = p ∧ tkL w L r i ≠ g i then 1 else 0
def un (w : Wd) (L : List (Nat × Bool)) (g : Nat → Nat) (r : Nat → Nat) (p : Nat) : Nat := sm (uo w L g r p) L.length
theorem prv_sum {w : Wd} {L : List (Nat × Bool)} {g r : Nat → Nat} {p : Nat} : ∀ j, match prv L p j with
    | none => sm (uo w L g r p) j = 0
    | some i => i < j ∧ lst L i = p ∧ sm (uo w L g r p) j = sm (uo w L g r p) i + uo w L g r p i
  | 0 => rfl
  | j + 1 => by
    have ih := prv_sum (w := w) (L := L) (g := g) (r := r) (p := p) j
    unfold prv
    by_cases e : lst L j = p
    · rw [if_pos e]
      exact ⟨by omega, e, rfl⟩
    · rw [if_neg e]
      have z : uo w L g r p j = 0 := if_neg (fun q => e q.1)
      cases h : prv L p j with
      | none =>
        rw [h] at ih
        show sm (uo w L g r p) j + uo w L g r p j = 0
        have ih : sm (uo w L g r p) j = 0 := ih
        omega
      | some i =>
        rw [h] at ih
        obtain ⟨h1, h2, h3⟩ := ih
        refine ⟨by omega, h2, ?_⟩
        show sm (uo w L g r p) j + uo w L g r p j = _
        omega
theorem rd_unlike9 (hTo : ITon t W w) {L : List (Nat × Bool)} {p : Nat} {r g : Nat → Nat} (hL : RLay L w) (hl : L.length ≤ 168) (hC : Chn L w) (hp : p < 8) (hg : ∀ i, i < L.length → g i < 1024 ∧ gi w 182 i = nI (g i)) (hr : ∀ i q, i < L.length → lst L i = p → look L i q → q < 8 ∧ r q < W ∧ gi w 181 q = nI (r q)) : Rd (f_X9_unlikeAt (nI p)) w (nI (un w L g r p)) := by
  unfold Rd f_X9_unlikeAt
  rw [wp_aIn (by omega) (by omega), hC.1 p hp]
  refine wp_fix2 (fun m a b w' => ∃ j k, j ≤ L.length ∧ m = j ∧ b = oI (prv L p j) ∧ a = nI k ∧ k + sm (uo w L g r p) j = un w L g r p ∧ w' = w) (fun m a b w' self hI hs => ?_) FU L.length _ _ w (by have := FU_big; omega) ⟨L.length, 0, by omega, rfl, rfl, rfl, by show 0 + _ = _; unfold un; omega, rfl⟩
  obtain ⟨j, k, j1, rfl, rfl, rfl, j2, rfl⟩ := hI
  have hsum := prv_sum (w := w') (L := L) (g := g) (r := r) (p := p) m
  unfold f_X9_unlikeAt_9 f_X9_unlikeAt_33
  cases h : prv L p m with
  | none =>
    rw [h] at hsum
    have hsum : sm (uo w' L g r p) m = 0 := hsum
    rw [show oI none = (-4 : Int32) from rfl, if_pos (by decide), wp_rt]
    exact ⟨by rw [← j2, hsum]; rfl, rfl⟩
  | some i =>
    rw [h] at hsum
    obtain ⟨h1, h2, h3⟩ := hsum
    obtain ⟨g1, g2⟩ := hg i (by omega)
    have tk9 := rd_token9l hTo hL hl (fun q hq => hr i q (by omega) h2 hq) (i := i) (by omega)
    have tlt : tkL w' L r i < 1024 := tk_lt hTo (hr i _ (by omega) h2 (Or.inl rfl)).2.1 (fun x hx => by
      cases ha : af L i with
      | none => rw [ha] at hx; cases hx
      | some q => rw [ha] at hx; cases hx; exact (hr i q (by omega) h2 (Or.inr (Or.inr ha))).2.1)
    have go : ∀ u, u = uo w' L g r p i → wp (nm (nI k + nI u) (fun v1 => aI 180 168 (nI i) (fun v2 => self v1 v2))) w' (fun r' w'' => r' = nI (un w' L g r p) ∧ w'' = w') := by
      intro u hu
      rw [wp_nm, wp_aIn (by omega) (by omega), hC.2 i (by omega), h2, nI_add]
      exact hs i _ _ _ h1 ⟨i, k + u, by omega, rfl, rfl, rfl, by rw [hu]; omega, rfl⟩
    rw [show oI (some i) = nI i from rfl, if_neg (nI_pos (by omega)), wp_bnd, tk9.wp, wp_aIn (by omega) (by omega), g2]
    by_cases e : tkL w' L r i = g i
    · rw [if_pos (by rw [e])]
      exact go 0 (if_neg (fun q => q.2 e)).symm
    · rw [if_neg (fun q => e ((nI_eq (by omega) (by omega)).mp q))]
      exact go 1 (if_pos ⟨h2, e⟩).symm
end UNL
