/-! far: the class -/
section FAR8
variable {w w' w0 w1 w2 : Wd} {t W m : Nat} {L : List (Nat × Bool)}
/-- the items of a course with the tokens of a row -/
def Jr (w : Wd) (r : Nat → Nat) (L : List (Nat × Bool)) : List (It × Nat) := (its L).map (fun x => (x, tkt w r x))
theorem Jof_Jr (w : Wd) (r : Nat → Nat) (L : List (Nat × Bool)) : Jof L (tkL w L r) = Jr w r L := by
  unfold Jof Jr its
  rw [List.map_map]
  rfl
theorem Jr_app {w : Wd} {r : Nat → Nat} {L M : List (Nat × Bool)} (hM : beg M 0 = true) : Jr w r (L ++ M) = Jr w r L ++ Jr w r M := by
  unfold Jr
  rw [its_app hM, List.map_append]
theorem its_LW_ok {S : Nat} (hm : m < 9) (h0 : 0 < m) {x : It} (h : x ∈ its (LW S m)) : okIt m x = true := by
  have e : its (LW S m) = _ := its_LWp (S := S) hm 5 (by omega)
  rw [e] at h
  obtain ⟨y, hy, hx⟩ := List.mem_flatMap.mp h
  have hy := List.mem_range.mp hy
  by_cases c : S.testBit y = true
  · rw [if_pos c] at hx
    have := its_ok y hy m hm h0
    rw [List.all_eq_true] at this
    exact this x hx
  · rw [if_neg c] at hx; cases hx
theorem tkt_lt (hTo : ITon t W w) {r : Nat → Nat} (hr : ∀ p, p < m → r p < W) {x : It} (hx : okIt m x = true) : tkt w r x < 1024 := by
  obtain ⟨o1, o2, o3⟩ := okIt_lt hx
  exact tk_lt hTo (hr _ o1) (map_lt o3 hr)
theorem Jr_ok (hTo : ITon t W w) {r : Nat → Nat} (hr : ∀ p, p < m → r p < W) {S : Nat} (hm : m < 9) (h0 : 0 < m) : Jok m (Jr w r (LW S m)) := by
  intro j hj
  unfold Jr at hj
  obtain ⟨x, hx, rfl⟩ := List.mem_map.mp hj
  have := its_LW_ok hm h0 hx
  exact ⟨this, tkt_lt hTo hr this⟩
def tri : List (Nat × Nat × Nat) := [(2, 1, 0), (2, 1, 1), (2, 1, 2), (0, 1, 2), (1, 1, 2), (0, 2, 0), (0, 2, 1), (0, 2, 2), (1, 2, 0), (1, 2, 1), (1, 2, 2), (2, 2, 0), (2, 2, 1), (2, 2, 2)]
theorem tri_all : ∀ a, a < 3 → ∀ b, b < 3 → ∀ c, c < 3 → b ≠ 0 → (a = 2 ∨ b = 2 ∨ c = 2) → (a, b, c) ∈ tri := by
  intro a ha b hb c hc h0 h
  unfold tri
  rcases (by omega : a = 0 ∨ a = 1 ∨ a = 2) with rfl | rfl | rfl <;> rcases (by omega : b = 1 ∨ b = 2) with rfl | rfl <;> rcases (by omega : c = 0 ∨ c = 1 ∨ c = 2) with rfl | rfl | rfl <;> first | (exfalso; omega) | simp
theorem tkt_near (w : Wd) {r r' : Nat → Nat} {x : It} (h1 : r x.2.1 = r' x.2.1) (h2 : ∀ a, x.1 = some a → r a = r' a) (h3 : ∀ b, x.2.2 = some b → r b = r' b) : tkt w r x = tkt w r' x := by
  unfold tkt
  have e1 : x.1.map r = x.1.map r' := by
    cases ho : x.1 with
    | none => rfl
    | some q => show some _ = some _; rw [h2 q ho]
  have e3 : x.2.2.map r = x.2.2.map r' := by
    cases ho : x.2.2 with
    | none => rfl
    | some q => show some _ = some _; rw [h3 q ho]
  rw [e1, h1, e3]
theorem Jr_cap (w : Wd) (r : Nat → Nat) {S : Nat} (hm : m < 9) (h0 : 0 < m) : Cap (Jr w r (LW S m)) := by
  intro p hp
  constructor
  · have hk : ∀ k ∈ (tyR (Jr w r (LW S m)) p).map (·.1), k ∈ tri.map (fun u => ((u.1, u.2.1, u.2.2, tk w (sv (r (p - 1)) (r p) u.1) (svn (r (p - 1)) (r p) u.2.1) (sv (r (p - 1)) (r p) u.2.2)) : TK)) := by
      intro k hk
      rcases rcs_key _ _ k hk with h | ⟨j, h1, h2, h3⟩
      · cases h
      · unfold Jr at h1
        obtain ⟨x, hx, rfl⟩ := List.mem_map.mp h1
        have hok := its_LW_ok hm h0 hx
        unfold isTy at h2
        rw [Bool.and_eq_true] at h2
        have hsp : isSp x = false := by simpa using h2.1
        have hl : ltt x = p := by simpa using h2.2
        obtain ⟨q1, q2, q3⟩ := okIt_tie hok hsp
        obtain ⟨l1, l2, l3⟩ := ltt_le (x := x)
        rw [hl] at q1 q2 q3 l1 l2 l3
        refine List.mem_map.mpr ⟨(seatO p x.1, seatO p (some x.2.1), seatO p x.2.2), ?_, ?_⟩
        · refine tri_all _ (seatO_lt _ _) _ (seatO_lt _ _) _ (seatO_lt _ _) ?_ ?_
          · show (if x.2.1 = p then 2 else 1) ≠ 0
            split <;> omega
          · by_cases c1 : x.2.1 = p
            · right; left; exact if_pos c1
            · have hmax : x.1.getD 0 = p ∨ x.2.2.getD 0 = p := by unfold ltt at hl; omega
              rcases hmax with h | h
              · left
                cases ho : x.1 with
                | none => rw [ho] at h; have h : 0 = p := h; omega
                | some q => rw [ho] at h; exact if_pos h
              · right; right
                cases ho : x.2.2 with
                | none => rw [ho] at h; have h : 0 = p := h; omega
                | some q => rw [ho] at h; exact if_pos h
        · rw [h3]
          unfold tkey
          show _ = (seatO (ltt x) x.1, seatO (ltt x) (some x.2.1), seatO (ltt x) x.2.2, tkt w r x)
          rw [hl]
          show (seatO p x.1, seatO p (some x.2.1), seatO p x.2.2, tk w (sv (r (p - 1)) (r p) (seatO p x.1)) (svn (r (p - 1)) (r p) (seatO p (some x.2.1))) (sv (r (p - 1)) (r p) (seatO p x.2.2))) = _
          rw [sv_seat, svn_seat, sv_seat]
          have e : ∀ q, q ≤ p → p ≤ q + 1 → rbw p (r (p - 1)) (r p) q = r q := by
            intro q a1 a2
            unfold rbw
            by_cases c : q = p
            · rw [if_pos c, c]
            · rw [if_neg c, show p - 1 = q by omega]
          have := tkt_near w (r := rbw p (r (p - 1)) (r p)) (r' := r) (x := x) (e _ l1 q1) (fun a ha => e a (l2 a ha) (q2 a ha)) (fun b hb => e b (l3 b hb) (q3 b hb))
          rw [← this]
          rfl
    have := nodup_le (rcs_nodup (P := isTy p) (key := tkey) (Jr w r (LW S m)) [] (by simp)) hk
    rw [List.length_map, List.length_map] at this
    unfold tyR
    have e : tri.length = 14 := rfl
    omega
  · have hk : ∀ k ∈ (spR (Jr w r (LW S m)) p).map (·.1), k ∈ ([((0, tk w (some (r (p - 1))) (r p) (some (r (p + 1)))) : SK), (1, tk w (some (r (p + 1))) (r p) (some (r (p - 1))))] : List SK) := by
      intro k hk
      rcases rcs_key _ _ k hk with h | ⟨j, h1, h2, h3⟩
      · cases h
      · unfold Jr at h1
        obtain ⟨x, hx, rfl⟩ := List.mem_map.mp h1
        have hok := its_LW_ok hm h0 hx
        unfold isSn at h2
        rw [Bool.and_eq_true] at h2
        have hp : x.2.1 = p := by simpa using h2.2
        obtain ⟨c, hc | hc⟩ := okIt_span hok h2.1
        · rw [hc] at hp h3
          have hp : c + 1 = p := hp
          subst hp
          rw [h3]
          have : skey ((some c, c + 1, some (c + 2)), tkt w r (some c, c + 1, some (c + 2))) = (0, tk w (some (r c)) (r (c + 1)) (some (r (c + 2)))) := by
            unfold skey
            show ((if c ≤ c + 2 then 0 else 1), _) = _
            rw [if_pos (by omega)]
            rfl
          rw [this]
          exact List.mem_cons.mpr (Or.inl rfl)
        · rw [hc] at hp h3
          have hp : c + 1 = p := hp
          subst hp
          rw [h3]
          have : skey ((some (c + 2), c + 1, some c), tkt w r (some (c + 2), c + 1, some c)) = (1, tk w (some (r (c + 2))) (r (c + 1)) (some (r c))) := by
            unfold skey
            show ((if c + 2 ≤ c then 0 else 1), _) = _
            rw [if_neg (by omega)]
            rfl
          rw [this]
          exact List.mem_cons.mpr (Or.inr (List.mem_cons.mpr (Or.inl rfl)))
    have := nodup_le (rcs_nodup (P := isSn p) (key := skey) (Jr w r (LW S m)) [] (by simp)) hk
    rw [List.length_map] at this
    unfold spR
    have e : ([((0, tk w (some (r (p - 1))) (r p) (some (r (p + 1)))) : SK), (1, tk w (some (r (p + 1))) (r p) (some (r (p - 1))))] : List SK).length = 2 := rfl
    omega
/-- the row itself: all its halves are right -/
theorem row_right (hTo : ITon t W w) {r : Nat → Nat} (hr : ∀ p, p < m → r p < W) {S : Nat} (hm : m < 9) (h0 : 0 < m) {p : Nat} {e : SK × Nat} (he : e ∈ spR (Jr w r (LW S m)) p) : rgt w 0 (r p) (r (p - 1)) e.1 = true := by
  rcases rcs_key _ _ e.1 (List.mem_map_of_mem he) with h | ⟨j, h1, h2, h3⟩
  · cases h
  · unfold Jr at h1
    obtain ⟨x, hx, rfl⟩ := List.mem_map.mp h1
    have hok := its_LW_ok hm h0 hx
    obtain ⟨o1, o2, o3⟩ := okIt_lt hok
    unfold isSn at h2
    rw [Bool.and_eq_true] at h2
    have hp : x.2.1 = p := by simpa using h2.2
    obtain ⟨c, hc | hc⟩ := okIt_span hok h2.1
    · rw [hc] at hp h3 o1 o2 o3
      have hp : c + 1 = p := hp
      subst hp
      rw [h3]
      have hlt := tkr_lt hTo (a := some (r (c + 2))) (hr (c + 1) o1) (fun o ho => by cases ho; exact hr _ (o3 _ rfl))
      have : skey ((some c, c + 1, some (c + 2)), tkt w r (some c, c + 1, some (c + 2))) = (0, 128 * tkf w (some (r c)) (r (c + 1)) + 8 * wb w (r (c + 1)) + tkr w (r (c + 1)) (some (r (c + 2)))) := by
        unfold skey
        show ((if c ≤ c + 2 then 0 else 1), _) = _
        rw [if_pos (by omega)]
        rfl
      rw [this]
      unfold rgt
      rw [if_pos rfl]
      show decide (128 * tkf w (some (r c)) (r (c + 1)) + 8 * wb w (r (c + 1)) = _) = true
      apply decide_eq_true
      omega
    · rw [hc] at hp h3 o1 o2 o3
      have hp : c + 1 = p := hp
      subst hp
      rw [h3]
      have hlt := tkr_lt hTo (a := some (r c)) (hr (c + 1) o1) (fun o ho => by cases ho; exact hr _ (o3 _ rfl))
      have : skey ((some (c + 2), c + 1, some c), tkt w r (some (c + 2), c + 1, some c)) = (1, 128 * tkf w (some (r (c + 2))) (r (c + 1)) + 8 * wb w (r (c + 1)) + tkr w (r (c + 1)) (some (r c))) := by
        unfold skey
        show ((if c + 2 ≤ c then 0 else 1), _) = _
        rw [if_neg (by omega)]
        rfl
      rw [this]
      unfold rgt
      rw [if_neg (by simp)]
      show decide (tkr w (r (c + 1)) (some (r c)) = _) = true
      apply decide_eq_true
      omega
theorem seven : ∀ j, j < 3 → (7 : Nat).testBit j = true := by decide
theorem scs_7 {J : List (It × Nat)} {p : Nat} (hc : (spR J p).length ≤ 3) {f h : SK → Bool} (hf : ∀ e ∈ spR J p, f e.1 = true) : scs J p (7 &&& btn h (spR J p) (spR J p).length) = scs J p (btn f (spR J p) (spR J p).length &&& btn h (spR J p) (spR J p).length) := by
  unfold scs
  refine sm_congr _ (fun j hj => ?_)
  obtain ⟨e, he⟩ : ∃ e, (spR J p)[j]? = some e := ⟨(spR J p)[j]'hj, List.getElem?_eq_getElem hj⟩
  have t1 : (btn f (spR J p) (spR J p).length).testBit j = true := by
    unfold btn
    rw [bit3 (bb f (spR J p)) _ hc j hj]
    unfold bb
    rw [he]
    exact hf e (List.mem_of_getElem? he)
  rw [Nat.testBit_and, Nat.testBit_and, t1, seven j (by omega)]
/-- the state of a row -/
def str (r : Nat → Nat) (p : Nat) : Nat × Nat := (if p < 2 then 0 else r (p - 2), if p < 1 then 0 else r (p - 1))
theorem str_V {r : Nat → Nat} (hr : ∀ p, p < m → r p < W) {p : Nat} (hp : p ≤ m) : V9 W p (str r p) := by
  refine ⟨?_, ?_⟩
  · show if 2 ≤ p then (if p < 2 then 0 else r (p - 2)) < W else (if p < 2 then 0 else r (p - 2)) = 0
    by_cases c : 2 ≤ p
    · rw [if_pos c, if_neg (by omega)]; exact hr _ (by omega)
    · rw [if_neg c, if_pos (by omega)]
  · show if 1 ≤ p then (if p < 1 then 0 else r (p - 1)) < W else (if p < 1 then 0 else r (p - 1)) = 0
    by_cases c : 1 ≤ p
    · rw [if_pos c, if_neg (by omega)]; exact hr _ (by omega)
    · rw [if_neg c, if_pos (by omega)]
/-- what a row costs that leaves r at the place p for the word x -/
def fvx (W m : Nat) (c : Nat → Nat × Nat → Nat → Nat) (r : Nat → Nat) (p x : Nat) : Nat := c p (str r p) x + mn9 W c (p + 1) (m - 1 - p) (n9 p (str r p) x)
def fro (W m : Nat) (c : Nat → Nat × Nat → Nat → Nat) (r : Nat → Nat) (p j : Nat) : List Nat := (List.range j).flatMap (fun x => if x = r p then [] else [fvx W m c r p x])
def FVs (W m : Nat) (c : Nat → Nat × Nat → Nat → Nat) (r : Nat → Nat) (p j : Nat) : List Nat := (List.range p).flatMap (fun p' => fro W m c r p' W) ++ fro W m c r p j
theorem FVs_skip {c : Nat → Nat × Nat → Nat → Nat} {r : Nat → Nat} {p j : Nat} (h : j = r p) : FVs W m c r p (j + 1) = FVs W m c r p j := by
  unfold FVs fro
  rw [List.range_succ (n := j), List.flatMap_append]
  simp [h]
theorem FVs_step {c : Nat → Nat × Nat → Nat → Nat} {r : Nat → Nat} {p j : Nat} (h : j ≠ r p) : FVs W m c r p (j + 1) = FVs W m c r p j ++ [fvx W m c r p j] := by
  unfold FVs fro
  rw [List.range_succ (n := j), List.flatMap_append]
  simp [h]
theorem FVs_next {c : Nat → Nat × Nat → Nat → Nat} {r : Nat → Nat} {p : Nat} : FVs W m c r (p + 1) 0 = FVs W m c r p W := by
  unfold FVs
  rw [List.range_succ (n := p), List.flatMap_append]
  simp [fro]
theorem fold_snoc (I v : Nat) (l : List Nat) : (l ++ [v]).foldl min I = min (l.foldl min I) v := by rw [List.foldl_append]; rfl
theorem fold_mnl {I : Nat} {l : List Nat} (hl : l ≠ []) (hI : ∀ u ∈ l, u ≤ I) : l.foldl min I = mnl l := by
  obtain ⟨h1, h2, h3⟩ := fmin_le l I
  obtain ⟨g1, g2⟩ := mnl_mem hl
  have a := h2 _ g1
  rcases h3 with h3 | h3
  · have := hI _ g1
    omega
  · have := g2 _ h3
    omega
theorem mn9_le {c : Nat → Nat × Nat → Nat → Nat} {b : Nat} (hc : ∀ p s x, c p s x ≤ b) (hW : 0 < W) {p k : Nat} {s : Nat × Nat} : mn9 W c p k s ≤ b * k := AC_le hc _ (mnl_mem (AC_ne hW)).1
theorem fvx_le {c : Nat → Nat × Nat → Nat → Nat} (hc : ∀ p s x, c p s x ≤ 156) (hW : 0 < W) (hm : m ≤ 8) (r : Nat → Nat) (p x : Nat) : fvx W m c r p x ≤ 1500 := by
  have h1 := hc p (str r p) x
  have h2 := mn9_le hc hW (p := p + 1) (k := m - 1 - p) (s := n9 p (str r p) x)
  unfold fvx
  have : 156 * (m - 1 - p) ≤ 156 * 8 := Nat.mul_le_mul_left _ (by omega)
  omega
theorem FVs_le {c : Nat → Nat × Nat → Nat → Nat} (hc : ∀ p s x, c p s x ≤ 156) (hW : 0 < W) (hm : m ≤ 8) (r : Nat → Nat) (p j : Nat) : ∀ u ∈ FVs W m c r p j, u ≤ 1500 := by
  have hf : ∀ p j, ∀ u ∈ fro W m c r p j, u ≤ 1500 := by
    intro p j u hu
    unfold fro at hu
    obtain ⟨x, -, hx⟩ := List.mem_flatMap.mp hu
    by_cases e : x = r p
    · rw [if_pos e] at hx; cases hx
    · rw [if_neg e] at hx
      have : u = fvx W m c r p x := by simpa using hx
      rw [this]
      exact fvx_le hc hW hm r p x
  intro u hu
  unfold FVs at hu
  rcases List.mem_append.mp hu with h | h
  · obtain ⟨p', -, hp'⟩ := List.mem_flatMap.mp h
    exact hf _ _ u hp'
  · exact hf _ _ u h
theorem fold_le {I : Nat} (l : List Nat) : l.foldl min I ≤ I := (fmin_le l I).1
theorem min_nI {a b : Nat} (ha : a < 2 ^ 31) (hb : b < 2 ^ 31) : (if nI a < nI b then nI a else nI b) = nI (min b a) := by
  by_cases c : a < b
  · rw [if_pos (nI_lt c hb), show min b a = a by omega]
  · rw [if_neg (nI_nlt (by omega) ha), show min b a = b by omega]
theorem wp_farFrom (hTo : ITon t W w) {r : Nat → Nat} {q S : Nat} (hm0 : 0 < m) (e164 : ∀ q k, (q = 164 ∨ q = 165) → gi w1 q k = gi w q k) (hq : q < 50) (hr : ∀ p, p < m → r p < W ∧ gi w1 q p = nI (r p)) (s1 : S8 t W m (Jr w r (LW S m)) w1) (wd1 : Wd8 W m w (Jr w r (LW S m)) w1) (hS : S < 32) : wp (f_X3_farFrom q) w1 (fun v w' => v = nI ((FVs W m (k9 w (LW S m) (tkL w (LW S m) r)) r m 0).foldl min 1000000) ∧ Fr cSe w1 w') := by
  have g8 := s1
  obtain ⟨-, -, ht, -, -, -, hJ, hC, hW0, hm, -, -⟩ := s1
  have hW := hTo.1
  obtain ⟨lv, -⟩ := wd1
  have hl : (LW S m).length ≤ 156 := LWp_len S hS m (by omega) 5 (by omega)
  have hkb : ∀ p s x, k9 w (LW S m) (tkL w (LW S m) r) p s x ≤ 156 := fun p s x => Nat.le_trans (k9_le p s x) hl
  have hrW : ∀ p, p < m → r p < W := fun p hp => (hr p hp).1
  generalize hc : k9 w (LW S m) (tkL w (LW S m) r) = c at hkb
  have s2 : ∀ w3, Fr cSe w1 w3 → S8 t W m (Jr w r (LW S m)) w3 := fun w3 f3 => g8.to (f3.fg.sub (fun q k hq => Or.inl hq) (fun q k (hq : False) => hq.elim))
  have e3 : ∀ w4, Fr cSe w1 w4 → ∀ q k, (q = 164 ∨ q = 165) → gi w4 q k = gi w q k := fun w4 f4 q k hq => by rw [f4.2.2 q k (by unfold cSe; omega)]; exact e164 q k hq
  unfold f_X3_farFrom
  refine wp_fix3 (fun n x2 x3 x4 w2 => ∃ p b, p ≤ m ∧ n = m - p ∧ x2 = nI ((FVs W m c r p 0).foldl min 1000000) ∧ x3 = nI b ∧ x4 = nI p ∧ b = (if p = 0 then 16 else r (p - 1)) ∧ Fr cSe w1 w2) (fun n x2 x3 x4 w2 self hI hs => ?_) FU m _ _ _ w1 (by have := FU_big; omega) ⟨0, 16, by omega, by omega, rfl, rfl, rfl, rfl, Fr.rf⟩
  obtain ⟨p, b, p1, p2, rfl, rfl, rfl, p3, p4⟩ := hI
  unfold f_X3_farFrom_9
  rw [wp_rI, (s2 _ p4).2.2.2.2.2.2.2.2.2.2.2]
  by_cases hp : m ≤ p
  · have e : p = m := by omega
    subst e
    rw [if_pos (nI_le hp (by omega)), wp_rt]
    exact ⟨rfl, p4⟩
  · have hpm : p < m := by omega
    have hV := str_V (W := W) hrW (p := p) (by omega)
    have hbW : p ≠ 0 → b < W := fun p0 => by rw [p3, if_neg p0]; exact hrW _ (by omega)
    have hbW' : b < W ∨ (b = 16 ∧ p = 0) := by
      by_cases p0 : p = 0
      · right; rw [p3, if_pos p0]; exact ⟨rfl, p0⟩
      · exact Or.inl (hbW p0)
    have hRl : Rl8 w (Jr w r (LW S m)) p (str r p) (b, rh w (Jr w r (LW S m)) (p - 1) 0 (str r p).2 (str r p).1) := by
      refine ⟨?_, fun _ => rfl⟩
      show b = _
      rw [p3]
      by_cases p0 : p = 0
      · rw [if_pos p0, if_pos p0]
      · rw [if_neg p0, if_neg p0]
        show r (p - 1) = if p < 1 then 0 else r (p - 1)
        rw [if_neg (by omega)]
    rw [if_neg (nI_ge hpm (by omega))]
    refine wp_fix2 (fun n x2 x5 w3 => ∃ j, j ≤ W ∧ n = W - j ∧ x5 = nI j ∧ x2 = nI ((FVs W m c r p j).foldl min 1000000) ∧ Fr cSe w1 w3) (fun n x2 x5 w3 self3 hI hs3 => ?_) FU W _ 0 w2 (by have := FU_big; omega) ⟨0, by omega, by omega, rfl, rfl, p4⟩
    obtain ⟨j, j1, j2, rfl, rfl, j3⟩ := hI
    unfold f_X3_farFrom_21 f_X3_farFrom_77
    have s3 := s2 _ j3
    have hrow : gi w3 q p = nI (r p) := by rw [j3.2.2 _ _ (by unfold cSe; omega)]; exact (hr p hpm).2
    have hfl := fold_le (I := 1000000) (FVs W m c r p j)
    rw [wp_rI, s3.2.2.2.2.2.2.2.2.2.2.1]
    by_cases hj : W ≤ j
    · have e : j = W := by omega
      subst e
      rw [if_pos (nI_le hj (by omega)), wp_aIn (by omega) (by omega), hrow, ad1]
      refine hs (m - (p + 1)) _ _ _ _ (by omega) ⟨p + 1, r p, by omega, rfl, by rw [FVs_next], rfl, rfl, ?_, j3⟩
      rw [if_neg (by omega)]
      rfl
    · have hjW : j < W := by omega
      have hrp := hrW p hpm
      rw [if_neg (nI_ge hjW (by omega)), wp_aIn (by omega) (by omega), hrow, ad1]
      by_cases hjr : j = r p
      · rw [if_pos (by rw [hjr])]
        exact hs3 (W - (j + 1)) _ _ _ (by omega) ⟨j + 1, by omega, rfl, rfl, by rw [FVs_skip hjr], j3⟩
      · rw [if_neg (fun z => hjr ((nI_eq (by omega) (by omega)).mp z)), wp_bnd]
        show wp (f_X3_unlikeWith (nI p) (nI b) (nI 7) (nI j)) w3 _
        refine wp_mono (wp_unlikeWith s3 (by omega) hbW (by omega) hjW) (fun v w4 h4 => ?_)
        obtain ⟨rfl, f4⟩ := h4
        have f4' : Fr cSe w1 w4 := j3.tr f4
        have s4 := s2 _ f4'
        have ek : k8 w3 (Jr w r (LW S m)) p (b, 7) j = c p (str r p) j := by
          rw [(k8_fr (e3 _ j3) _).1]
          have hse := step_eq (L := LW S m) (g := tkL w (LW S m) r) hTo (by rw [Jof_Jr]; exact hJ) (by rw [Jof_Jr]; exact hC) (show p < 8 by omega) hV hjW (by rw [Jof_Jr]; exact hRl)
          rw [Jof_Jr, hc] at hse
          rw [← hse]
          unfold k8
          show tcs _ _ p b j + _ = tcs _ _ p b j + _
          congr 1
          by_cases p0 : p = 0
          · rw [if_pos p0, if_pos p0]
          · rw [if_neg p0, if_neg p0]
            show scs _ (p - 1) (7 &&& rh w (Jr w r (LW S m)) (p - 1) 1 b j) = scs _ (p - 1) (rh w (Jr w r (LW S m)) (p - 1) 0 (str r p).2 (str r p).1 &&& rh w (Jr w r (LW S m)) (p - 1) 1 b j)
            unfold rh
            refine scs_7 (hC _ (by omega)).2 (fun e he => ?_)
            have hp1 := (spR_ok hJ he).2.2.1
            have r2 : (str r p).2 = r (p - 1) := by unfold str; show (if p < 1 then 0 else r (p - 1)) = _; rw [if_neg (by omega)]
            have r1 : (str r p).1 = r (p - 1 - 1) := by unfold str; show (if p < 2 then 0 else r (p - 2)) = _; rw [if_neg (by omega)]; rfl
            rw [r1, r2]
            exact row_right hTo hrW (by omega) hm0 he
        rw [ek]
        rw [wp_gdn (by omega) (by omega), wp_bnd, (rd_stateOf s4 (by omega) hjW hbW').wp, rh_fr (e3 _ f4')]
        obtain ⟨r1, r2⟩ := rh_lt g8 (show p < 8 by omega) 0 j b
        rw [rh_fr e164] at r1
        obtain ⟨v, n, q1, q2, q3, q4⟩ := lv p (by omega) hpm j hjW _ r1
        have hAC := AC_eq (L := LW S m) (g := tkL w (LW S m) r) hTo (by rw [Jof_Jr]; exact hJ) (by rw [Jof_Jr]; exact hC) (p := p + 1) (k := m - 1 - p) (by omega) (hV.nx hjW) (by rw [Jof_Jr]; exact hRl.nx (x := j) hJ)
        rw [Jof_Jr, hc] at hAC
        have en : n8 w (Jr w r (LW S m)) p (b, rh w (Jr w r (LW S m)) (p - 1) 0 (str r p).2 (str r p).1) j = (j, rh w (Jr w r (LW S m)) p 0 j b) := rfl
        rw [en] at hAC
        rw [hAC] at q4
        have hv : v = mn9 W c (p + 1) (m - 1 - p) (n9 p (str r p) j) := q4.mnl (AC_ne hW0)
        have q2' : gi w4 (54 + 1 + p) (8 * j + rh w (Jr w r (LW S m)) p 0 j b) = nI v := by rw [f4'.2.2 _ _ (by unfold cSe; omega)]; exact q2
        have hkk := hkb p (str r p) j
        rw [wp_aIc (by omega) (by omega) (by omega), q2', nI_add, wp_nm, min_nI (by omega) (by omega), wp_nm]
        refine hs3 (W - (j + 1)) _ _ _ (by omega) ⟨j + 1, by omega, rfl, rfl, ?_, f4'⟩
        rw [FVs_step hjr, fold_snoc]
        unfold fvx
        rw [hv]
end FAR8
