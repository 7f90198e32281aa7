/-! both sides weigh alike (pure) -/
section BISIM
variable {w : Wd} {t W m : Nat} {L : List (Nat × Bool)} {g : Nat → Nat}
/-- the items of a course with their goals -/
def Jof (L : List (Nat × Bool)) (g : Nat → Nat) : List (It × Nat) := (List.range L.length).map (fun i => (itL L i, g i))
theorem sum_add {α : Type} (f h : α → Nat) : ∀ l : List α, (l.map (fun x => f x + h x)).sum = (l.map f).sum + (l.map h).sum
  | [] => rfl
  | a :: l => by
    rw [List.map_cons, List.map_cons, List.map_cons, List.sum_cons, List.sum_cons, List.sum_cons, sum_add f h l]
    omega
theorem sum_congr {α : Type} {f h : α → Nat} {l : List α} (e : ∀ x ∈ l, f x = h x) : (l.map f).sum = (l.map h).sum := by
  rw [List.map_congr_left e]
/-- one item that is unlike -/
def uit (w : Wd) (r : Nat → Nat) (j : It × Nat) : Nat := if tkt w r j.1 = j.2 then 0 else 1
theorem un_sum (r : Nat → Nat) (p : Nat) : un w L g r p = ((Jof L g).map (fun j => if ltt j.1 = p then uit w r j else 0)).sum := by
  unfold un Jof
  rw [sm_range, List.map_map]
  refine sum_congr (fun i _ => ?_)
  show uo w L g r p i = if ltt (itL L i) = p then (if tkt w r (itL L i) = g i then 0 else 1) else 0
  unfold uo
  rw [lst_itL, tkL_itL]
  by_cases c1 : ltt (itL L i) = p
  · by_cases c2 : tkt w r (itL L i) = g i
    · rw [if_neg (fun q => q.2 c2), if_pos c1, if_pos c2]
    · rw [if_pos ⟨c1, c2⟩, if_pos c1, if_neg c2]
  · rw [if_neg (fun q => c1 q.1), if_neg c1]
def rbw (p b x q : Nat) : Nat := if q = p then x else b
theorem sv_seat (p b x : Nat) (o : Option Nat) : sv b x (seatO p o) = o.map (rbw p b x) := by
  cases o with
  | none => rfl
  | some q =>
    show sv b x (if q = p then 2 else 1) = some (if q = p then x else b)
    by_cases c : q = p
    · rw [if_pos c, if_pos c]; rfl
    · rw [if_neg c, if_neg c]; rfl
theorem svn_seat (p b x q : Nat) : svn b x (seatO p (some q)) = rbw p b x q := by
  show svn b x (if q = p then 2 else 1) = (if q = p then x else b)
  by_cases c : q = p
  · rw [if_pos c, if_pos c]; rfl
  · rw [if_neg c, if_neg c]; rfl
theorem sem_ties (J : List (It × Nat)) (p b x : Nat) : tcs w J p b x = (J.map (fun j => if isTy p j then uit w (rbw p b x) j else 0)).sum := by
  unfold tcs tyR
  rw [wsum_rcs]
  show 0 + _ = _
  rw [Nat.zero_add]
  refine sum_congr (fun j _ => ?_)
  by_cases c : isTy p j = true
  · rw [if_pos c, if_pos c]
    have hp : ltt j.1 = p := by
      unfold isTy at c
      rw [Bool.and_eq_true] at c
      simpa using c.2
    unfold tfv uit tkt tkey
    rw [hp, sv_seat, svn_seat, sv_seat]
  · rw [if_neg c, if_neg c]
theorem bit3 (b : Nat → Bool) : ∀ n, n ≤ 3 → ∀ i, i < n → (sm (fun i => if b i then 2 ^ i else 0) n).testBit i = b i := by
  intro n hn i hi
  rcases (by omega : n = 0 ∨ n = 1 ∨ n = 2 ∨ n = 3) with rfl | rfl | rfl | rfl
  · omega
  · obtain rfl : i = 0 := by omega
    simp only [sm]
    cases b 0 <;> decide
  · simp only [sm]
    rcases (by omega : i = 0 ∨ i = 1) with rfl | rfl <;> cases b 0 <;> cases b 1 <;> decide
  · simp only [sm]
    rcases (by omega : i = 0 ∨ i = 1 ∨ i = 2) with rfl | rfl | rfl <;> cases b 0 <;> cases b 1 <;> cases b 2 <;> decide
theorem scs_and {J : List (It × Nat)} {p : Nat} (hc : (spR J p).length ≤ 3) (f h : SK → Bool) : scs J p (btn f (spR J p) (spR J p).length &&& btn h (spR J p) (spR J p).length) = wsum (fun k => if f k && h k then 0 else 1) (spR J p) := by
  unfold scs
  rw [wsum_sm]
  refine sm_congr _ (fun j hj => ?_)
  obtain ⟨e, he⟩ : ∃ e, (spR J p)[j]? = some e := ⟨(spR J p)[j]'hj, List.getElem?_eq_getElem hj⟩
  have t1 : (btn f (spR J p) (spR J p).length).testBit j = f e.1 := by
    unfold btn
    rw [bit3 (bb f (spR J p)) _ hc j hj]
    unfold bb
    rw [he]; rfl
  have t2 : (btn h (spR J p) (spR J p).length).testBit j = h e.1 := by
    unfold btn
    rw [bit3 (bb h (spR J p)) _ hc j hj]
    unfold bb
    rw [he]; rfl
  rw [Nat.testBit_and, t1, t2, at0_some he, at0_some he]
  cases f e.1 && h e.1
  · show e.2 = e.2 * 1; omega
  · show 0 = e.2 * 0; omega
theorem sem_spans (hTo : ITon t W w) {J : List (It × Nat)} (hJ : Jok m J) {p a x y : Nat} (hc : (spR J p).length ≤ 3) (hx : x < W) (hy : y < W) (ha : 1 ≤ p → a < W) : scs J p (rh w J p 0 x a &&& rh w J p 1 x y) = (J.map (fun j => if isSn p j then uit w (rr (p + 1) a x y) j else 0)).sum := by
  unfold rh
  rw [scs_and hc]
  unfold spR
  rw [wsum_rcs]
  show 0 + _ = _
  rw [Nat.zero_add]
  refine sum_congr (fun j hj => ?_)
  by_cases c : isSn p j = true
  · rw [if_pos c, if_pos c]
    unfold isSn at c
    rw [Bool.and_eq_true] at c
    have hp : j.1.2.1 = p := by simpa using c.2
    obtain ⟨h1, h2⟩ := hJ j hj
    have hwb := (hTo.fl hx).2.2.2.1
    have hry := tkr_lt hTo (a := some y) hx (fun o ho => by cases ho; exact hy)
    obtain ⟨⟨ja, jo, jb⟩, jg⟩ := j
    have hp : jo = p := hp
    obtain ⟨cc, hcc | hcc⟩ := okIt_span h1 c.1
    · cases hcc
      subst hp
      have haW := ha (by omega)
      have e1 : skey ((some cc, cc + 1, some (cc + 2)), jg) = (0, jg) := by unfold skey; show ((if cc ≤ cc + 2 then 0 else 1), jg) = _; rw [if_pos (by omega)]
      have e2 : tkt w (rr (cc + 1 + 1) a x y) (some cc, cc + 1, some (cc + 2)) = 128 * tkf w (some a) x + 8 * wb w x + tkr w x (some y) := by
        unfold tkt tk
        show 128 * tkf w (some (rr (cc + 1 + 1) a x y cc)) (rr (cc + 1 + 1) a x y (cc + 1)) + 8 * wb w (rr (cc + 1 + 1) a x y (cc + 1)) + tkr w (rr (cc + 1 + 1) a x y (cc + 1)) (some (rr (cc + 1 + 1) a x y (cc + 2))) = _
        have r1 : rr (cc + 1 + 1) a x y cc = a := by unfold rr; rw [if_neg (by omega), if_neg (by omega)]
        have r2 : rr (cc + 1 + 1) a x y (cc + 1) = x := by unfold rr; rw [if_neg (by omega), if_pos rfl]
        have r3 : rr (cc + 1 + 1) a x y (cc + 2) = y := by unfold rr; rw [if_pos (by omega)]
        rw [r1, r2, r3]
      have g0 : rgt w 0 x a (0, jg) = decide (128 * tkf w (some a) x + 8 * wb w x = jg - jg % 8) := by unfold rgt; rw [if_pos rfl]
      have g1 : rgt w 1 x y (0, jg) = decide (tkr w x (some y) = jg % 8) := by unfold rgt; rw [if_neg (by simp)]
      rw [e1, g0, g1]
      unfold uit
      rw [e2]
      show _ = if _ = jg then 0 else 1
      by_cases q1 : 128 * tkf w (some a) x + 8 * wb w x = jg - jg % 8
      · by_cases q2 : tkr w x (some y) = jg % 8
        · rw [if_pos (by simp [q1, q2]), if_pos (by omega)]
        · rw [if_neg (by simp [q2]), if_neg (by omega)]
      · rw [if_neg (by simp [q1]), if_neg (by omega)]
    · cases hcc
      subst hp
      have haW := ha (by omega)
      have hra := tkr_lt hTo (a := some a) hx (fun o ho => by cases ho; exact haW)
      have e1 : skey ((some (cc + 2), cc + 1, some cc), jg) = (1, jg) := by unfold skey; show ((if cc + 2 ≤ cc then 0 else 1), jg) = _; rw [if_neg (by omega)]
      have e2 : tkt w (rr (cc + 1 + 1) a x y) (some (cc + 2), cc + 1, some cc) = 128 * tkf w (some y) x + 8 * wb w x + tkr w x (some a) := by
        unfold tkt tk
        show 128 * tkf w (some (rr (cc + 1 + 1) a x y (cc + 2))) (rr (cc + 1 + 1) a x y (cc + 1)) + 8 * wb w (rr (cc + 1 + 1) a x y (cc + 1)) + tkr w (rr (cc + 1 + 1) a x y (cc + 1)) (some (rr (cc + 1 + 1) a x y cc)) = _
        have r1 : rr (cc + 1 + 1) a x y cc = a := by unfold rr; rw [if_neg (by omega), if_neg (by omega)]
        have r2 : rr (cc + 1 + 1) a x y (cc + 1) = x := by unfold rr; rw [if_neg (by omega), if_pos rfl]
        have r3 : rr (cc + 1 + 1) a x y (cc + 2) = y := by unfold rr; rw [if_pos (by omega)]
        rw [r1, r2, r3]
      have g0 : rgt w 0 x a (1, jg) = decide (tkr w x (some a) = jg % 8) := by unfold rgt; rw [if_neg (by simp)]
      have g1 : rgt w 1 x y (1, jg) = decide (128 * tkf w (some y) x + 8 * wb w x = jg - jg % 8) := by unfold rgt; rw [if_pos rfl]
      rw [e1, g0, g1]
      unfold uit
      rw [e2]
      show _ = if _ = jg then 0 else 1
      by_cases q1 : 128 * tkf w (some y) x + 8 * wb w x = jg - jg % 8
      · by_cases q2 : tkr w x (some a) = jg % 8
        · rw [if_pos (by simp [q1, q2]), if_pos (by omega)]
        · rw [if_neg (by simp [q2]), if_neg (by omega)]
      · rw [if_neg (by simp [q1]), if_neg (by omega)]
  · rw [if_neg c, if_neg c]
/-- the class's step -/
def k8 (w : Wd) (J : List (It × Nat)) (p : Nat) (s : Nat × Nat) (x : Nat) : Nat := tcs w J p s.1 x + if p = 0 then 0 else scs J (p - 1) (s.2 &&& rh w J (p - 1) 1 s.1 x)
def n8 (w : Wd) (J : List (It × Nat)) (p : Nat) (s : Nat × Nat) (x : Nat) : Nat × Nat := (x, rh w J p 0 x s.1)
/-- states of both sides that belong together -/
def Rl8 (w : Wd) (J : List (It × Nat)) (p : Nat) (s s' : Nat × Nat) : Prop := s'.1 = (if p = 0 then 16 else s.2) ∧ (p ≠ 0 → s'.2 = rh w J (p - 1) 0 s.2 s.1)
theorem spR_0 {J : List (It × Nat)} (hJ : Jok m J) : spR J 0 = [] := by
  cases h : spR J 0 with
  | nil => rfl
  | cons e l =>
    have := (spR_ok hJ (p := 0) (e := e) (by rw [h]; simp)).2.2.1
    omega
theorem rh_0 {J : List (It × Nat)} (hJ : Jok m J) (side x nb : Nat) : rh w J 0 side x nb = 0 := by
  unfold rh
  rw [spR_0 hJ]
  rfl
theorem Rl8.nx {J : List (It × Nat)} (hJ : Jok m J) {p x : Nat} {s s' : Nat × Nat} (h : Rl8 w J p s s') : Rl8 w J (p + 1) (n9 p s x) (n8 w J p s' x) := by
  refine ⟨by rw [if_neg (by omega)]; rfl, fun _ => ?_⟩
  show rh w J p 0 x s'.1 = rh w J p 0 x (if p = 0 then 0 else s.2)
  rw [h.1]
  by_cases p0 : p = 0
  · subst p0
    rw [rh_0 hJ, rh_0 hJ]
  · rw [if_neg p0, if_neg p0]
theorem step_eq (hTo : ITon t W w) (hJ : Jok m (Jof L g)) (hC : Cap (Jof L g)) {p x : Nat} {s s' : Nat × Nat} (hp : p < 8) (hv : V9 W p s) (hx : x < W) (h : Rl8 w (Jof L g) p s s') : k8 w (Jof L g) p s' x = k9 w L g p s x := by
  unfold k8 k9
  rw [un_sum, sem_ties]
  obtain ⟨h1, h2⟩ := h
  have hts : ∀ b, (p ≠ 0 → b = s.2) → ∀ j ∈ Jof L g, isTy p j = true → uit w (rbw p b x) j = uit w (rr p s.1 s.2 x) j := by
    intro b hb j hj hi
    unfold isTy at hi
    rw [Bool.and_eq_true] at hi
    have hl : ltt j.1 = p := by simpa using hi.2
    obtain ⟨q1, q2, q3⟩ := okIt_tie (hJ j hj).1 (by simpa using hi.1)
    obtain ⟨l1, l2, l3⟩ := ltt_le (x := j.1)
    have eq : ∀ q, q ≤ p → p ≤ q + 1 → rbw p b x q = rr p s.1 s.2 x q := by
      intro q a1 a2
      unfold rbw rr
      by_cases c : q = p
      · rw [if_pos c, if_pos c]
      · rw [if_neg c, if_neg c, if_pos (by omega)]
        exact hb (by omega)
    unfold uit tkt
    rw [hl] at q1 q2 q3 l1 l2 l3
    have e1 : j.1.1.map (rbw p b x) = j.1.1.map (rr p s.1 s.2 x) := by
      cases ho : j.1.1 with
      | none => rfl
      | some q => show some _ = some _; rw [eq q (l2 q ho) (q2 q ho)]
    have e3 : j.1.2.2.map (rbw p b x) = j.1.2.2.map (rr p s.1 s.2 x) := by
      cases ho : j.1.2.2 with
      | none => rfl
      | some q => show some _ = some _; rw [eq q (l3 q ho) (q3 q ho)]
    rw [e1, eq _ l1 q1, e3]
  by_cases p0 : p = 0
  · rw [if_pos p0, Nat.add_zero]
    refine sum_congr (fun j hj => ?_)
    by_cases c : isTy p j = true
    · have hl : ltt j.1 = p := by
        have c := c
        unfold isTy at c
        rw [Bool.and_eq_true] at c
        simpa using c.2
      rw [if_pos c, if_pos hl]
      exact hts _ (fun z => absurd p0 z) j hj c
    · rw [if_neg c]
      by_cases hl : ltt j.1 = p
      · exfalso
        have hsp : isSp j.1 = true := by
          unfold isTy at c
          cases h : isSp j.1 with
          | true => rfl
          | false => exact absurd (by rw [h]; simpa using hl) c
        obtain ⟨cc, hcc | hcc⟩ := okIt_span (hJ j hj).1 hsp
        · rw [hcc] at hl; unfold ltt at hl; simp at hl; omega
        · rw [hcc] at hl; unfold ltt at hl; simp at hl; omega
      · rw [if_neg hl]
  · rw [if_neg p0] at h1 ⊢
    have hvl := hv.2
    rw [if_pos (by omega)] at hvl
    rw [h1, h2 p0, sem_spans hTo hJ (hC (p - 1) (by omega)).2 hvl hx (fun h => by
      have := hv.1
      rw [if_pos (by omega)] at this
      exact this), show p - 1 + 1 = p by omega, ← sum_add]
    refine sum_congr (fun j hj => ?_)
    cases hsp : isSp j.1
    · have e1 : isSn (p - 1) j = false := by unfold isSn; rw [hsp]; rfl
      rw [e1]
      by_cases hl : ltt j.1 = p
      · have c : isTy p j = true := by unfold isTy; rw [hsp]; simpa using hl
        rw [if_pos c, if_pos hl, hts _ (fun _ => rfl) j hj c]
        simp
      · have c : isTy p j = false := by unfold isTy; rw [hsp]; simpa using hl
        rw [c, if_neg hl]
        simp
    · have e1 : isTy p j = false := by unfold isTy; rw [hsp]; rfl
      rw [e1]
      have el : ltt j.1 = j.1.2.1 + 1 := by
        obtain ⟨cc, hcc | hcc⟩ := okIt_span (hJ j hj).1 hsp
        · rw [hcc]; unfold ltt; simp
        · rw [hcc]; unfold ltt; simp
      by_cases hl : ltt j.1 = p
      · have c : isSn (p - 1) j = true := by unfold isSn; rw [hsp]; simp; omega
        rw [c, if_pos hl]
        simp
      · have c : isSn (p - 1) j = false := by unfold isSn; rw [hsp]; simp; omega
        rw [c, if_neg hl]
        simp
theorem PC_eq (hTo : ITon t W w) (hJ : Jok m (Jof L g)) (hC : Cap (Jof L g)) : ∀ (l : List Nat) (p : Nat) (s s' : Nat × Nat), p + l.length ≤ 8 → (∀ x ∈ l, x < W) → V9 W p s → Rl8 w (Jof L g) p s s' → PC (k8 w (Jof L g)) (n8 w (Jof L g)) p s' l = PC (k9 w L g) n9 p s l
  | [], _, _, _, _, _, _, _ => rfl
  | x :: l, p, s, s', hp, hx, hv, hr => by
    have hp : p + (l.length + 1) ≤ 8 := hp
    have hxx := hx x (by simp)
    show k8 w (Jof L g) p s' x + PC _ _ (p + 1) (n8 w (Jof L g) p s' x) l = k9 w L g p s x + PC _ _ (p + 1) (n9 p s x) l
    rw [step_eq hTo hJ hC (by omega) hv hxx hr, PC_eq hTo hJ hC l (p + 1) _ _ (by omega) (fun y hy => hx y (by simp [hy])) (hv.nx hxx) (hr.nx hJ)]
theorem AC_eq (hTo : ITon t W w) (hJ : Jok m (Jof L g)) (hC : Cap (Jof L g)) {p k : Nat} {s s' : Nat × Nat} (hp : p + k ≤ 8) (hv : V9 W p s) (hr : Rl8 w (Jof L g) p s s') : AC W (k8 w (Jof L g)) (n8 w (Jof L g)) p k s' = AC W (k9 w L g) n9 p k s := by
  unfold AC
  refine List.map_congr_left (fun l hl => ?_)
  obtain ⟨h1, h2⟩ := mem_rws.mp hl
  exact PC_eq hTo hJ hC l p s s' (by omega) h2 hv hr
theorem rel_0 (w : Wd) (J : List (It × Nat)) : Rl8 w J 0 (0, 0) (16, 0) := ⟨rfl, fun h => absurd rfl h⟩
theorem V9_0 (W : Nat) : V9 W 0 (0, 0) := ⟨rfl, rfl⟩
end BISIM
