/-! tokens as items; records of items with weights (pure) -/
section ITEMS
abbrev It := Option Nat × Nat × Option Nat
def itL (L : List (Nat × Bool)) (i : Nat) : It := (bf L i, own L i, af L i)
def its (L : List (Nat × Bool)) : List It := (List.range L.length).map (itL L)
def ltt (x : It) : Nat := max x.2.1 (max (x.1.getD 0) (x.2.2.getD 0))
def tkt (w : Wd) (r : Nat → Nat) (x : It) : Nat := tk w (x.1.map r) (r x.2.1) (x.2.2.map r)
theorem lst_itL (L : List (Nat × Bool)) (i : Nat) : lst L i = ltt (itL L i) := rfl
theorem tkL_itL (w : Wd) (L : List (Nat × Bool)) (r : Nat → Nat) (i : Nat) : tkL w L r i = tkt w r (itL L i) := rfl
def isSp (x : It) : Bool := match x.1, x.2.2 with
  | some a, some b => decide (a + 2 = b ∨ b + 2 = a)
  | _, _ => false
-- two courses, one behind the other
theorem own_app1 {L M : List (Nat × Bool)} {i : Nat} (h : i < L.length) : own (L ++ M) i = own L i := by
  unfold own
  rw [List.getElem?_append_left h]
theorem beg_app1 {L M : List (Nat × Bool)} {i : Nat} (h : i < L.length) : beg (L ++ M) i = beg L i := by
  unfold beg
  rw [List.getElem?_append_left h]
theorem own_app2 {L M : List (Nat × Bool)} {i : Nat} (h : L.length ≤ i) : own (L ++ M) i = own M (i - L.length) := by
  unfold own
  rw [List.getElem?_append_right h]
theorem beg_app2 {L M : List (Nat × Bool)} {i : Nat} (h : L.length ≤ i) : beg (L ++ M) i = beg M (i - L.length) := by
  unfold beg
  rw [List.getElem?_append_right h]
theorem itL_app1 {L M : List (Nat × Bool)} {i : Nat} (hM : beg M 0 = true) (h : i < L.length) : itL (L ++ M) i = itL L i := by
  unfold itL bf af
  rw [own_app1 h, beg_app1 h]
  have e1 : own (L ++ M) (i - 1) = own L (i - 1) := own_app1 (by omega)
  rw [e1]
  by_cases c : i + 1 < L.length
  · rw [beg_app1 c, own_app1 c]
  · have e2 : beg (L ++ M) (i + 1) = true := by rw [beg_app2 (by omega), show i + 1 - L.length = 0 by omega]; exact hM
    rw [e2, beg_out (L := L) (i := i + 1) (by omega), if_pos rfl, if_pos rfl]
theorem itL_app2 {L M : List (Nat × Bool)} {i : Nat} (hM : beg M 0 = true) : itL (L ++ M) (L.length + i) = itL M i := by
  unfold itL bf af
  rw [own_app2 (L := L) (i := L.length + i) (by omega), beg_app2 (L := L) (i := L.length + i) (by omega), own_app2 (L := L) (i := L.length + i + 1) (by omega), beg_app2 (L := L) (i := L.length + i + 1) (by omega), show L.length + i - L.length = i by omega, show L.length + i + 1 - L.length = i + 1 by omega]
  congr 1
  by_cases i0 : i = 0
  · subst i0
    rw [if_pos (Or.inr hM), if_pos (Or.inl rfl)]
  · rw [own_app2 (L := L) (i := L.length + i - 1) (by omega), show L.length + i - 1 - L.length = i - 1 by omega]
    by_cases c : beg M i = true
    · rw [if_pos (Or.inr c), if_pos (Or.inr c)]
    · rw [if_neg (by rintro (h | h); (· omega); (· exact c h)), if_neg (by rintro (h | h); (· exact i0 h); (· exact c h))]
theorem its_len (L : List (Nat × Bool)) : (its L).length = L.length := by
  unfold its
  rw [List.length_map, List.length_range]
theorem its_app {L M : List (Nat × Bool)} (hM : beg M 0 = true) : its (L ++ M) = its L ++ its M := by
  apply List.ext_getElem
  · rw [List.length_append, its_len, its_len, its_len, List.length_append]
  · intro i h1 h2
    by_cases c : i < L.length
    · rw [List.getElem_append_left (by rw [its_len]; exact c)]
      simp only [its, List.getElem_map, List.getElem_range]
      exact itL_app1 hM c
    · rw [List.getElem_append_right (by rw [its_len]; omega)]
      simp only [its, List.getElem_map, List.getElem_range, List.length_map, List.length_range]
      have e := itL_app2 (L := L) (i := i - L.length) hM
      rw [show L.length + (i - L.length) = i by omega] at e
      exact e
theorem beg_CL : ∀ y, y < 5 → ∀ m, m < 9 → beg (CL y m) 0 = true := by decide +kernel
theorem its_LWp {S m : Nat} (hm : m < 9) : ∀ j, j ≤ 5 → its (LWp S m j) = (List.range j).flatMap (fun y => if S.testBit y then its (CL y m) else [])
  | 0, _ => rfl
  | j + 1, h => by
    have es : LWp S m (j + 1) = LWp S m j ++ (if S.testBit j then CL j m else []) := fm_succ _ j
    have hb : beg (if S.testBit j then CL j m else []) 0 = true := by
      split
      · exact beg_CL j (by omega) m hm
      · rfl
    rw [es, its_app hb, its_LWp hm j (by omega), List.range_succ, List.flatMap_append]
    congr 1
    simp only [List.flatMap_cons, List.flatMap_nil, List.append_nil]
    split <;> rfl
/-- what is known of every item -/
def okIt (m : Nat) (x : It) : Bool :=
  decide (x.2.1 < m) && (match x.1 with | none => true | some a => decide (a < m)) && (match x.2.2 with | none => true | some b => decide (b < m)) &&
  (if isSp x then (match x.1, x.2.2 with | some a, some b => decide ((a + 1 = x.2.1 ∧ x.2.1 + 1 = b) ∨ (b + 1 = x.2.1 ∧ x.2.1 + 1 = a)) | _, _ => false)
   else (decide (ltt x ≤ x.2.1 + 1) && (match x.1 with | none => true | some a => decide (ltt x ≤ a + 1)) && (match x.2.2 with | none => true | some b => decide (ltt x ≤ b + 1))))
theorem its_ok : ∀ y, y < 5 → ∀ m, m < 9 → 0 < m → (its (CL y m)).all (okIt m) = true := by decide +kernel
theorem its_cap : ∀ y, y < 5 → ∀ m, m < 9 → ∀ p, p < 8 → ((its (CL y m)).filter (fun x => !isSp x && decide (ltt x = p))).length ≤ 16 ∧ ((its (CL y m)).filter (fun x => isSp x && decide (x.2.1 = p))).length ≤ 3 := by decide +kernel
theorem okIt_lt {m : Nat} {x : It} (h : okIt m x = true) : x.2.1 < m ∧ (∀ a, x.1 = some a → a < m) ∧ ∀ b, x.2.2 = some b → b < m := by
  unfold okIt at h
  rw [Bool.and_eq_true, Bool.and_eq_true, Bool.and_eq_true] at h
  obtain ⟨⟨⟨h1, h2⟩, h3⟩, -⟩ := h
  refine ⟨by simpa using h1, fun a ha => ?_, fun b hb => ?_⟩
  · rw [ha] at h2; simpa using h2
  · rw [hb] at h3; simpa using h3
theorem okIt_tie {m : Nat} {x : It} (h : okIt m x = true) (hs : isSp x = false) : ltt x ≤ x.2.1 + 1 ∧ (∀ a, x.1 = some a → ltt x ≤ a + 1) ∧ ∀ b, x.2.2 = some b → ltt x ≤ b + 1 := by
  unfold okIt at h
  rw [Bool.and_eq_true] at h
  have h := h.2
  rw [hs, if_neg (by simp), Bool.and_eq_true, Bool.and_eq_true] at h
  obtain ⟨⟨h1, h2⟩, h3⟩ := h
  refine ⟨by simpa using h1, fun a ha => ?_, fun b hb => ?_⟩
  · rw [ha] at h2; simpa using h2
  · rw [hb] at h3; simpa using h3
theorem okIt_span {m : Nat} {x : It} (h : okIt m x = true) (hs : isSp x = true) : ∃ c, (x = (some c, c + 1, some (c + 2)) ∨ x = (some (c + 2), c + 1, some c)) := by
  unfold okIt at h
  rw [Bool.and_eq_true] at h
  have h := h.2
  rw [hs, if_pos rfl] at h
  obtain ⟨a, o, b⟩ := x
  cases a with
  | none => simp at h
  | some a =>
    cases b with
    | none => simp at h
    | some b =>
      have h : (a + 1 = o ∧ o + 1 = b) ∨ (b + 1 = o ∧ o + 1 = a) := by simpa using h
      rcases h with ⟨rfl, rfl⟩ | ⟨rfl, rfl⟩
      · exact ⟨a, Or.inl rfl⟩
      · exact ⟨b, Or.inr rfl⟩
theorem ltt_le {x : It} : x.2.1 ≤ ltt x ∧ (∀ a, x.1 = some a → a ≤ ltt x) ∧ ∀ b, x.2.2 = some b → b ≤ ltt x := by
  unfold ltt
  refine ⟨by omega, fun a ha => ?_, fun b hb => ?_⟩
  · rw [ha]; show a ≤ max _ (max a _); omega
  · rw [hb]; show b ≤ max _ (max _ b); omega
end ITEMS
section RECS
variable {α β : Type}
/-- one more of a key -/
def addR [DecidableEq α] (k : α) : List (α × Nat) → List (α × Nat)
  | [] => [(k, 1)]
  | e :: l => if e.1 = k then (e.1, e.2 + 1) :: l else e :: addR k l
def wsum (f : α → Nat) : List (α × Nat) → Nat
  | [] => 0
  | e :: l => e.2 * f e.1 + wsum f l
theorem wsum_addR [DecidableEq α] (f : α → Nat) (k : α) : ∀ l, wsum f (addR k l) = wsum f l + f k
  | [] => by show 1 * f k + 0 = 0 + f k; omega
  | e :: l => by
    unfold addR
    by_cases h : e.1 = k
    · rw [if_pos h]
      show (e.2 + 1) * f e.1 + wsum f l = e.2 * f e.1 + wsum f l + f k
      rw [Nat.succ_mul, h]
      omega
    · rw [if_neg h]
      show e.2 * f e.1 + wsum f (addR k l) = e.2 * f e.1 + wsum f l + f k
      rw [wsum_addR f k l]
      omega
theorem addR_pre [DecidableEq α] (k : α) : ∀ (l l' : List (α × Nat)), (∀ e ∈ l, e.1 ≠ k) → addR k (l ++ l') = l ++ addR k l'
  | [], _, _ => rfl
  | e :: l, l', h => by
    show (if e.1 = k then _ else _) = _
    rw [if_neg (h e (by simp))]
    show e :: addR k (l ++ l') = e :: (l ++ addR k l')
    rw [addR_pre k l l' (fun e' he' => h e' (by simp [he']))]
theorem addR_len [DecidableEq α] (k : α) : ∀ l : List (α × Nat), l.length ≤ (addR k l).length ∧ (addR k l).length ≤ l.length + 1
  | [] => by show 0 ≤ 1 ∧ 1 ≤ 0 + 1; omega
  | e :: l => by
    unfold addR
    have ih := addR_len k l
    by_cases h : e.1 = k
    · rw [if_pos h]; show l.length + 1 ≤ l.length + 1 ∧ l.length + 1 ≤ l.length + 1 + 1; omega
    · rw [if_neg h]; show l.length + 1 ≤ (addR k l).length + 1 ∧ (addR k l).length + 1 ≤ l.length + 1 + 1; omega
theorem addR_keys [DecidableEq α] (k : α) : ∀ l : List (α × Nat), (addR k l).map (·.1) = if k ∈ l.map (·.1) then l.map (·.1) else l.map (·.1) ++ [k]
  | [] => rfl
  | e :: l => by
    unfold addR
    have ih := addR_keys k l
    by_cases h : e.1 = k
    · rw [if_pos h, if_pos (by rw [List.map_cons, h]; simp)]
      rfl
    · rw [if_neg h, List.map_cons, ih, List.map_cons]
      by_cases h2 : k ∈ l.map (·.1)
      · rw [if_pos h2, if_pos (List.mem_cons_of_mem _ h2)]
      · rw [if_neg h2, if_neg (by rw [List.mem_cons]; rintro (q | q); (· exact h q.symm); (· exact h2 q))]
        rfl
/-- the records of a list -/
def rcs [DecidableEq α] (P : β → Bool) (key : β → α) (J : List β) (R : List (α × Nat)) : List (α × Nat) := J.foldl (fun R j => if P j then addR (key j) R else R) R
theorem rcs_snoc [DecidableEq α] {P : β → Bool} {key : β → α} {J : List β} {R : List (α × Nat)} {j : β} : rcs P key (J ++ [j]) R = if P j then addR (key j) (rcs P key J R) else rcs P key J R := by
  unfold rcs
  rw [List.foldl_append]
  rfl
theorem rcs_cons [DecidableEq α] {P : β → Bool} {key : β → α} {J : List β} {R : List (α × Nat)} {j : β} : rcs P key (j :: J) R = rcs P key J (if P j then addR (key j) R else R) := rfl
theorem rcs_app [DecidableEq α] {P : β → Bool} {key : β → α} {J J' : List β} {R : List (α × Nat)} : rcs P key (J ++ J') R = rcs P key J' (rcs P key J R) := by
  unfold rcs
  rw [List.foldl_append]
theorem wsum_rcs [DecidableEq α] (f : α → Nat) {P : β → Bool} {key : β → α} : ∀ (J : List β) (R : List (α × Nat)), wsum f (rcs P key J R) = wsum f R + (J.map (fun j => if P j then f (key j) else 0)).sum
  | [], R => by show wsum f R = wsum f R + 0; omega
  | j :: J, R => by
    rw [rcs_cons, wsum_rcs f J, List.map_cons, List.sum_cons]
    by_cases h : P j = true
    · rw [if_pos h, if_pos h, wsum_addR]; omega
    · rw [if_neg h, if_neg h]; omega
theorem rcs_len [DecidableEq α] {P : β → Bool} {key : β → α} : ∀ (J : List β) (R : List (α × Nat)), R.length ≤ (rcs P key J R).length ∧ (rcs P key J R).length ≤ R.length + (J.filter P).length
  | [], R => by show R.length ≤ R.length ∧ R.length ≤ R.length + 0; omega
  | j :: J, R => by
    rw [rcs_cons]
    by_cases h : P j = true
    · have h1 := rcs_len (P := P) (key := key) J (addR (key j) R)
      have h2 := addR_len (key j) R
      rw [if_pos h, List.filter_cons_of_pos h, List.length_cons]
      omega
    · have h1 := rcs_len (P := P) (key := key) J R
      rw [if_neg h, List.filter_cons_of_neg h]
      exact h1
theorem rcs_key [DecidableEq α] {P : β → Bool} {key : β → α} : ∀ (J : List β) (R : List (α × Nat)) (k : α), k ∈ (rcs P key J R).map (·.1) → k ∈ R.map (·.1) ∨ ∃ j ∈ J, P j = true ∧ k = key j
  | [], R, k, h => Or.inl h
  | j :: J, R, k, h => by
    rw [rcs_cons] at h
    rcases rcs_key J _ k h with h1 | ⟨j', h1, h2, h3⟩
    · by_cases hp : P j = true
      · rw [if_pos hp, addR_keys] at h1
        by_cases hk : key j ∈ R.map (·.1)
        · rw [if_pos hk] at h1; exact Or.inl h1
        · rw [if_neg hk, List.mem_append] at h1
          rcases h1 with h1 | h1
          · exact Or.inl h1
          · exact Or.inr ⟨j, by simp, hp, by simpa using h1⟩
      · rw [if_neg hp] at h1; exact Or.inl h1
    · exact Or.inr ⟨j', by simp [h1], h2, h3⟩
theorem rcs_nodup [DecidableEq α] {P : β → Bool} {key : β → α} : ∀ (J : List β) (R : List (α × Nat)), (R.map (·.1)).Nodup → ((rcs P key J R).map (·.1)).Nodup
  | [], R, h => h
  | j :: J, R, h => by
    rw [rcs_cons]
    apply rcs_nodup J
    by_cases hp : P j = true
    · rw [if_pos hp, addR_keys]
      by_cases hk : key j ∈ R.map (·.1)
      · rw [if_pos hk]; exact h
      · rw [if_neg hk, List.nodup_append]
        refine ⟨h, by simp, fun a ha b hb => ?_⟩
        have : b = key j := by simpa using hb
        rw [this]
        intro e
        rw [e] at ha
        exact hk ha
    · rw [if_neg hp]; exact h
theorem nodup_le [DecidableEq α] : ∀ {l l' : List α}, l.Nodup → (∀ x ∈ l, x ∈ l') → l.length ≤ l'.length
  | [], _, _, _ => Nat.zero_le _
  | a :: l, l', hn, hs => by
    rw [List.nodup_cons] at hn
    have ha : a ∈ l' := hs a (by simp)
    have h1 : l.length ≤ (l'.erase a).length := nodup_le hn.2 (fun x hx => (List.mem_erase_of_ne (fun e => hn.1 (by rw [← e]; exact hx))).mpr (hs x (by simp [hx])))
    have h2 : 0 < l'.length := List.length_pos_of_mem ha
    rw [List.length_erase_of_mem ha] at h1
    rw [List.length_cons]
    omega
/-- sums over places of a list -/
def at0 (F : α × Nat → Nat) (R : List (α × Nat)) (j : Nat) : Nat := (R[j]?.map F).getD 0
theorem at0_some {F : α × Nat → Nat} {R : List (α × Nat)} {j : Nat} {e : α × Nat} (h : R[j]? = some e) : at0 F R j = F e := by
  unfold at0
  rw [h]
  rfl
theorem sm_cons (f : Nat → Nat) : ∀ n, sm f (n + 1) = f 0 + sm (fun i => f (i + 1)) n
  | 0 => by show 0 + f 0 = f 0 + 0; omega
  | n + 1 => by
    rw [sm_succ, sm_cons f n, sm_succ]
    omega
theorem wsum_sm (f : α → Nat) : ∀ R : List (α × Nat), wsum f R = sm (at0 (fun e => e.2 * f e.1) R) R.length
  | [] => rfl
  | e :: l => by
    rw [List.length_cons, sm_cons]
    show e.2 * f e.1 + wsum f l = e.2 * f e.1 + sm (at0 (fun e => e.2 * f e.1) l) l.length
    rw [wsum_sm f l]
theorem sm_range (f : Nat → Nat) : ∀ n, sm f n = ((List.range n).map f).sum
  | 0 => rfl
  | n + 1 => by
    rw [sm_succ, sm_range f n, List.range_succ, List.map_append, List.sum_append]
    simp
end RECS
