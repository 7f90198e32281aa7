/-! the rules of the heap -/
theorem va_P1 {D : va_G} {cl : List vw_C} {q : Nat × va_E} {H : Heap} (h : va_at D cl q H) : va_P D cl [q] H := by
  intro k x hx
  cases k with
  | zero => cases hx; exact h
  | succ k => simp at hx
theorem mx_le (q : Nat) : mx q ≤ 186 := by
  unfold mx
  split <;> omega
def Ex (G : Nat → Prop) (q : Nat) : Prop := ∃ o, G o ∧ q ≤ mx o
theorem Ex.lt {E : Ev} {G : Nat → Prop} {w : Wd} {H : Heap} {q : Nat} (h : Ex G q) (hR : Rel E G w H) : q < gn w := by
  obtain ⟨o, h1, h2⟩ := h
  exact Nat.lt_of_le_of_lt h2 (hR.2.2 o h1).2.1
theorem Ex.small {G : Nat → Prop} {q : Nat} (h : Ex G q) : q < 1000 := by
  obtain ⟨o, -, h2⟩ := h
  have := mx_le o
  omega
theorem ex_all {q : Nat} (h : q ≤ 186) : Ex Gall q := ⟨161, (by unfold Gall; omega), h⟩
theorem fvl_get {ad : Nat → Nat} {w : Wd} {q : Nat} : ∀ (ts : List Nat) (n k t : Nat), ts[k]? = some t → (fvl ad w q n ts)[k]? = some (fv ad w q (n + k) t)
  | [], n, k, t, h => by simp at h
  | a :: ts, n, 0, t, h => by
    simp at h
    subst h
    simp [fvl]
  | a :: ts, n, k + 1, t, h => by
    rw [List.getElem?_cons_succ] at h
    show (fvl ad w q (n + 1) ts)[k]? = _
    rw [fvl_get ts (n + 1) k t h]
    rw [show n + 1 + k = n + (k + 1) by omega]
theorem fvl_V {ad : Nat → Nat} {w : Wd} {q k t : Nat} {ts : List Nat} (h : ts[k]? = some t) : vp_V (fvl ad w q 0 ts) k = fv ad w q k t := by
  unfold vp_V
  rw [List.getD_eq_getElem?_getD, fvl_get ts 0 k t h]
  simp
theorem fvl_congr {ad : Nat → Nat} {w w1 : Wd} {q : Nat} (h1 : gi w1 q = gi w q) (h2 : gl w1 q = gl w q) (h3 : gr w1 q = gr w q) : ∀ (ts : List Nat) (n : Nat), fvl ad w1 q n ts = fvl ad w q n ts
  | [], n => rfl
  | t :: ts, n => by
    show fv ad w1 q n t :: fvl ad w1 q (n + 1) ts = fv ad w q n t :: fvl ad w q (n + 1) ts
    rw [fvl_congr h1 h2 h3 ts (n + 1)]
    unfold fv
    rw [h1, h2, h3]
theorem cellOf_congr {ad : Nat → Nat} {cy : Nat → ClassId} {w w1 : Wd} {q : Nat} (h1 : gi w1 q = gi w q) (h2 : gl w1 q = gl w q) (h3 : gr w1 q = gr w q) : cellOf ad cy w1 q = cellOf ad cy w q := by
  unfold cellOf
  rw [fvl_congr h1 h2 h3, h1, h2]
theorem cellOf_obj {ad : Nat → Nat} {cy : Nat → ClassId} {w : Wd} {q ci N : Nat} (h : SH q = (ci, N)) (hc : ci < 10) : cellOf ad cy w q = .inr (ci, fvl ad w q 0 (fkinds ci)) := by
  unfold cellOf
  rw [h, if_pos hc]
theorem cellOf_int {ad : Nat → Nat} {cy : Nat → ClassId} {w : Wd} {q n : Nat} (h : SH q = (11, n)) : cellOf ad cy w q = .inl (cy 11, n, .inl (gi w q)) := by
  unfold cellOf
  rw [h]
  rfl
theorem cellOf_byte {ad : Nat → Nat} {cy : Nat → ClassId} {w : Wd} {q n : Nat} (h : SH q = (10, n)) : cellOf ad cy w q = .inl (cy 10, n, .inl (gi w q)) := by
  unfold cellOf
  rw [h]
  rfl
theorem cellOf_bool {ad : Nat → Nat} {cy : Nat → ClassId} {w : Wd} {q n : Nat} (h : SH q = (13, n)) : cellOf ad cy w q = .inl (cy 13, n, .inl (gi w q)) := by
  unfold cellOf
  rw [h]
  rfl
theorem cellOf_long {ad : Nat → Nat} {cy : Nat → ClassId} {w : Wd} {q n : Nat} (h : SH q = (12, n)) : cellOf ad cy w q = .inl (cy 12, n, .inr (.inl (gl w q))) := by
  unfold cellOf
  rw [h]
  rfl
theorem cellOf_rows {ad : Nat → Nat} {cy : Nat → ClassId} {w : Wd} {q n : Nat} (h : SH q = (14, n)) : cellOf ad cy w q = .inl (cy 14, n, .inr (.inr (.inr (.inr (fun i => if i < n then some (ad (q + 1 + i)) else none))))) := by
  unfold cellOf
  rw [h]
  rfl
theorem cellOf_rowsL {ad : Nat → Nat} {cy : Nat → ClassId} {w : Wd} {q n : Nat} (h : SH q = (15, n)) : cellOf ad cy w q = .inl (cy 15, n, .inr (.inr (.inr (.inr (fun i => if i < n then some (ad (q + 1 + i)) else none))))) := by
  unfold cellOf
  rw [h]
  rfl
theorem gi_si_ne {w : Wd} {q k : Nat} {v : Int32} {j : Nat} (h : j ≠ q) : gi (si w q k v) j = gi w j := by
  funext b
  show (if j = q ∧ b = k then v else w.1 j b) = w.1 j b
  rw [if_neg (fun e => h e.1)]
theorem gl_sl_ne {w : Wd} {q k : Nat} {v : Int64} {j : Nat} (h : j ≠ q) : gl (sl w q k v) j = gl w j := by
  funext b
  show (if j = q ∧ b = k then v else w.2.1 j b) = w.2.1 j b
  rw [if_neg (fun e => h e.1)]
theorem gr_sr_ne {w : Wd} {q k v : Nat} {j : Nat} (h : j ≠ q) : gr (sr w q k v) j = gr w j := by
  funext b
  show (if j = q ∧ b = k then v else w.2.2.1 j b) = w.2.2.1 j b
  rw [if_neg (fun e => h e.1)]
theorem gi_cpi_ne {w : Wd} {a p b o n : Nat} {j : Nat} (h : j ≠ b) : gi (cpi w a p b o n) j = gi w j := by
  funext y
  show (if j = b ∧ o ≤ y ∧ y < o + n then w.1 a (p + (y - o)) else w.1 j y) = w.1 j y
  rw [if_neg (fun e => h e.1)]
theorem gi_si_at (w : Wd) (q k : Nat) (v : Int32) : gi (si w q k v) q = upd (gi w q) k v := by
  funext b
  show (if q = q ∧ b = k then v else w.1 q b) = if b = k then v else w.1 q b
  simp
theorem gl_sl_at (w : Wd) (q k : Nat) (v : Int64) : gl (sl w q k v) q = vp_updL (gl w q) k v := by
  funext b
  show (if q = q ∧ b = k then v else w.2.1 q b) = if b = k then v else w.2.1 q b
  simp
/-- one cell is written: the world goes along -/
theorem Rel.put {E : Ev} {G : Nat → Prop} {w w1 : Wd} {H H1 : Heap} {q : Nat} (hR : Rel E G w H) (z : H1.size = H.size) (oq : ∀ a : Nat, a ≠ E.2.2.2 + q → H1[a]? = H[a]?) (hn : gn w1 = gn w) (hat : va_at E.1 vwCl (E.2.2.2 + q, cellOf E.2.1 E.2.2.1 w1 q) H1) (hne : ∀ j, j ≠ q → cellOf E.2.1 E.2.2.1 w1 j = cellOf E.2.1 E.2.2.1 w j) (hF : ∀ o, G o → Whl w o → Whl w1 o) : Rel E G w1 H1 := by
  refine ⟨by rw [z, hn]; exact hR.1, fun j hj => ?_, fun o ho => hF o ho (hR.2.2 o ho)⟩
  rw [hn] at hj
  by_cases e : j = q
  · rw [e]; exact hat
  · rw [hne j e]
    exact (hR.2.1 j hj).kept (oq _ (by show E.2.2.2 + j ≠ E.2.2.2 + q; omega))
theorem S_put {B : Nat} {H0 H H1 : Heap} {locs : List Loc} {a k : Nat} (h : va_S (fun q => B ≤ q) H0 H locs) (z : H1.size = H.size) (oq : ∀ q : Nat, q ≠ a → H1[q]? = H[q]?) (ha : B ≤ a) : va_S (fun q => B ≤ q) H0 H1 (locs ++ [⟨a, k⟩]) := h.put z oq ha
section RLH
variable {X : Cx} {R : Type} {enc : R → Option Value} {cu su pc : Nat} {lv lv' : List (Nat × Value)} {st : List Value} {k : M R} {own : String} {cc : ByteArray} {ret : Option FieldType}
theorem Good.K (hX : Good X own cc ret) : va_K (cxV X).1 vwCl (tysOf (cxV X).2.2.1) (cxS X) := hX.2.2.2.2.2.2.2.1
theorem Good.ad (hX : Good X own cc ret) {q : Nat} (h : q < 1000) : cxAd X q = cxBs X + q := hX.2.2.2.2.2.2.2.2.1 q h
theorem Good.ts (hX : Good X own cc ret) : ∀ w ∈ wsL_law, w.before (cxA X) (cxS X) = true := hX.2.2.2.2.1
theorem Good.ow (hX : Good X own cc ret) : (cxS X).vm.findClass own = some (cxM X).cls := hX.2.2.2.1
variable {q ci k0 N index n : Nat} {C : String} {T : u_T}
theorem tr_getI {K : Int32 → M R} (hX : Good X own cc ret) (hd : decode cc pc = .ok (.getfield index, 3)) (hs : SH q = (ci, N)) (hci : ci < 10) (hc : vwCl[ci]? = some (C, T, N)) (hin : ∀ w ∈ u_ws C T N, w ∈ wsL_law) (hk : k0 < N) (hf : (fkinds ci)[k0]? = some 0) (hx : Ex (cxG X) q) (hw : Cond.fieldLink own index (T k0).1 (T k0).2.1 (T k0).2.2.1 ∈ wsL_law) (h : ∀ v, Tr X enc cu su (pc + 3) lv (.int v :: st) (K v)) : Tr X enc cu su pc lv (.ref (cxAd X q) :: st) (rI q k0 K) := by
  intro H locs ls w r w' hl hR hS hk'
  have hat := hR.2.1 q (hx.lt hR)
  rw [cellOf_obj hs hci] at hat
  rw [hX.ad hx.small]
  exact va_get hX.1 hX.2.1 hX.ts hin hX.ow hX.K (va_P1 hat) 0 rfl hc k0 hk (hX.ts _ hw) (fun _ h => h) (v := .int (gi w q k0)) (by rw [fvl_get _ 0 k0 0 hf]; simp [fv]) hd (h _ H locs ls w r w' hl hR hS hk')
theorem tr_getL {K : Int64 → M R} (hX : Good X own cc ret) (hd : decode cc pc = .ok (.getfield index, 3)) (hs : SH q = (ci, N)) (hci : ci < 10) (hc : vwCl[ci]? = some (C, T, N)) (hin : ∀ w ∈ u_ws C T N, w ∈ wsL_law) (hk : k0 < N) (hf : (fkinds ci)[k0]? = some 1) (hx : Ex (cxG X) q) (hw : Cond.fieldLink own index (T k0).1 (T k0).2.1 (T k0).2.2.1 ∈ wsL_law) (h : ∀ v, Tr X enc cu su (pc + 3) lv (.long v :: st) (K v)) : Tr X enc cu su pc lv (.ref (cxAd X q) :: st) (rL q k0 K) := by
  intro H locs ls w r w' hl hR hS hk'
  have hat := hR.2.1 q (hx.lt hR)
  rw [cellOf_obj hs hci] at hat
  rw [hX.ad hx.small]
  exact va_get hX.1 hX.2.1 hX.ts hin hX.ow hX.K (va_P1 hat) 0 rfl hc k0 hk (hX.ts _ hw) (fun _ h => h) (v := .long (gl w q k0)) (by rw [fvl_get _ 0 k0 1 hf]; simp [fv]) hd (h _ H locs ls w r w' hl hR hS hk')
/-- a final reference of an object that is made whole -/
theorem tr_getF {a : Nat} (hX : Good X own cc ret) (hd : decode cc pc = .ok (.getfield index, 3)) (hs : SH q = (ci, N)) (hci : ci < 10) (hc : vwCl[ci]? = some (C, T, N)) (hin : ∀ w ∈ u_ws C T N, w ∈ wsL_law) (hk : k0 < N) (hf : (fkinds ci)[k0]? = some 2) (hG : cxG X q) (ha : (k0, a) ∈ CR q) (hw : Cond.fieldLink own index (T k0).1 (T k0).2.1 (T k0).2.2.1 ∈ wsL_law) (hq : q ≤ mx q) (h : Tr X enc cu su (pc + 3) lv (.ref (cxAd X a) :: st) k) : Tr X enc cu su pc lv (.ref (cxAd X q) :: st) k := by
  intro H locs ls w r w' hl hR hS hk'
  have hx : Ex (cxG X) q := ⟨q, hG, hq⟩
  have hat := hR.2.1 q (hx.lt hR)
  rw [cellOf_obj hs hci] at hat
  rw [hX.ad hx.small]
  have e : gr w q k0 = a + 1 := (hR.2.2 q hG).2.2 _ ha
  exact va_get hX.1 hX.2.1 hX.ts hin hX.ow hX.K (va_P1 hat) 0 rfl hc k0 hk (hX.ts _ hw) (fun _ h => h) (v := .ref (cxAd X a)) (by rw [fvl_get _ 0 k0 2 hf]; simp [fv, va_rn, e]) hd (h H locs ls w r w' hl hR hS hk')
/-- a reference to a Tongue -/
theorem tr_getT {K : Nat → M R} (hX : Good X own cc ret) (hd : decode cc pc = .ok (.getfield index, 3)) (hs : SH q = (ci, N)) (hci : ci < 10) (hc : vwCl[ci]? = some (C, T, N)) (hin : ∀ w ∈ u_ws C T N, w ∈ wsL_law) (hk : k0 < N) (hf : (fkinds ci)[k0]? = some 2) (hx : Ex (cxG X) q) (hw : Cond.fieldLink own index (T k0).1 (T k0).2.1 (T k0).2.2.1 ∈ wsL_law) (h : ∀ t, isT t → Tr X enc cu su (pc + 3) lv (.ref (cxAd X t) :: st) (K t)) : Tr X enc cu su pc lv (.ref (cxAd X q) :: st) (rT q k0 K) := by
  intro H locs ls w r w' hl hR hS hk'
  have hat := hR.2.1 q (hx.lt hR)
  rw [cellOf_obj hs hci] at hat
  rw [hX.ad hx.small]
  unfold rT at hk'
  split at hk'
  · rename_i hT
    have hne : gr w q k0 ≠ 0 := by omega
    exact va_get hX.1 hX.2.1 hX.ts hin hX.ow hX.K (va_P1 hat) 0 rfl hc k0 hk (hX.ts _ hw) (fun _ h => h) (v := .ref (cxAd X (gr w q k0 - 1))) (by rw [fvl_get _ 0 k0 2 hf]; simp [fv, va_rn, hne]) hd (h (gr w q k0 - 1) (by unfold isT; omega) H locs ls w r w' hl hR hS hk')
  · cases hk'
theorem tr_iald {i : Int32} {K : Int32 → M R} (hX : Good X own cc ret) (hd : decode cc pc = .ok (.iaload, 1)) (hs : SH q = (11, n)) (hx : Ex (cxG X) q) (h : inb i n → ∀ v, Tr X enc cu su (pc + 1) lv (.int v :: st) (K v)) : Tr X enc cu su pc lv (.int i :: .ref (cxAd X q) :: st) (aI q n i K) := by
  intro H locs ls w r w' hl hR hS hk'
  have hat := hR.2.1 q (hx.lt hR)
  rw [cellOf_int hs] at hat
  rw [hX.ad hx.small]
  unfold aI gd at hk'
  split at hk'
  · rename_i hb
    exact va_iald hX.1 hX.2.1 hX.K (va_P1 hat) 0 1 rfl rfl hb hd (h hb _ H locs ls w r w' hl hR hS hk')
  · cases hk'
theorem tr_bald {i : Int32} {K : Int32 → M R} (hX : Good X own cc ret) (hd : decode cc pc = .ok (.baload, 1)) (hs : SH q = (10, n)) (hx : Ex (cxG X) q) (h : inb i n → ∀ v, Tr X enc cu su (pc + 1) lv (.int v :: st) (K v)) : Tr X enc cu su pc lv (.int i :: .ref (cxAd X q) :: st) (aI q n i K) := by
  intro H locs ls w r w' hl hR hS hk'
  have hat := hR.2.1 q (hx.lt hR)
  rw [cellOf_byte hs] at hat
  rw [hX.ad hx.small]
  unfold aI gd at hk'
  split at hk'
  · rename_i hb
    exact va_bald hX.1 hX.2.1 hX.K (va_P1 hat) 0 0 rfl rfl hb hd (h hb _ H locs ls w r w' hl hR hS hk')
  · cases hk'
theorem tr_zald {i : Int32} {K : Int32 → M R} (hX : Good X own cc ret) (hd : decode cc pc = .ok (.baload, 1)) (hs : SH q = (13, n)) (hx : Ex (cxG X) q) (h : inb i n → ∀ v, Tr X enc cu su (pc + 1) lv (.int v :: st) (K v)) : Tr X enc cu su pc lv (.int i :: .ref (cxAd X q) :: st) (aI q n i K) := by
  intro H locs ls w r w' hl hR hS hk'
  have hat := hR.2.1 q (hx.lt hR)
  rw [cellOf_bool hs] at hat
  rw [hX.ad hx.small]
  unfold aI gd at hk'
  split at hk'
  · rename_i hb
    exact va_zald hX.1 hX.2.1 hX.K (va_P1 hat) 0 3 rfl rfl hb hd (h hb _ H locs ls w r w' hl hR hS hk')
  · cases hk'
theorem tr_lald {i : Int32} {K : Int64 → M R} (hX : Good X own cc ret) (hd : decode cc pc = .ok (.laload, 1)) (hs : SH q = (12, n)) (hx : Ex (cxG X) q) (h : inb i n → ∀ v, Tr X enc cu su (pc + 1) lv (.long v :: st) (K v)) : Tr X enc cu su pc lv (.int i :: .ref (cxAd X q) :: st) (aL q n i K) := by
  intro H locs ls w r w' hl hR hS hk'
  have hat := hR.2.1 q (hx.lt hR)
  rw [cellOf_long hs] at hat
  rw [hX.ad hx.small]
  unfold aL gd at hk'
  split at hk'
  · rename_i hb
    exact va_lald hX.1 hX.2.1 hX.K (va_P1 hat) 0 2 rfl rfl hb hd (h hb _ H locs ls w r w' hl hR hS hk')
  · cases hk'
/-- a row of a grid -/
theorem tr_aald {i : Int32} (hX : Good X own cc ret) (hd : decode cc pc = .ok (.aaload, 1)) (hs : SH q = (14, n)) (hx : Ex (cxG X) q) (h : inb i n → Tr X enc cu su (pc + 1) lv (.ref (cxAd X (q + 1 + i.toNatClampNeg)) :: st) k) : Tr X enc cu su pc lv (.int i :: .ref (cxAd X q) :: st) (gd (inb i n) k) := by
  intro H locs ls w r w' hl hR hS hk'
  have hat := hR.2.1 q (hx.lt hR)
  rw [cellOf_rows hs] at hat
  rw [hX.ad hx.small]
  unfold gd at hk'
  split at hk'
  · rename_i hb
    have hlt : i.toNatClampNeg < n := Nat.not_le.mp fun z => hb (Or.inr z)
    refine W.aald (v := .ref (cxAd X (q + 1 + i.toNatClampNeg))) (ty := .array .int) hX.1 hX.2.1 hat ((hX.K.2 4 _ rfl).1 n (fun j => va_rf (if j < n then some (cxAd X (q + 1 + j)) else none))) rfl (fun z => by cases z) (by show ¬ (i < 0 ∨ (arrV _ _ _).slots.size ≤ _); rw [arrV_size]; exact hb) (by show (arrV _ _ _).slots[_]? = _; rw [arrV_read _ _ hlt]; simp [hlt, va_rf]) rfl rfl hd (h hb H locs ls w r w' hl hR hS hk')
  · cases hk'
theorem tr_aaldL {i : Int32} (hX : Good X own cc ret) (hd : decode cc pc = .ok (.aaload, 1)) (hs : SH q = (15, n)) (hx : Ex (cxG X) q) (h : inb i n → Tr X enc cu su (pc + 1) lv (.ref (cxAd X (q + 1 + i.toNatClampNeg)) :: st) k) : Tr X enc cu su pc lv (.int i :: .ref (cxAd X q) :: st) (gd (inb i n) k) := by
  intro H locs ls w r w' hl hR hS hk'
  have hat := hR.2.1 q (hx.lt hR)
  rw [cellOf_rowsL hs] at hat
  rw [hX.ad hx.small]
  unfold gd at hk'
  split at hk'
  · rename_i hb
    have hlt : i.toNatClampNeg < n := Nat.not_le.mp fun z => hb (Or.inr z)
    refine W.aald (v := .ref (cxAd X (q + 1 + i.toNatClampNeg))) (ty := .array .long) hX.1 hX.2.1 hat ((hX.K.2 5 _ rfl).1 n (fun j => va_rf (if j < n then some (cxAd X (q + 1 + j)) else none))) rfl (fun z => by cases z) (by show ¬ (i < 0 ∨ (arrV _ _ _).slots.size ≤ _); rw [arrV_size]; exact hb) (by show (arrV _ _ _).slots[_]? = _; rw [arrV_read _ _ hlt]; simp [hlt, va_rf]) rfl rfl hd (h hb H locs ls w r w' hl hR hS hk')
  · cases hk'
theorem tr_iast {i x : Int32} (hX : Good X own cc ret) (hd : decode cc pc = .ok (.iastore, 1)) (hs : SH q = (11, n)) (hx : Ex (cxG X) q) (h : inb i n → Tr X enc cu su (pc + 1) lv st k) : Tr X enc cu su pc lv (.int x :: .int i :: .ref (cxAd X q) :: st) (sI q n i x k) := by
  intro H locs ls w r w' hl hR hS hk'
  have hat := hR.2.1 q (hx.lt hR)
  rw [cellOf_int hs] at hat
  rw [hX.ad hx.small]
  unfold sI gd at hk'
  split at hk'
  · rename_i hb
    refine W.iast hX.1 hX.2.1 hat ((hX.K.2 1 _ rfl).1 n (fun j => .int (gi w q j))) (fun z => by cases z) (by show ¬ (i < 0 ∨ (arrV _ _ _).slots.size ≤ _); rw [arrV_size]; exact hb) rfl rfl hd fun H1 e z oq => ?_
    refine h hb H1 _ ls (si w q i.toNatClampNeg x) r w' hl (hR.put z oq rfl ?_ (fun j hj => cellOf_congr (gi_si_ne hj) rfl rfl) (fun o _ h => h)) (S_put hS z oq (Nat.le_add_right _ _)) hk'
    rw [cellOf_int hs]
    show H1[_]? = some (vp_cell _ _)
    rw [e, vp_cell_i, vp_cell_i, arrV_store, gi_si_at]
    congr 2
    funext j
    by_cases hj : j = i.toNatClampNeg
    · subst hj
      simp [updV, upd]
    · simp [updV, upd, hj]
  · cases hk'
theorem tr_bast {i x : Int32} (hX : Good X own cc ret) (hd : decode cc pc = .ok (.bastore, 1)) (hs : SH q = (10, n)) (hx : Ex (cxG X) q) (h : inb i n → Tr X enc cu su (pc + 1) lv st k) : Tr X enc cu su pc lv (.int x :: .int i :: .ref (cxAd X q) :: st) (sI q n i (vp_nar .byte x) k) := by
  intro H locs ls w r w' hl hR hS hk'
  have hat := hR.2.1 q (hx.lt hR)
  rw [cellOf_byte hs] at hat
  rw [hX.ad hx.small]
  unfold sI gd at hk'
  split at hk'
  · rename_i hb
    refine W.bast hX.1 hX.2.1 hat ((hX.K.2 0 _ rfl).1 n (fun j => .int (gi w q j))) (fun z => by cases z) (by show ¬ (i < 0 ∨ (arrV _ _ _).slots.size ≤ _); rw [arrV_size]; exact hb) rfl rfl hd fun H1 e z oq => ?_
    refine h hb H1 _ ls (si w q i.toNatClampNeg (vp_nar .byte x)) r w' hl (hR.put z oq rfl ?_ (fun j hj => cellOf_congr (gi_si_ne hj) rfl rfl) (fun o _ h => h)) (S_put hS z oq (Nat.le_add_right _ _)) hk'
    rw [cellOf_byte hs]
    show H1[_]? = some (vp_cell _ _)
    rw [e, vp_cell_i, vp_cell_i, arrV_store, gi_si_at]
    congr 2
    funext j
    by_cases hj : j = i.toNatClampNeg
    · subst hj
      simp [updV, upd]
      rfl
    · simp [updV, upd, hj]
  · cases hk'
theorem tr_zast {i x : Int32} (hX : Good X own cc ret) (hd : decode cc pc = .ok (.bastore, 1)) (hs : SH q = (13, n)) (hx : Ex (cxG X) q) (h : inb i n → Tr X enc cu su (pc + 1) lv st k) : Tr X enc cu su pc lv (.int x :: .int i :: .ref (cxAd X q) :: st) (sI q n i (vp_nar .boolean x) k) := by
  intro H locs ls w r w' hl hR hS hk'
  have hat := hR.2.1 q (hx.lt hR)
  rw [cellOf_bool hs] at hat
  rw [hX.ad hx.small]
  unfold sI gd at hk'
  split at hk'
  · rename_i hb
    refine W.zast hX.1 hX.2.1 hat ((hX.K.2 3 _ rfl).1 n (fun j => .int (gi w q j))) (fun z => by cases z) (by show ¬ (i < 0 ∨ (arrV _ _ _).slots.size ≤ _); rw [arrV_size]; exact hb) rfl rfl hd fun H1 e z oq => ?_
    refine h hb H1 _ ls (si w q i.toNatClampNeg (vp_nar .boolean x)) r w' hl (hR.put z oq rfl ?_ (fun j hj => cellOf_congr (gi_si_ne hj) rfl rfl) (fun o _ h => h)) (S_put hS z oq (Nat.le_add_right _ _)) hk'
    rw [cellOf_bool hs]
    show H1[_]? = some (vp_cell _ _)
    rw [e, vp_cell_i, vp_cell_i, arrV_store, gi_si_at]
    congr 2
    funext j
    by_cases hj : j = i.toNatClampNeg
    · subst hj
      simp [updV, upd]
      rfl
    · simp [updV, upd, hj]
  · cases hk'
theorem tr_last {i : Int32} {x : Int64} (hX : Good X own cc ret) (hd : decode cc pc = .ok (.lastore, 1)) (hs : SH q = (12, n)) (hx : Ex (cxG X) q) (h : inb i n → Tr X enc cu su (pc + 1) lv st k) : Tr X enc cu su pc lv (.long x :: .int i :: .ref (cxAd X q) :: st) (sL q n i x k) := by
  intro H locs ls w r w' hl hR hS hk'
  have hat := hR.2.1 q (hx.lt hR)
  rw [cellOf_long hs] at hat
  rw [hX.ad hx.small]
  unfold sL gd at hk'
  split at hk'
  · rename_i hb
    refine W.last hX.1 hX.2.1 hat ((hX.K.2 2 _ rfl).1 n (fun j => .long (gl w q j))) (fun z => by cases z) (by show ¬ (i < 0 ∨ (arrV _ _ _).slots.size ≤ _); rw [arrV_size]; exact hb) rfl rfl hd fun H1 e z oq => ?_
    refine h hb H1 _ ls (sl w q i.toNatClampNeg x) r w' hl (hR.put z oq rfl ?_ (fun j hj => cellOf_congr rfl (gl_sl_ne hj) rfl) (fun o _ h => h)) (S_put hS z oq (Nat.le_add_right _ _)) hk'
    rw [cellOf_long hs]
    show H1[_]? = some (vp_cell _ _)
    rw [e, vp_cell_l, vp_cell_l, arrV_store, gl_sl_at]
    congr 2
    funext j
    by_cases hj : j = i.toNatClampNeg
    · subst hj
      simp [updV, vp_updL]
    · simp [updV, vp_updL, hj]
  · cases hk'
end RLH
