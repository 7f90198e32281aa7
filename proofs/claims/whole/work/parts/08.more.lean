/-! field writes, the library's methods, statics, switches -/
theorem fk_len : ∀ ci, ci < 10 → ∀ C T N, vwCl[ci]? = some (C, T, N) → (fkinds ci).length = N := by
  intro ci hci C T N h
  rcases (by omega : ci = 0 ∨ ci = 1 ∨ ci = 2 ∨ ci = 3 ∨ ci = 4 ∨ ci = 5 ∨ ci = 6 ∨ ci = 7 ∨ ci = 8 ∨ ci = 9) with rfl | rfl | rfl | rfl | rfl | rfl | rfl | rfl | rfl | rfl <;> (cases h; rfl)
section RLM
variable {X : Cx} {R : Type} {enc : R → Option Value} {cu su pc : Nat} {lv lv' : List (Nat × Value)} {st : List Value} {k : M R} {own : String} {cc : ByteArray} {ret : Option FieldType}
variable {q ci k0 N index n : Nat} {C : String} {T : u_T}
/-- a field is written: what the object's cell is then -/
theorem put_cell {w w1 : Wd} {H1 : Heap} {cell : Cell} {t0 : Nat} {v : Value} (hX : Good X own cc ret) (hs : SH q = (ci, N)) (hci : ci < 10) (hc : vwCl[ci]? = some (C, T, N)) (hin : ∀ w ∈ u_ws C T N, w ∈ wsL_law) (ty0 : Nat → FieldType) (hty : ∀ k, k < N → parseFieldDescriptor (T k).2.2.1 = some (ty0 k)) (hnm : ∀ a, a < N → ∀ b, b < N → a ≠ b → (T a).2.1 ≠ (T b).2.1) (hk : k0 < N) (hf : (fkinds ci)[k0]? = some t0)
    (q2 : cell.cls = (cxV X).1.1 ci) (q3 : cell.vm = .none) (q4 : ∀ j, j < N → cell.slots[(cxV X).1.2 ci j]? = some (vp_V (fvl (cxAd X) w q 0 (fkinds ci)) j)) (e1 : H1[cxBs X + q]? = some (cell.setSlot ((cxV X).1.2 ci k0) v))
    (hv : fv (cxAd X) w1 q k0 t0 = v) (hne : ∀ j t, j ≠ k0 → fv (cxAd X) w1 q j t = fv (cxAd X) w q j t) : va_at (cxV X).1 vwCl (cxBs X + q, cellOf (cxV X).2.1 (cxV X).2.2.1 w1 q) H1 := by
  rw [cellOf_obj hs hci]
  have hap := va_apart (own := own) hX.ts hin ty0 hty hnm hX.K hc
  refine ⟨_, hc, t_OB.to (V := updV (vp_V (fvl (cxAd X) w q 0 (fkinds ci))) k0 v) ⟨_, e1, q2, q3, t_set q4 hap hk v⟩ (fun j hj => ?_)⟩
  have hlen := fk_len ci hci C T N hc
  obtain ⟨t, ht⟩ : ∃ t, (fkinds ci)[j]? = some t := ⟨_, List.getElem?_eq_getElem (by rw [hlen]; exact hj)⟩
  rw [fvl_V ht]
  unfold updV
  by_cases e : j = k0
  · subst e
    rw [if_pos rfl]
    cases hf.symm.trans ht
    exact hv.symm
  · rw [if_neg e, fvl_V ht, hne j t e]
theorem tr_putI {x : Int32} {ty : FieldType} (hX : Good X own cc ret) (hd : decode cc pc = .ok (.putfield index, 3)) (hs : SH q = (ci, N)) (hci : ci < 10) (hc : vwCl[ci]? = some (C, T, N)) (hin : ∀ w ∈ u_ws C T N, w ∈ wsL_law) (ty0 : Nat → FieldType) (hty : ∀ k, k < N → parseFieldDescriptor (T k).2.2.1 = some (ty0 k)) (hnm : ∀ a, a < N → ∀ b, b < N → a ≠ b → (T a).2.1 ≠ (T b).2.1) (hk : k0 < N) (hf : (fkinds ci)[k0]? = some 0) (hx : Ex (cxG X) q) (hw : Cond.fieldLink own index (T k0).1 (T k0).2.1 (T k0).2.2.1 ∈ wsL_law) (hfin : (T k0).2.2.2 = false) (hp : parseFieldDescriptor (T k0).2.2.1 = some ty) (hn : narrow ty (.int x) = .int x) (hfit : fits ty (.int x) = true)
    (h : Tr X enc cu su (pc + 3) lv st k) : Tr X enc cu su pc lv (.int x :: .ref (cxAd X q) :: st) (wI q k0 x k) := by
  intro H locs ls w r w' hl hR hS hk'
  have hat := hR.2.1 q (hx.lt hR)
  rw [cellOf_obj hs hci] at hat
  rw [hX.ad hx.small]
  obtain ⟨r0, h1, cell, q1, q2, q3, q4⟩ := hat
  have hr : r0 = (C, T, N) := Option.some.inj (h1.symm.trans hc)
  subst hr
  obtain ⟨hSl, hfc, kC, hkC, hkind⟩ := hX.K.1 ci _ hc
  obtain ⟨cf, kf, fi, f, hi, hsl⟩ := hSl k0 hk
  have hlay := hX.ts _ (hin _ (u_in_lay hk))
  unfold u_lay at hlay
  rw [if_neg (by rw [hfin]; decide)] at hlay
  have hst := (u_facts hfc hkC (u_lays hX.ts hin hk) hi).1
  have h6 := u_store hfc hkC hkind hlay hi hp hn hfit
  refine W.putK hX.1 hX.2.1 (f := f) ⟨hX.ow, hX.ts _ hw, ⟨_, _, _, hi⟩, hst⟩ (by rw [q2]; exact h6) q1 q3 (by rw [hsl]; exact k2_hasslot (q4 k0 hk)) rfl rfl hd fun H1 e1 e2 e3 => ?_
  rw [hsl] at e1 ⊢
  refine h H1 _ ls (si w q k0 x) r w' hl (hR.put e2 e3 rfl (put_cell hX hs hci hc hin ty0 hty hnm hk hf q2 q3 q4 e1 ?_ ?_) (fun j hj => cellOf_congr (gi_si_ne hj) rfl rfl) (fun o _ h => h)) (S_put hS e2 e3 (Nat.le_add_right _ _)) hk'
  · simp [fv, gi, si, up2]
  · intro j t hj
    simp [fv, gi, gl, gr, si, up2, hj]
theorem tr_putL {x : Int64} {ty : FieldType} (hX : Good X own cc ret) (hd : decode cc pc = .ok (.putfield index, 3)) (hs : SH q = (ci, N)) (hci : ci < 10) (hc : vwCl[ci]? = some (C, T, N)) (hin : ∀ w ∈ u_ws C T N, w ∈ wsL_law) (ty0 : Nat → FieldType) (hty : ∀ k, k < N → parseFieldDescriptor (T k).2.2.1 = some (ty0 k)) (hnm : ∀ a, a < N → ∀ b, b < N → a ≠ b → (T a).2.1 ≠ (T b).2.1) (hk : k0 < N) (hf : (fkinds ci)[k0]? = some 1) (hx : Ex (cxG X) q) (hw : Cond.fieldLink own index (T k0).1 (T k0).2.1 (T k0).2.2.1 ∈ wsL_law) (hfin : (T k0).2.2.2 = false) (hp : parseFieldDescriptor (T k0).2.2.1 = some ty) (hn : narrow ty (.long x) = .long x) (hfit : fits ty (.long x) = true)
    (h : Tr X enc cu su (pc + 3) lv st k) : Tr X enc cu su pc lv (.long x :: .ref (cxAd X q) :: st) (wL q k0 x k) := by
  intro H locs ls w r w' hl hR hS hk'
  have hat := hR.2.1 q (hx.lt hR)
  rw [cellOf_obj hs hci] at hat
  rw [hX.ad hx.small]
  obtain ⟨r0, h1, cell, q1, q2, q3, q4⟩ := hat
  have hr : r0 = (C, T, N) := Option.some.inj (h1.symm.trans hc)
  subst hr
  obtain ⟨hSl, hfc, kC, hkC, hkind⟩ := hX.K.1 ci _ hc
  obtain ⟨cf, kf, fi, f, hi, hsl⟩ := hSl k0 hk
  have hlay := hX.ts _ (hin _ (u_in_lay hk))
  unfold u_lay at hlay
  rw [if_neg (by rw [hfin]; decide)] at hlay
  have hst := (u_facts hfc hkC (u_lays hX.ts hin hk) hi).1
  have h6 := u_store hfc hkC hkind hlay hi hp hn hfit
  refine W.putK hX.1 hX.2.1 (f := f) ⟨hX.ow, hX.ts _ hw, ⟨_, _, _, hi⟩, hst⟩ (by rw [q2]; exact h6) q1 q3 (by rw [hsl]; exact k2_hasslot (q4 k0 hk)) rfl rfl hd fun H1 e1 e2 e3 => ?_
  rw [hsl] at e1 ⊢
  refine h H1 _ ls (sl w q k0 x) r w' hl (hR.put e2 e3 rfl (put_cell hX hs hci hc hin ty0 hty hnm hk hf q2 q3 q4 e1 ?_ ?_) (fun j hj => cellOf_congr rfl (gl_sl_ne hj) rfl) (fun o _ h => h)) (S_put hS e2 e3 (Nat.le_add_right _ _)) hk'
  · simp [fv, gl, sl, up2]
  · intro j t hj
    simp [fv, gi, gl, gr, sl, up2, hj]
/-- a reference that may change -/
theorem tr_putT {a : Nat} {ty : FieldType} (hX : Good X own cc ret) (hd : decode cc pc = .ok (.putfield index, 3)) (hs : SH q = (ci, N)) (hci : ci < 10) (hc : vwCl[ci]? = some (C, T, N)) (hin : ∀ w ∈ u_ws C T N, w ∈ wsL_law) (ty0 : Nat → FieldType) (hty : ∀ k, k < N → parseFieldDescriptor (T k).2.2.1 = some (ty0 k)) (hnm : ∀ a, a < N → ∀ b, b < N → a ≠ b → (T a).2.1 ≠ (T b).2.1) (hk : k0 < N) (hf : (fkinds ci)[k0]? = some 2) (hx : Ex (cxG X) q) (hw : Cond.fieldLink own index (T k0).1 (T k0).2.1 (T k0).2.2.1 ∈ wsL_law) (hfin : (T k0).2.2.2 = false) (hp : parseFieldDescriptor (T k0).2.2.1 = some ty) (hn : narrow ty (.ref (cxAd X a)) = .ref (cxAd X a)) (hfit : fits ty (.ref (cxAd X a)) = true) (hcr : ∀ p ∈ CR q, p.1 ≠ k0)
    (h : Tr X enc cu su (pc + 3) lv st k) : Tr X enc cu su pc lv (.ref (cxAd X a) :: .ref (cxAd X q) :: st) (wR q k0 a k) := by
  intro H locs ls w r w' hl hR hS hk'
  have hat := hR.2.1 q (hx.lt hR)
  rw [cellOf_obj hs hci] at hat
  rw [hX.ad hx.small]
  obtain ⟨r0, h1, cell, q1, q2, q3, q4⟩ := hat
  have hr : r0 = (C, T, N) := Option.some.inj (h1.symm.trans hc)
  subst hr
  obtain ⟨hSl, hfc, kC, hkC, hkind⟩ := hX.K.1 ci _ hc
  obtain ⟨cf, kf, fi, f, hi, hsl⟩ := hSl k0 hk
  have hlay := hX.ts _ (hin _ (u_in_lay hk))
  unfold u_lay at hlay
  rw [if_neg (by rw [hfin]; decide)] at hlay
  have hst := (u_facts hfc hkC (u_lays hX.ts hin hk) hi).1
  have h6 := u_store hfc hkC hkind hlay hi hp hn hfit
  refine W.putK hX.1 hX.2.1 (f := f) ⟨hX.ow, hX.ts _ hw, ⟨_, _, _, hi⟩, hst⟩ (by rw [q2]; exact h6) q1 q3 (by rw [hsl]; exact k2_hasslot (q4 k0 hk)) rfl rfl hd fun H1 e1 e2 e3 => ?_
  rw [hsl] at e1 ⊢
  refine h H1 _ ls (sr w q k0 (a + 1)) r w' hl (hR.put e2 e3 rfl (put_cell hX hs hci hc hin ty0 hty hnm hk hf q2 q3 q4 e1 ?_ ?_) (fun j hj => cellOf_congr rfl rfl (gr_sr_ne hj)) ?_) (S_put hS e2 e3 (Nat.le_add_right _ _)) hk'
  · simp [fv, gr, sr, up2, va_rn]
  · intro j t hj
    simp [fv, gi, gl, gr, sr, up2, hj]
  · intro o _ hF
    refine ⟨hF.1, hF.2.1, fun p hp => ?_⟩
    have := hF.2.2 p hp
    simp only [gr, sr, up2]
    by_cases e : o = q
    · subst e
      rw [if_neg (fun z => hcr p hp z.2)]
      exact this
    · rw [if_neg (fun z => e z.1)]
      exact this
/-- a final reference, in its constructor -/
theorem tr_putF {a : Nat} {ty : FieldType} (hX : Good X own cc ret) (hd : decode cc pc = .ok (.putfield index, 3)) (hs : SH q = (ci, N)) (hci : ci < 10) (hc : vwCl[ci]? = some (C, T, N)) (hin : ∀ w ∈ u_ws C T N, w ∈ wsL_law) (ty0 : Nat → FieldType) (hty : ∀ k, k < N → parseFieldDescriptor (T k).2.2.1 = some (ty0 k)) (hnm : ∀ a, a < N → ∀ b, b < N → a ≠ b → (T a).2.1 ≠ (T b).2.1) (hk : k0 < N) (hf : (fkinds ci)[k0]? = some 2) (hw : Cond.fieldLink own index (T k0).1 (T k0).2.1 (T k0).2.2.1 ∈ wsL_law) (hfin : (T k0).2.2.2 = true) (hmn : (cxMe X).name = "<init>") (hdecl : (T k0).1 = own) (hp : parseFieldDescriptor (T k0).2.2.1 = some ty) (hn : narrow ty (.ref (cxAd X a)) = .ref (cxAd X a)) (hfit : fits ty (.ref (cxAd X a)) = true) (hq : q < 1000) (hG : ∀ o, ¬ cxG X o)
    (h : Tr X enc cu su (pc + 3) lv st k) : Tr X enc cu su pc lv (.ref (cxAd X a) :: .ref (cxAd X q) :: st) (fun w => if q < gn w then wR q k0 a k w else none) := by
  intro H locs ls w r w' hl hR hS hk'
  dsimp only at hk'
  split at hk'
  rotate_left
  · cases hk'
  rename_i hlt
  have hat := hR.2.1 q hlt
  rw [cellOf_obj hs hci] at hat
  rw [hX.ad hq]
  obtain ⟨r0, h1, cell, q1, q2, q3, q4⟩ := hat
  have hr : r0 = (C, T, N) := Option.some.inj (h1.symm.trans hc)
  subst hr
  obtain ⟨hSl, hfc, kC, hkC, hkind⟩ := hX.K.1 ci _ hc
  obtain ⟨cf, kf, fi, f, hi, hsl⟩ := hSl k0 hk
  have hlay := hX.ts _ (hin _ (u_in_lay hk))
  unfold u_lay at hlay
  rw [if_pos hfin] at hlay
  have hst := (u_facts hfc hkC (u_lays hX.ts hin hk) hi).1
  have hcf : (cxM X).cls = cf := by
    obtain ⟨_, _, c', _, _, _, -, -, hf', -, -, -, hown2, -⟩ := Cond.laysFinal_spec hlay
    have e1 : c' = cf := by have := hi.symm.trans hf'; simp at this; exact this.1.symm
    rw [hdecl] at hown2
    rw [← e1]; exact Option.some.inj (hX.ow.symm.trans hown2)
  have h6 := u_fits hfc hkC hkind (Or.inr hlay) hi hp hn hfit
  refine W.putFinK hX.1 hX.2.1 hX.ow (hX.ts _ hw) hi hst hcf hmn (by rw [q2]; exact h6) q1 q3 (by rw [hsl]; exact k2_hasslot (q4 k0 hk)) rfl rfl hd fun H1 e1 e2 e3 => ?_
  rw [hsl] at e1 ⊢
  refine h H1 _ ls (sr w q k0 (a + 1)) r w' hl (hR.put e2 e3 rfl (put_cell hX hs hci hc hin ty0 hty hnm hk hf q2 q3 q4 e1 ?_ ?_) (fun j hj => cellOf_congr rfl rfl (gr_sr_ne hj)) (fun o ho _ => (hG o ho).elim)) (S_put hS e2 e3 (Nat.le_add_right _ _)) hk'
  · simp [fv, gr, sr, up2, va_rn]
  · intro j t hj
    simp [fv, gi, gl, gr, sr, up2, hj]
variable {x y : Int32}
theorem tr_max (hX : Good X own cc ret) (hd : decode cc pc = .ok (.invokestatic index, 3)) (hw : Cond.methodLink own index Lib.Math.max.name ∈ wsL_law) (h2 : Cond.static Lib.Math.max.name ∈ wsL_law) (h3 : Cond.initialized "java/lang/Math" ∈ wsL_law) (h4 : Cond.code Lib.Math.max.name Lib.Math.max.code 2 (some .int) ∈ wsL_law) (hR1 : 1 ≤ (cxR X).frames) (hR2 : (st.map fun v => v.category).sum + 13 ≤ (cxR X).locals) (hR3 : cu ≤ (cxR X).cells) (hR4 : su ≤ (cxR X).slots) (h : Tr X enc cu su (pc + 3) lv (.int (if x < y then y else x) :: st) k) : Tr X enc cu su pc lv (.int y :: .int x :: st) k := fun H locs ls w r w' hl hR hS hk => va_mmax hX.1 hX.2.1 (by rw [hX.2.2.1, hl.1]) hX.ow (hX.ts _ hw) (hX.ts _ h2) (hX.ts _ h3) (hX.ts _ h4) hR1 hR2 hR3 hR4 hd (h H locs ls w r w' hl hR hS hk)
theorem tr_min (hX : Good X own cc ret) (hd : decode cc pc = .ok (.invokestatic index, 3)) (hw : Cond.methodLink own index Lib.Math.min.name ∈ wsL_law) (h2 : Cond.static Lib.Math.min.name ∈ wsL_law) (h3 : Cond.initialized "java/lang/Math" ∈ wsL_law) (h4 : Cond.code Lib.Math.min.name Lib.Math.min.code 2 (some .int) ∈ wsL_law) (hR1 : 1 ≤ (cxR X).frames) (hR2 : (st.map fun v => v.category).sum + 13 ≤ (cxR X).locals) (hR3 : cu ≤ (cxR X).cells) (hR4 : su ≤ (cxR X).slots) (h : Tr X enc cu su (pc + 3) lv (.int (if y < x then y else x) :: st) k) : Tr X enc cu su pc lv (.int y :: .int x :: st) k := fun H locs ls w r w' hl hR hS hk => va_mmin hX.1 hX.2.1 (by rw [hX.2.2.1, hl.1]) hX.ow (hX.ts _ hw) (hX.ts _ h2) (hX.ts _ h3) (hX.ts _ h4) hR1 hR2 hR3 hR4 hd (h H locs ls w r w' hl hR hS hk)
theorem tr_abs (hX : Good X own cc ret) (hd : decode cc pc = .ok (.invokestatic index, 3)) (hw : Cond.methodLink own index Lib.Math.abs.name ∈ wsL_law) (h2 : Cond.static Lib.Math.abs.name ∈ wsL_law) (h3 : Cond.initialized "java/lang/Math" ∈ wsL_law) (h4 : Cond.code Lib.Math.abs.name Lib.Math.abs.code 1 (some .int) ∈ wsL_law) (hR1 : 1 ≤ (cxR X).frames) (hR2 : (st.map fun v => v.category).sum + 13 ≤ (cxR X).locals) (hR3 : cu ≤ (cxR X).cells) (hR4 : su ≤ (cxR X).slots) (h : Tr X enc cu su (pc + 3) lv (.int (if 0 ≤ x then x else 0 - x) :: st) k) : Tr X enc cu su pc lv (.int x :: st) k := fun H locs ls w r w' hl hR hS hk => va_mabs hX.1 hX.2.1 (by rw [hX.2.2.1, hl.1]) hX.ow (hX.ts _ hw) (hX.ts _ h2) (hX.ts _ h3) (hX.ts _ h4) hR1 hR2 hR3 hR4 hd (h H locs ls w r w' hl hR hS hk)
/-- the three constant rows of Course -/
theorem tr_gets {j : Nat} (hX : Good X own cc ret) (hj : j < 3) (hd : decode cc pc = .ok (.getstatic index, 3)) (hw : Cond.fieldLink own index "SaidWoven$Course" (stN j) "[I" ∈ wsL_law) (h : Tr X enc cu su (pc + 3) lv (.ref (cxAd X (1000 + j)) :: st) k) : Tr X enc cu su pc lv st k := fun H locs ls w r w' hl hR hS hk => va_gets hX.1 hX.2.1 (hX.2.2.2.2.2.2.2.2.2.1 j hj).1 hS hX.ow (hX.ts _ hw) (fun _ h => h) hd (h H locs ls w r w' hl hR hS hk)
theorem tr_tald {p : Nat} {i : Int32} (hX : Good X own cc ret) (hd : decode cc pc = .ok (.iaload, 1)) (hp : isP p) (h : inb i (stL (p - 1000)) → Tr X enc cu su (pc + 1) lv (.int (stG (p - 1000) i.toNatClampNeg) :: st) k) : Tr X enc cu su pc lv (.int i :: .ref (cxAd X p) :: st) (gd (inb i (stL (p - 1000))) k) := by
  intro H locs ls w r w' hl hR hS hk'
  unfold gd at hk'
  split at hk'
  · rename_i hb
    have e : p = 1000 + (p - 1000) := by unfold isP at hp; omega
    have hT := (hX.2.2.2.2.2.2.2.2.2.1 (p - 1000) (by unfold isP at hp; omega)).2
    rw [← e] at hT
    exact va_ti hX.1 hX.2.1 hT hS hb rfl hd (h hb H locs ls w r w' hl hR hS hk')
  · cases hk'
theorem tr_tlen {j : Nat} {n : Int32} (hX : Good X own cc ret) (hj : j < 3) (hn : Int32.ofNat (stL j) = n) (hd : decode cc pc = .ok (.arraylength, 1)) (h : Tr X enc cu su (pc + 1) lv (.int n :: st) k) : Tr X enc cu su pc lv (.ref (cxAd X (1000 + j)) :: st) k := by
  intro H locs ls w r w' hl hR hS hk'
  exact va_tlen hX.1 hX.2.1 (hX.2.2.2.2.2.2.2.2.2.1 j hj).2 hS hn hd (h H locs ls w r w' hl hR hS hk')
/-- cases of a switch -/
theorem tr_case {k1 k2 : M R} (c : Int32) (h1 : x = c → Tr X enc cu su pc lv (.int x :: st) k1) (h2 : ¬ x = c → Tr X enc cu su pc lv (.int x :: st) k2) : Tr X enc cu su pc lv (.int x :: st) (if x = c then k1 else k2) := fun H locs ls w r w' hl hR hS hk => by
  by_cases e : x = c
  · exact h1 e H locs ls w r w' hl hR hS (ite_pos' e hk)
  · exact h2 e H locs ls w r w' hl hR hS (ite_neg' e hk)
theorem tr_tabIn {dflt lo hi : Int} {offs : Array Int} {len : Nat} {off : Int} (c : Int32) (tgt : Nat) (hX : Good X own cc ret) (hd : decode cc pc = .ok (.tableswitch dflt lo hi offs, len)) (hx : x = c) (h1 : ¬ c.toInt < lo) (h2 : ¬ hi < c.toInt) (ho : offs[(c.toInt - lo).toNat]? = some off) (ht : (pc : Int) + off = (tgt : Int)) (h : Tr X enc cu su tgt lv st k) : Tr X enc cu su pc lv (.int x :: st) k := fun H locs ls w r w' hl hR hS hk => by
  subst hx
  exact lv_tableIn hX.1 hX.2.1 hd h1 h2 ho ht (h H locs ls w r w' hl hR hS hk)
theorem tr_tabOut {dflt lo hi : Int} {offs : Array Int} {len : Nat} (tgt : Nat) (hX : Good X own cc ret) (hd : decode cc pc = .ok (.tableswitch dflt lo hi offs, len)) (hx : x.toInt < lo ∨ hi < x.toInt) (ht : (pc : Int) + dflt = (tgt : Int)) (h : Tr X enc cu su tgt lv st k) : Tr X enc cu su pc lv (.int x :: st) k := fun H locs ls w r w' hl hR hS hk => lv_tableOut hX.1 hX.2.1 hd hx ht (h H locs ls w r w' hl hR hS hk)
theorem tr_look {dflt : Int} {ps : Array (Int × Int)} {len : Nat} {off : Int} (tgt : Nat) (hX : Good X own cc ret) (hd : decode cc pc = .ok (.lookupswitch dflt ps, len)) (hp : (ps.toList.zip (ps.toList.drop 1)).all (fun (a, next) => a.1 < next.1) = true) (ho : Op.lookupswitch.offset ps.toList dflt x.toInt = off) (ht : (pc : Int) + off = (tgt : Int)) (h : Tr X enc cu su tgt lv st k) : Tr X enc cu su pc lv (.int x :: st) k := fun H locs ls w r w' hl hR hS hk => lv_lookup hX.1 hX.2.1 hd hp ho ht (h H locs ls w r w' hl hR hS hk)
/-- System.arraycopy of ints: what the machine's heap is then -/
theorem W_copyi {p : Program} {l : Launch} {e : Env} {Rm : Room} {s : State} {m : MethodId} {args : Array Value} {below : List Frame} {meth : Method} {c : Code} {H : Heap} {locs : List Loc} {cells slots : Nat} {Q : State → Prop} {ls : Array Slot} {rest : List Value} {D : va_G} {cls : List vw_C} {tys : List (ClassId × FieldType)} (hexec : p.tables.exec = Jvm.exec) (hb : c.code = cc) (hml : c.maxLocals = ls.size) (hown : s.vm.findClass own = some m.cls) (hlink : (Cond.methodLink own index arraycopyName).before args s = true) (hnat : (Cond.native arraycopyName).before args s = true) (hstat : (Cond.static arraycopyName).before args s = true) (hini : (Cond.initialized "java/lang/System").before args s = true)
    (hK : va_K D cls tys s) {a0 a1 : Nat} {c0 : ClassId} {n0 n1 : Nat} {f g : Nat → Int32} (hc0 : H[a0]? = some (vp_cell c0 (n0, .inl f))) (hc1 : H[a1]? = some (vp_cell c0 (n1, .inl g))) (ht : tys[1]? = some (c0, .int))
    {sp dp n : Int32} (h1 : ¬ sp < 0) (h2 : ¬ dp < 0) (h3 : ¬ n < 0) (h4 : sp.toNatClampNeg + n.toNatClampNeg ≤ n0) (h5 : dp.toNatClampNeg + n.toNatClampNeg ≤ n1)
    (hframes : 1 ≤ Rm.frames) (hlocals : (rest.map fun v => v.category).sum + (nativeFrameWords "java/lang/System" "arraycopy" 5 + 11) ≤ Rm.locals) (hdg : decode cc pc = .ok (.invokestatic index, 3))
    (kk : ∀ (H1 : Heap) (locs1 : List Loc), H1[a1]? = some (vp_cell c0 (n1, .inl (va_cpy f g sp.toNatClampNeg dp.toNatClampNeg n.toNatClampNeg))) → H1.size = H.size → (∀ q : Nat, q ≠ a1 → H1[q]? = H[q]?) → (∀ z ∈ locs1, z ∈ locs ∨ z.base = a1) → W p l e Rm s m args below meth c H1 locs1 cells slots Q (F0 m (pc + 3) ls rest)) : W p l e Rm s m args below meth c H locs cells slots Q (F0 m pc ls (.int n :: .int dp :: .ref a1 :: .int sp :: .ref a0 :: rest)) := by
  have nn : ∀ z : Int32, ¬ z < 0 → z.toInt = (z.toNatClampNeg : Int) := by
    intro z hz
    have hz0 : (0 : Int) ≤ z.toInt := by
      have := Int32.not_lt.mp hz
      simpa using Int32.le_iff_toInt_le.mp this
    show z.toInt = ((z.toInt.toNat : Nat) : Int)
    omega
  intro T hT X
  obtain ⟨-, k0, hk0, cm0, hkk0⟩ := (hK.2 1 _ ht).1 n0 (fun j => .int (f j))
  obtain ⟨vm', X', step⟩ := X.arraycopy hexec hown hlink hnat hstat hini (src := a0) (dst := a1) (cs := vp_cell c0 (n0, .inl f)) (cd := vp_cell c0 (n1, .inl g)) (srcPos := sp) (destPos := dp) (n := n) (by rw [hT]; exact hc0) (by rw [hT]; exact hc1)
    (fun _ h => by cases h) (fun _ h => by cases h) (fun h => by cases h) (fun h => by cases h) hk0 hk0 hkk0 hkk0 (by simp) h1 h2 h3
    (by rw [nn sp h1, nn n h3]; show ¬ _ > ((arrV c0 n0 (fun j => .int (f j))).slots.size : Int); rw [arrV_size]; omega)
    (by rw [nn dp h2, nn n h3]; show ¬ _ > ((arrV c0 n1 (fun j => .int (g j))).slots.size : Int); rw [arrV_size]; omega)
    (fun vm₁ _ i hi => by
      have e : (vp_cell c0 (n0, .inl f)).slots.getD (sp.toNatClampNeg + i) .null = .int (f (sp.toNatClampNeg + i)) := by
        show (arrV c0 n0 (fun j => .int (f j))).slots.getD _ _ = _
        rw [Array.getD_eq_getD_getElem?, arrV_read _ _ (by omega)]
        rfl
      refine ⟨?_, ?_⟩
      · rw [e]
        rfl
      · rw [e]
        exact trivial)
    (g := F0 m pc ls (.int n :: .int dp :: .ref a1 :: .int sp :: .ref a0 :: rest)) rfl (by rw [hml]) (rest := rest) rfl (by rw [hb]; exact hdg) hframes (by show 2 * 0 + _ + _ ≤ _; omega)
  have e1 : copied (vp_cell c0 (n0, .inl f)) (vp_cell c0 (n1, .inl g)) sp dp n = vp_cell c0 (n1, .inl (va_cpy f g sp.toNatClampNeg dp.toNatClampNeg n.toNatClampNeg)) := va_copied (fun z => .int z) c0 c0 f g h4
  rw [e1] at X' step
  have hl : a1 < H.size := (Array.getElem?_eq_some_iff.mp hc1).1
  have hheap : ((T.setVm vm').setCell a1 (vp_cell c0 (n1, .inl (va_cpy f g sp.toNatClampNeg dp.toNatClampNeg n.toNatClampNeg)))).heap = H.setIfInBounds a1 (vp_cell c0 (n1, .inl (va_cpy f g sp.toNatClampNeg dp.toNatClampNeg n.toNatClampNeg))) := by rw [← hT]; rfl
  obtain ⟨t, z1, b1⟩ := kk _ _ (show (H.setIfInBounds a1 _)[a1]? = some _ by simp [Array.getElem?_setIfInBounds, hl]) (by simp) (fun q hq => by simp [Array.getElem?_setIfInBounds, Ne.symm hq]) (fun z hz => by
      rcases List.mem_append.mp hz with h | h
      · exact Or.inl h
      · obtain ⟨z', -, hz'⟩ := List.mem_map.mp h
        exact Or.inr (by rw [← hz'])) _ hheap X'
  exact ⟨t, step t z1, b1⟩
theorem tr_copy {a b n0 n1 : Nat} {sp dp m : Int32} (hX : Good X own cc ret) (hd : decode cc pc = .ok (.invokestatic index, 3)) (hw : Cond.methodLink own index arraycopyName ∈ wsL_law) (h2 : Cond.native arraycopyName ∈ wsL_law) (h3 : Cond.static arraycopyName ∈ wsL_law) (h4 : Cond.initialized "java/lang/System" ∈ wsL_law) (hs0 : SH a = (11, n0)) (hs1 : SH b = (11, n1)) (hx0 : Ex (cxG X) a) (hx1 : Ex (cxG X) b)
    (h5 : ¬ sp < 0) (h6 : ¬ dp < 0) (h7 : ¬ m < 0) (h8 : sp.toNatClampNeg + m.toNatClampNeg ≤ n0) (h9 : dp.toNatClampNeg + m.toNatClampNeg ≤ n1) (hR1 : 1 ≤ (cxR X).frames) (hR2 : (st.map fun v => v.category).sum + (nativeFrameWords "java/lang/System" "arraycopy" 5 + 11) ≤ (cxR X).locals)
    (h : Tr X enc cu su (pc + 3) lv st k) : Tr X enc cu su pc lv (.int m :: .int dp :: .ref (cxAd X b) :: .int sp :: .ref (cxAd X a) :: st) (cp a sp.toNatClampNeg b dp.toNatClampNeg m.toNatClampNeg k) := by
  intro H locs ls w r w' hl hR hS hk'
  have hat0 := hR.2.1 a (hx0.lt hR)
  have hat1 := hR.2.1 b (hx1.lt hR)
  rw [cellOf_int hs0] at hat0
  rw [cellOf_int hs1] at hat1
  rw [hX.ad hx0.small, hX.ad hx1.small]
  refine W_copyi hX.1 hX.2.1 (by rw [hX.2.2.1, hl.1]) hX.ow (hX.ts _ hw) (hX.ts _ h2) (hX.ts _ h3) (hX.ts _ h4) hX.K hat0 hat1 rfl h5 h6 h7 h8 h9 hR1 hR2 hd (fun H1 locs1 e z oq hlo => ?_)
  refine h H1 _ ls (cpi w a sp.toNatClampNeg b dp.toNatClampNeg m.toNatClampNeg) r w' hl (hR.put z oq rfl ?_ (fun j hj => cellOf_congr (gi_cpi_ne hj) rfl rfl) (fun o _ h => h)) ⟨by rw [z]; exact hS.1, fun q g1 g2 => ?_, fun z hz => ?_⟩ hk'
  · rw [cellOf_int hs1]
    show H1[_]? = some (vp_cell _ _)
    rw [show gi (cpi w a sp.toNatClampNeg b dp.toNatClampNeg m.toNatClampNeg) b = va_cpy (gi w a) (gi w b) sp.toNatClampNeg dp.toNatClampNeg m.toNatClampNeg from ?_]
    · exact e
    · funext j
      simp [gi, cpi, va_cpy]
  · rw [oq q (fun e => g2 (by rw [e]; exact Nat.le_add_right _ _))]
    exact hS.2.1 q g1 g2
  · rcases hlo z hz with h | h
    · exact hS.2.2 z h
    · rw [h]
      exact Nat.le_add_right _ _
end RLM
