/-! what constructors need: cells that are made, fields that are laid -/
def Gno : Nat → Prop := fun _ => False
def Gon (t : Nat) : Nat → Prop := fun o => o = t
def gx {R : Type} (q : Nat) (K : M R) : M R := fun w => if q < gn w then K w else none
def whlB (w : Wd) (q : Nat) : Bool := decide (q < gn w) && (decide (mx q < gn w) && (CR q).all (fun p => decide (gr w q p.1 = p.2 + 1)))
theorem whl_of {w : Wd} {q : Nat} (h : whlB w q = true) : Whl w q := by
  unfold whlB at h
  simp only [Bool.and_eq_true, decide_eq_true_eq, List.all_eq_true] at h
  exact ⟨h.1, h.2.1, fun p hp => h.2.2 p hp⟩
def gw {R : Type} (q : Nat) (K : M R) : M R := fun w => if whlB w q = true then K w else none
theorem gi_aw {w : Wd} {c j : Nat} (h : j < gn w) : gi (aw w c) j = gi w j := by
  funext b
  show (if gn w ≤ j then 0 else w.1 j b) = w.1 j b
  rw [if_neg (by omega)]
theorem gl_aw {w : Wd} {c j : Nat} (h : j < gn w) : gl (aw w c) j = gl w j := by
  funext b
  show (if gn w ≤ j then 0 else w.2.1 j b) = w.2.1 j b
  rw [if_neg (by omega)]
theorem gr_aw {w : Wd} {c j : Nat} (h : j < gn w) : gr (aw w c) j = gr w j := by
  funext b
  show (if gn w ≤ j then 0 else w.2.2.1 j b) = w.2.2.1 j b
  rw [if_neg (by omega)]
theorem gi_aw0 {w : Wd} {c j : Nat} (h : gn w ≤ j) : gi (aw w c) j = fun _ => 0 := by
  funext b
  show (if gn w ≤ j then 0 else w.1 j b) = 0
  rw [if_pos h]
theorem gl_aw0 {w : Wd} {c j : Nat} (h : gn w ≤ j) : gl (aw w c) j = fun _ => 0 := by
  funext b
  show (if gn w ≤ j then 0 else w.2.1 j b) = 0
  rw [if_pos h]
theorem gr_aw0 {w : Wd} {c j : Nat} (h : gn w ≤ j) : gr (aw w c) j = fun _ => 0 := by
  funext b
  show (if gn w ≤ j then 0 else w.2.2.1 j b) = 0
  rw [if_pos h]
theorem Whl_aw {w : Wd} {c o : Nat} (h : Whl w o) : Whl (aw w c) o := by
  obtain ⟨h1, h2, h3⟩ := h
  have e : gn (aw w c) = gn w + c := rfl
  refine ⟨by rw [e]; omega, by rw [e]; omega, fun p hp => ?_⟩
  rw [gr_aw h1]
  exact h3 p hp
/-- cells are made: the world goes along -/
theorem Rel.grow {E : Ev} {G : Nat → Prop} {w : Wd} {H H1 : Heap} {c : Nat} (hR : Rel E G w H) (z : H1.size = H.size + c) (o1 : ∀ a : Nat, a < H.size → H1[a]? = H[a]?) (hat : ∀ j, gn w ≤ j → j < gn w + c → va_at E.1 vwCl (E.2.2.2 + j, cellOf E.2.1 E.2.2.1 (aw w c) j) H1) : Rel E G (aw w c) H1 := by
  refine ⟨by rw [z, hR.1]; show _ = _ + (gn w + c); omega, fun j hj => ?_, fun o ho => Whl_aw (hR.2.2 o ho)⟩
  have hj' : j < gn w + c := hj
  by_cases e : j < gn w
  · rw [cellOf_congr (gi_aw e) (gl_aw e) (gr_aw e)]
    exact (hR.2.1 j e).kept (o1 _ (by show E.2.2.2 + j < _; rw [hR.1]; omega))
  · exact hat j (by omega) hj'
theorem S_grow {B : Nat} {H0 H H1 : Heap} {locs : List Loc} {c : Nat} (h : va_S (fun q => B ≤ q) H0 H locs) (z : H1.size = H.size + c) (o1 : ∀ q : Nat, q < H.size → H1[q]? = H[q]?) : va_S (fun q => B ≤ q) H0 H1 locs := ⟨by have := h.1; omega, fun q h1 h2 => (o1 q (Nat.lt_of_lt_of_le h1 h.1)).trans (h.2.1 q h1 h2), h.2.2⟩
section RLN
variable {X : Cx} {R : Type} {enc : R → Option Value} {cu su pc : Nat} {lv lv' : List (Nat × Value)} {st : List Value} {k : M R} {own : String} {cc : ByteArray} {ret : Option FieldType}
variable {q ci k0 N index n : Nat} {C : String} {T : u_T}
theorem tr_new (hX : Good X own cc ret) (hd : decode cc pc = .ok (.new index, 3)) (hs : SH n = (ci, N)) (hci : ci < 10) (hc : vwCl[ci]? = some (C, T, N)) (hin : ∀ w ∈ u_ws C T N, w ∈ wsL_law) (ty0 : Nat → FieldType) (hty : ∀ k, k < N → parseFieldDescriptor (T k).2.2.1 = some (ty0 k)) (hdef : ∀ j, j < N → defaultValue (ty0 j) = (if (fkinds ci).getD j 9 = 0 then .int 0 else if (fkinds ci).getD j 9 = 1 then .long 0 else .null)) (h1 : Cond.classLink own index C ∈ wsL_law) (h2 : Cond.instantiable C N ∈ wsL_law) (h3 : Cond.initialized C ∈ wsL_law) (hn : n < 1000) (hcu : cu + 1 ≤ (cxR X).cells) (hsu : su + N ≤ (cxR X).slots) (h : Tr X enc (cu + 1) (su + N) (pc + 3) lv (.ref (cxAd X n) :: st) k) : Tr X enc cu su pc lv st (al n 1 k) := by
  intro H locs ls w r w' hl hR hS hk'
  unfold al at hk'
  split at hk'
  rotate_left
  · cases hk'
  rename_i hgn
  have hKn := hX.K.1 ci _ hc
  have hsz : H.size = cxAd X n := by rw [hX.ad hn, hR.1, hgn]
  refine W.newcK hX.1 hX.2.1 hX.ow (hX.ts _ h1) (hX.ts _ h2) (hX.ts _ h3) rfl hd hcu hsu hKn.2.1 hsz fun H1 kC hkC e1 z1 o1 => ?_
  rw [← hsz] at z1 o1
  refine h H1 locs ls (aw w 1) r w' hl (hR.grow z1 o1 (fun j h4 h5 => ?_)) (S_grow hS z1 o1) hk'
  have hj : j = n := by omega
  subst hj
  rw [cellOf_obj hs hci]
  have had := hX.ad hn
  rw [had] at e1
  refine ⟨_, hc, (u_born ty0 hX.ts hin hKn hkC e1 hty).to (fun i hi => ?_)⟩
  have hlen := fk_len ci hci C T N hc
  obtain ⟨t, ht⟩ : ∃ t, (fkinds ci)[i]? = some t := ⟨_, List.getElem?_eq_getElem (by rw [hlen]; exact hi)⟩
  rw [hdef i hi, fvl_V ht, List.getD_eq_getElem?_getD, ht]
  simp only [Option.getD_some, fv, gi_aw0 h4, gl_aw0 h4, gr_aw0 h4, va_rn, if_true]
theorem arr_cls (hX : Good X own cc ret) {j : Nat} {cA c0 : ClassId} {ty : FieldType} (ht : (tysOf (cxV X).2.2.1)[j]? = some (c0, ty)) (hno : ∀ C, ty ≠ .object C) (hf : (cxS X).vm.findClass ("[" ++ ty.toString) = some cA) : cA = c0 := by
  have h := (hX.K.2 j _ ht).2
  have h2 : (cxS X).vm.findClass ("[" ++ ty.toString) = some c0 := by
    cases ty <;> first | exact h | exact absurd rfl (hno _)
  exact Option.some.inj (hf.symm.trans h2)
theorem tr_newi {m : Int32} (hX : Good X own cc ret) (hd : decode cc pc = .ok (.newarray .int, 2)) (hs : SH n = (11, N)) (h1 : Cond.arrayClass .int ∈ wsL_law) (hm0 : ¬ m < 0) (hm : m.toNatClampNeg = N) (hb : N * 4 ≤ 536870912) (hn : n < 1000) (hcu : cu + 1 ≤ (cxR X).cells) (hsu : su + N ≤ (cxR X).slots) (h : Tr X enc (cu + 1) (su + N) (pc + 2) lv (.ref (cxAd X n) :: st) k) : Tr X enc cu su pc lv (.int m :: st) (al n 1 k) := by
  intro H locs ls w r w' hl hR hS hk'
  unfold al at hk'
  split at hk'
  rotate_left
  · cases hk'
  rename_i hgn
  have hsz : H.size = cxAd X n := by rw [hX.ad hn, hR.1, hgn]
  refine va_newaK hX.1 hX.2.1 (atype := .int) (hX.ts _ h1) rfl hd rfl hm0 hm hb hcu hsu hsz fun H1 cA e1 z1 o1 hAr hNm => ?_
  have ec : cA = (cxV X).2.2.1 11 := arr_cls hX (j := 1) rfl (fun _ z => by cases z) hNm
  rw [← hsz] at z1 o1
  refine h H1 locs ls (aw w 1) r w' hl (hR.grow z1 o1 (fun j h4 h5 => ?_)) (S_grow hS z1 o1) hk'
  have hj : j = n := by omega
  subst hj
  rw [cellOf_int hs, gi_aw0 h4]
  rw [hX.ad hn] at e1
  show H1[_]? = some (vp_cell _ _)
  rw [vp_cell_i, ← ec]
  exact e1
theorem tr_newb {m : Int32} (hX : Good X own cc ret) (hd : decode cc pc = .ok (.newarray .byte, 2)) (hs : SH n = (10, N)) (h1 : Cond.arrayClass .byte ∈ wsL_law) (hm0 : ¬ m < 0) (hm : m.toNatClampNeg = N) (hb : N * 1 ≤ 536870912) (hn : n < 1000) (hcu : cu + 1 ≤ (cxR X).cells) (hsu : su + N ≤ (cxR X).slots) (h : Tr X enc (cu + 1) (su + N) (pc + 2) lv (.ref (cxAd X n) :: st) k) : Tr X enc cu su pc lv (.int m :: st) (al n 1 k) := by
  intro H locs ls w r w' hl hR hS hk'
  unfold al at hk'
  split at hk'
  rotate_left
  · cases hk'
  rename_i hgn
  have hsz : H.size = cxAd X n := by rw [hX.ad hn, hR.1, hgn]
  refine va_newaK hX.1 hX.2.1 (atype := .byte) (hX.ts _ h1) rfl hd rfl hm0 hm hb hcu hsu hsz fun H1 cA e1 z1 o1 hAr hNm => ?_
  have ec : cA = (cxV X).2.2.1 10 := arr_cls hX (j := 0) rfl (fun _ z => by cases z) hNm
  rw [← hsz] at z1 o1
  refine h H1 locs ls (aw w 1) r w' hl (hR.grow z1 o1 (fun j h4 h5 => ?_)) (S_grow hS z1 o1) hk'
  have hj : j = n := by omega
  subst hj
  rw [cellOf_byte hs, gi_aw0 h4]
  rw [hX.ad hn] at e1
  show H1[_]? = some (vp_cell _ _)
  rw [vp_cell_i, ← ec]
  exact e1
theorem tr_newz {m : Int32} (hX : Good X own cc ret) (hd : decode cc pc = .ok (.newarray .boolean, 2)) (hs : SH n = (13, N)) (h1 : Cond.arrayClass .boolean ∈ wsL_law) (hm0 : ¬ m < 0) (hm : m.toNatClampNeg = N) (hb : N * 1 ≤ 536870912) (hn : n < 1000) (hcu : cu + 1 ≤ (cxR X).cells) (hsu : su + N ≤ (cxR X).slots) (h : Tr X enc (cu + 1) (su + N) (pc + 2) lv (.ref (cxAd X n) :: st) k) : Tr X enc cu su pc lv (.int m :: st) (al n 1 k) := by
  intro H locs ls w r w' hl hR hS hk'
  unfold al at hk'
  split at hk'
  rotate_left
  · cases hk'
  rename_i hgn
  have hsz : H.size = cxAd X n := by rw [hX.ad hn, hR.1, hgn]
  refine va_newaK hX.1 hX.2.1 (atype := .boolean) (hX.ts _ h1) rfl hd rfl hm0 hm hb hcu hsu hsz fun H1 cA e1 z1 o1 hAr hNm => ?_
  have ec : cA = (cxV X).2.2.1 13 := arr_cls hX (j := 3) rfl (fun _ z => by cases z) hNm
  rw [← hsz] at z1 o1
  refine h H1 locs ls (aw w 1) r w' hl (hR.grow z1 o1 (fun j h4 h5 => ?_)) (S_grow hS z1 o1) hk'
  have hj : j = n := by omega
  subst hj
  rw [cellOf_bool hs, gi_aw0 h4]
  rw [hX.ad hn] at e1
  show H1[_]? = some (vp_cell _ _)
  rw [vp_cell_i, ← ec]
  exact e1
theorem tr_newl {m : Int32} (hX : Good X own cc ret) (hd : decode cc pc = .ok (.newarray .long, 2)) (hs : SH n = (12, N)) (h1 : Cond.arrayClass .long ∈ wsL_law) (hm0 : ¬ m < 0) (hm : m.toNatClampNeg = N) (hb : N * 8 ≤ 536870912) (hn : n < 1000) (hcu : cu + 1 ≤ (cxR X).cells) (hsu : su + N ≤ (cxR X).slots) (h : Tr X enc (cu + 1) (su + N) (pc + 2) lv (.ref (cxAd X n) :: st) k) : Tr X enc cu su pc lv (.int m :: st) (al n 1 k) := by
  intro H locs ls w r w' hl hR hS hk'
  unfold al at hk'
  split at hk'
  rotate_left
  · cases hk'
  rename_i hgn
  have hsz : H.size = cxAd X n := by rw [hX.ad hn, hR.1, hgn]
  refine va_newaK hX.1 hX.2.1 (atype := .long) (hX.ts _ h1) rfl hd rfl hm0 hm hb hcu hsu hsz fun H1 cA e1 z1 o1 hAr hNm => ?_
  have ec : cA = (cxV X).2.2.1 12 := arr_cls hX (j := 2) rfl (fun _ z => by cases z) hNm
  rw [← hsz] at z1 o1
  refine h H1 locs ls (aw w 1) r w' hl (hR.grow z1 o1 (fun j h4 h5 => ?_)) (S_grow hS z1 o1) hk'
  have hj : j = n := by omega
  subst hj
  rw [cellOf_long hs, gl_aw0 h4]
  rw [hX.ad hn] at e1
  show H1[_]? = some (vp_cell _ _)
  rw [vp_cell_l, ← ec]
  exact e1
/-- Object.<init> -/
theorem tr_oinit {a : Nat} (hX : Good X own cc ret) (hd : decode cc pc = .ok (.invokespecial index, 3)) (h1 : Cond.methodLink own index Lib.objectInit ∈ wsL_law) (h2 : Cond.instanceMethod Lib.objectInit ∈ wsL_law) (h3 : Cond.code Lib.objectInit ⟨#[0xb1]⟩ 1 none ∈ wsL_law) (hR1 : 1 ≤ (cxR X).frames) (hR2 : (st.map fun v => v.category).sum + 12 ≤ (cxR X).locals) (h : Tr X enc cu su (pc + 3) lv st k) : Tr X enc cu su pc lv (.ref a :: st) k := fun H locs ls w r w' hl hR hS hk => W.objInit hX.1 hX.2.1 hX.ow (hX.ts _ h1) (hX.ts _ h2) (hX.ts _ h3) rfl (by rw [hX.2.2.1]; exact hl.1) rfl hd hR1 (by show 2 * 0 + _ + 12 ≤ _; omega) (h H locs ls w r w' hl hR hS hk)
theorem tr_iastX {i x : Int32} (hX : Good X own cc ret) (hd : decode cc pc = .ok (.iastore, 1)) (hs : SH q = (11, n)) (hq : q < 1000) (h : inb i n → Tr X enc cu su (pc + 1) lv st k) : Tr X enc cu su pc lv (.int x :: .int i :: .ref (cxAd X q) :: st) (gx q (sI q n i x k)) := by
  intro H locs ls w r w' hl hR hS hk'
  unfold gx at hk'
  split at hk'
  rotate_left
  · cases hk'
  rename_i hlt
  have hat := hR.2.1 q hlt
  rw [cellOf_int hs] at hat
  rw [hX.ad hq]
  unfold sI gd at hk'
  split at hk'
  · rename_i hb
    refine W.iast hX.1 hX.2.1 hat ((hX.K.2 1 _ rfl).1 n (fun j => .int (gi w q j))) (fun z => by cases z) (by show ¬ (i < 0 ∨ (arrV _ _ _).slots.size ≤ _); rw [arrV_size]; exact hb) rfl rfl hd fun H1 e z oq => ?_
    refine h hb H1 _ ls (si w q i.toNatClampNeg x) r w' hl (hR.put z oq rfl ?_ (fun j hj => cellOf_congr (gi_si_ne hj) rfl rfl) (fun o _ h => h)) (S_put hS z oq (Nat.le_add_right _ _)) hk'
    rw [cellOf_int hs]
    show H1[_]? = some (vp_cell _ _)
    rw [e, vp_cell_i, vp_cell_i, arrV_store, gi_si_at]
    congr 2
    funext j
    by_cases hj : j = i.toNatClampNeg
    · subst hj
      simp [updV, upd]
    · simp [updV, upd, hj]
  · cases hk'
theorem tr_getTX {K : Nat → M R} (hX : Good X own cc ret) (hd : decode cc pc = .ok (.getfield index, 3)) (hs : SH q = (ci, N)) (hci : ci < 10) (hc : vwCl[ci]? = some (C, T, N)) (hin : ∀ w ∈ u_ws C T N, w ∈ wsL_law) (hk : k0 < N) (hf : (fkinds ci)[k0]? = some 2) (hq : q < 1000) (hw : Cond.fieldLink own index (T k0).1 (T k0).2.1 (T k0).2.2.1 ∈ wsL_law) (h : ∀ t, isT t → Tr X enc cu su (pc + 3) lv (.ref (cxAd X t) :: st) (K t)) : Tr X enc cu su pc lv (.ref (cxAd X q) :: st) (gx q (rT q k0 K)) := by
  intro H locs ls w r w' hl hR hS hk'
  unfold gx at hk'
  split at hk'
  rotate_left
  · cases hk'
  rename_i hlt
  have hat := hR.2.1 q hlt
  rw [cellOf_obj hs hci] at hat
  rw [hX.ad hq]
  unfold rT at hk'
  split at hk'
  · rename_i hT
    have hne : gr w q k0 ≠ 0 := by omega
    exact va_get hX.1 hX.2.1 hX.ts hin hX.ow hX.K (va_P1 hat) 0 rfl hc k0 hk (hX.ts _ hw) (fun _ h => h) (v := .ref (cxAd X (gr w q k0 - 1))) (by rw [fvl_get _ 0 k0 2 hf]; simp [fv, va_rn, hne]) hd (h (gr w q k0 - 1) (by unfold isT; omega) H locs ls w r w' hl hR hS hk')
  · cases hk'
theorem tr_putTX {a : Nat} {ty : FieldType} (hX : Good X own cc ret) (hd : decode cc pc = .ok (.putfield index, 3)) (hs : SH q = (ci, N)) (hci : ci < 10) (hc : vwCl[ci]? = some (C, T, N)) (hin : ∀ w ∈ u_ws C T N, w ∈ wsL_law) (ty0 : Nat → FieldType) (hty : ∀ k, k < N → parseFieldDescriptor (T k).2.2.1 = some (ty0 k)) (hnm : ∀ a, a < N → ∀ b, b < N → a ≠ b → (T a).2.1 ≠ (T b).2.1) (hk : k0 < N) (hf : (fkinds ci)[k0]? = some 2) (hw : Cond.fieldLink own index (T k0).1 (T k0).2.1 (T k0).2.2.1 ∈ wsL_law) (hfin : (T k0).2.2.2 = false) (hp : parseFieldDescriptor (T k0).2.2.1 = some ty) (hn : narrow ty (.ref (cxAd X a)) = .ref (cxAd X a)) (hfit : fits ty (.ref (cxAd X a)) = true) (hq : q < 1000) (hG : ∀ o, ¬ cxG X o)
    (h : Tr X enc cu su (pc + 3) lv st k) : Tr X enc cu su pc lv (.ref (cxAd X a) :: .ref (cxAd X q) :: st) (gx q (wR q k0 a k)) := by
  intro H locs ls w r w' hl hR hS hk'
  unfold gx at hk'
  split at hk'
  rotate_left
  · cases hk'
  rename_i hlt
  have hat := hR.2.1 q hlt
  rw [cellOf_obj hs hci] at hat
  rw [hX.ad hq]
  obtain ⟨r0, h1, cell, q1, q2, q3, q4⟩ := hat
  have hr : r0 = (C, T, N) := Option.some.inj (h1.symm.trans hc)
  subst hr
  obtain ⟨hSl, hfc, kC, hkC, hkind⟩ := hX.K.1 ci _ hc
  obtain ⟨cf, kf, fi, f, hi, hsl⟩ := hSl k0 hk
  have hlay := hX.ts _ (hin _ (u_in_lay hk))
  unfold u_lay at hlay
  rw [if_neg (by rw [hfin]; decide)] at hlay
  have hst := (u_facts hfc hkC (u_lays hX.ts hin hk) hi).1
  have h6 := u_store hfc hkC hkind hlay hi hp hn hfit
  refine W.putK hX.1 hX.2.1 (f := f) ⟨hX.ow, hX.ts _ hw, ⟨_, _, _, hi⟩, hst⟩ (by rw [q2]; exact h6) q1 q3 (by rw [hsl]; exact k2_hasslot (q4 k0 hk)) rfl rfl hd fun H1 e1 e2 e3 => ?_
  rw [hsl] at e1 ⊢
  refine h H1 _ ls (sr w q k0 (a + 1)) r w' hl (hR.put e2 e3 rfl (put_cell hX hs hci hc hin ty0 hty hnm hk hf q2 q3 q4 e1 ?_ ?_) (fun j hj => cellOf_congr rfl rfl (gr_sr_ne hj)) (fun o ho _ => (hG o ho).elim)) (S_put hS e2 e3 (Nat.le_add_right _ _)) hk'
  · simp [fv, gr, sr, up2, va_rn]
  · intro j t hj
    simp [fv, gi, gl, gr, sr, up2, hj]
end RLN
