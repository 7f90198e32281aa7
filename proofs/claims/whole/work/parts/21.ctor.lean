/-! grids; calls in constructors -/
theorem vr_outer' (c : ClassId) (N h0 : Nat) : Jvm.Free.Multi.outerC c N h0 N = arrV c N (fun j => va_rf (if j < N then some (h0 + 1 + j) else none)) := by
  have key : ∀ i : Nat, Jvm.Free.Multi.outerC c N h0 i = arrV c N (fun j => va_rf (if j < i then some (h0 + 1 + j) else none)) := by
    intro i
    induction i with
    | zero =>
      show ({ cls := c, slots := Array.replicate N .null, vm := .none } : Cell) = _
      rw [arrV_new]
      refine congrArg (arrV c N) (funext fun j => ?_)
      simp [va_rf]
    | succ i ih =>
      show (Jvm.Free.Multi.outerC c N h0 i).setSlot i (.ref (h0 + 1 + i)) = _
      rw [ih, arrV_store]
      refine congrArg (arrV c N) (funext fun j => ?_)
      by_cases e : j = i
      · subst e
        simp [updV, va_rf]
      · by_cases h : j < i
        · simp [updV, e, h, Nat.lt_succ_of_lt h]
        · simp [updV, e, h, show ¬ j < i + 1 by omega]
  exact key N
section RLG
variable {X : Cx} {R : Type} {enc : R → Option Value} {cu su pc : Nat} {lv lv' : List (Nat × Value)} {st : List Value} {k : M R} {own : String} {cc : ByteArray} {ret : Option FieldType}
variable {q ci k0 N index n : Nat} {C : String} {T : u_T}
theorem tr_mna {a b : Int32} {K' : Nat} {ty : FieldType} {z : vp_A} {j14 j11 : Nat} {c14 c11 : ClassId} (hX : Good X own cc ret) (hd : decode cc pc = .ok (.multianewarray index 2, 4)) (h14 : (tysOf (cxV X).2.2.1)[j14]? = some (c14, .array ty)) (h11 : (tysOf (cxV X).2.2.1)[j11]? = some (c11, ty)) (hno : ∀ C, ty ≠ .object C) (hty : ty = .int ∨ ty = .long) (hstr : (FieldType.array ty).toString = "[" ++ ty.toString)
    (hc0 : ∀ w : Wd, cellOf (cxAd X) (cxV X).2.2.1 w n = .inl (c14, N, .inr (.inr (.inr (.inr (fun i => if i < N then some (cxAd X (n + 1 + i)) else none)))))) (hci : ∀ (w : Wd) (c i : Nat), i < N → gn w ≤ n + 1 + i → cellOf (cxAd X) (cxV X).2.2.1 (aw w c) (n + 1 + i) = .inl (c11, z))
    (hz : ∀ c : ClassId, Jvm.Free.Multi.innerC c K' (defaultValue ty) = vp_cell c z)
    (h1 : Cond.classLink own index ("[" ++ (FieldType.array ty).toString) ∈ wsL_law) (h2 : Cond.arrayClass ty ∈ wsL_law) (ha0 : ¬ a < 0) (hb0 : ¬ b < 0) (ha : a.toNatClampNeg = N) (hb : b.toNatClampNeg = K') (hb1 : N * 4 ≤ 536870912) (hb2 : K' * componentBytes ty ≤ 536870912) (hb3 : K' ≤ 536870912) (hdf : fits ty (defaultValue ty) = true) (hdd : (defaultValue ty).isDefault = true) (hn : n + 1 + N < 1000) (hcu : cu + (1 + N) ≤ (cxR X).cells) (hsu : su + (N + N * K') ≤ (cxR X).slots) (h : Tr X enc (cu + 1 + N) (su + N + N * K') (pc + 4) lv (.ref (cxAd X n) :: st) k) : Tr X enc cu su pc lv (.int b :: .int a :: st) (al n (1 + N) k) := by
  subst ha
  subst hb
  intro H locs ls w r w' hl hR hS hk' T0 hT Xs
  unfold al at hk'
  split at hk'
  rotate_left
  · cases hk'
  rename_i hgn
  have hov : (Cond.arrayOver (.array ty)).before #[] (cxS X) = true := hX.2.2.2.2.2.2.2.2.2.2.2 ty hty
  obtain ⟨vm₁, cA, comp, -, fA, fC, hO, -, X', step⟩ := Xs.multianewarray2F hX.1 hX.ow (hX.ts _ h1) (over_moved (Vm.Alike.refl _) hov) (hX.ts _ h2) (g := F0 (cxM X) pc ls (.int b :: .int a :: st)) rfl (by rw [hX.2.1]; exact hd) rfl ha0 hb0 hb1 hb2 hb3 hdf hdd hcu hsu
  have e14 : cA = c14 := arr_cls hX h14 (fun _ z => by cases z) fA
  have e11 : comp = c11 := arr_cls hX h11 hno (by rw [← hstr]; exact fC)
  generalize hF : Jvm.Free.Multi.fill (T0.setVm vm₁) cA comp a.toNatClampNeg b.toNatClampNeg (defaultValue ty) a.toNatClampNeg = F at X' step
  have hTh : (T0.setVm vm₁).heap = H := hT
  obtain ⟨f1, f2, -, -⟩ := Jvm.Free.Multi.fill_facts (T0.setVm vm₁) cA comp a.toNatClampNeg b.toNatClampNeg (defaultValue ty) a.toNatClampNeg
  rw [hF, hTh] at f1 f2
  have hold : ∀ x : Nat, x < H.size → F.heap[x]? = H[x]? := fun x hx => by
    have := Jvm.Free.Multi.fill_old (T0.setVm vm₁) cA comp a.toNatClampNeg b.toNatClampNeg (defaultValue ty) (a := x) (by rw [hTh]; exact hx) a.toNatClampNeg
    rw [hF, hTh] at this
    exact this
  have hrow : ∀ j : Nat, j < a.toNatClampNeg → F.heap[H.size + 1 + j]? = some (vp_cell comp z) := fun j hj => by
    have := Jvm.Free.Multi.fill_inner (T0.setVm vm₁) cA comp a.toNatClampNeg b.toNatClampNeg (defaultValue ty) a.toNatClampNeg j hj
    rw [hF, hTh, hz] at this
    exact this
  have hsz : H.size = cxBs X + n := by rw [hR.1, hgn]
  have z1 : F.heap.size = H.size + (1 + a.toNatClampNeg) := by rw [f1]; omega
  have hR1 : Rel (cxV X) (cxG X) (aw w (1 + a.toNatClampNeg)) F.heap := by
    refine hR.grow z1 hold (fun j h4 h5 => ?_)
    by_cases ej : j = n
    · subst ej
      rw [hc0]
      show F.heap[_]? = some (vp_cell _ _)
      rw [← hsz, f2, vp_cell_q, vr_outer', ← e14]
      refine congrArg some (congrArg (arrV cA _) (funext fun i => ?_))
      by_cases hi : i < a.toNatClampNeg
      · rw [if_pos hi, if_pos hi, hX.ad (by omega), hsz]
        show va_rf (some (cxBs X + j + 1 + i)) = va_rf (some (cxBs X + (j + 1 + i)))
        rw [show cxBs X + j + 1 + i = cxBs X + (j + 1 + i) by omega]
      · rw [if_neg hi, if_neg hi]
    · obtain ⟨i, rfl⟩ : ∃ i, j = n + 1 + i := ⟨j - (n + 1), by omega⟩
      rw [hci w _ i (by omega) h4, ← e11]
      show F.heap[_]? = some (vp_cell _ _)
      have := hrow i (by omega)
      rw [hsz] at this
      rw [show (cxV X).2.2.2 + (n + 1 + i) = cxBs X + n + 1 + i by show cxBs X + _ = _; omega]
      exact this
  obtain ⟨t, a1, b1⟩ := h F.heap locs ls (aw w (1 + a.toNatClampNeg)) r w' hl hR1 (S_grow hS z1 hold) hk' F rfl X'
  refine ⟨t, step t ?_, b1⟩
  have e : T0.heap.size = cxAd X n := by rw [hT, hX.ad (by omega), hsz]
  rw [e]
  exact a1
end RLG
section RLK
variable {X : Cx} {R : Type} {enc : R → Option Value} {cu su pc : Nat} {lv lv' : List (Nat × Value)} {st : List Value} {k : M R} {own : String} {cc : ByteArray} {ret : Option FieldType}
variable {f : M Unit} {q ci N index n maxL : Nat} {C : String} {T : u_T} {y : MethodName} {bytes : ByteArray} {ret' : Option FieldType} {rm : Room} {As : List Value}
/-- a constructor of a class that may be seen -/
theorem tr_callI (n : Nat) (hX : Good X own cc ret) (hd : decode cc pc = .ok (.invokespecial index, 3)) (hO : Ok (cxL X) (cxV X) (cxG X) y bytes maxL none rm eU (.ref (cxAd X q) :: As) f)
    (h1 : Cond.methodLink own index y ∈ wsL_law) (h2 : Cond.instanceMethod y ∈ wsL_law) (h4 : Cond.initialized y.cls ∈ wsL_law) (h5 : Cond.code y bytes maxL none ∈ wsL_law) (hy1 : y.name = "<init>")
    (hy : y.cls ≠ "java/lang/invoke/MethodHandle" ∧ y.cls ≠ "java/lang/invoke/VarHandle" ∧ (parseMethodDescriptor y.desc).map (fun d => d.parameters.length) = some n) (hn : As.length = n)
    (hR1 : rm.frames + 1 ≤ (cxR X).frames ∧ 8 + (maxL + 11) + rm.locals ≤ (cxR X).locals) (hR2 : cu + rm.cells ≤ (cxR X).cells ∧ su + rm.slots ≤ (cxR X).slots) (hW : (st.map fun v => v.category).sum ≤ 8)
    {st0 : List Value} (hst : st0 = As.reverse ++ .ref (cxAd X q) :: st) {K : Unit → M R} (h : Tr X enc (cu + rm.cells) (su + rm.slots) (pc + 3) lv st (K ())) : Tr X enc cu su pc lv st0 (bnd f K) := by
  subst hst
  intro H locs ls w r w' hl hR hS hk'
  obtain ⟨v0, w0, hf, hk2⟩ := bnd_some hk'
  refine tr_back (enc' := eU) (f := f) (a := (.ref (cxAd X q) :: As).toArray) (G := cxG X) (w := w) (v0 := v0) hl hS (fun _ h => h) ?_ h hk2
  exact va_runI (As := As) (b := cxAd X q) (rest := st) ⟨hX.1, hX.2.1, hX.2.2.1, hX.ow, hX.ts⟩ (hO w v0 w0 hf) (cwI n hX.ts (gd_M h5) rfl rfl rfl (hX.ts _ h4) (hX.ts _ h1) (hX.ts _ h2) hy1 hy hR1) ⟨blind, fun U hU hW => ⟨rfl, by rw [hU]; exact hR, hX.2.2.2.2.2.2.2.to hW hS hU⟩⟩ rfl hn hl.1 rfl (lv_room hW) hd hR2
/-- a nest mate's private constructor -/
theorem tr_callIN (n : Nat) {host : String} (hX : Good X own cc ret) (hd : decode cc pc = .ok (.invokespecial index, 3)) (hO : Ok (cxL X) (cxV X) (cxG X) y bytes maxL none rm eU (.ref (cxAd X q) :: As) f)
    (h1 : Cond.methodLinkNest own index y host ∈ NW) (h2 : Cond.instanceMethod y ∈ wsL_law) (h4 : Cond.initialized y.cls ∈ wsL_law) (h5 : Cond.code y bytes maxL none ∈ wsL_law) (hy1 : y.name = "<init>")
    (hy : y.cls ≠ "java/lang/invoke/MethodHandle" ∧ y.cls ≠ "java/lang/invoke/VarHandle" ∧ (parseMethodDescriptor y.desc).map (fun d => d.parameters.length) = some n) (hn : As.length = n)
    (hR1 : rm.frames + 1 ≤ (cxR X).frames ∧ 8 + (maxL + 11) + rm.locals ≤ (cxR X).locals) (hR2 : cu + rm.cells ≤ (cxR X).cells ∧ su + rm.slots ≤ (cxR X).slots) (hW : (st.map fun v => v.category).sum ≤ 8)
    {st0 : List Value} (hst : st0 = As.reverse ++ .ref (cxAd X q) :: st) {K : Unit → M R} (h : Tr X enc (cu + rm.cells) (su + rm.slots) (pc + 3) lv st (K ())) : Tr X enc cu su pc lv st0 (bnd f K) := by
  subst hst
  intro H locs ls w r w' hl hR hS hk'
  obtain ⟨v0, w0, hf, hk2⟩ := bnd_some hk'
  refine tr_back (enc' := eU) (f := f) (a := (.ref (cxAd X q) :: As).toArray) (G := cxG X) (w := w) (v0 := v0) hl hS (fun _ h => h) ?_ h hk2
  exact va_runIN (As := As) (b := cxAd X q) (rest := st) (host := host) ⟨hX.1, hX.2.1, hX.2.2.1, hX.ow, hX.ts⟩ (hO w v0 w0 hf) ⟨va_cnB n hX.ts (gd_M h5) rfl rfl rfl (hX.2.2.2.2.2.2.2.2.2.2.1 _ h1) (hX.ts _ h4) hy hR1, hy1, hX.ts _ h2⟩ ⟨blind, fun U hU hW => ⟨rfl, by rw [hU]; exact hR, hX.2.2.2.2.2.2.2.to hW hS hU⟩⟩ rfl hn hl.1 rfl (lv_room hW) hd hR2
/-- in a constructor: a method of the object, which is whole by then -/
theorem tr_callVW (n : Nat) (hX : Good X own cc ret) (hG : ∀ o, ¬ cxG X o) (hd : decode cc pc = .ok (.invokevirtual index, 3)) (hO : Ok (cxL X) (cxV X) (Gon q) y bytes maxL none rm eU (.ref (cxAd X q) :: As) f) (hs : SH q = (ci, N)) (hci : ci < 10) (hc : vwCl[ci]? = some (C, T, N)) (hq : q < 1000)
    (h1 : Cond.methodLink own index y ∈ wsL_law) (h2 : Cond.instanceMethod y ∈ wsL_law) (h3 : Cond.selects C y y ∈ wsL_law) (h4 : Cond.initialized C ∈ wsL_law) (h5 : Cond.code y bytes maxL none ∈ wsL_law)
    (hy : y.cls = C ∧ y.cls ≠ "java/lang/invoke/MethodHandle" ∧ y.cls ≠ "java/lang/invoke/VarHandle" ∧ (parseMethodDescriptor y.desc).map (fun d => d.parameters.length) = some n) (hn : As.length = n)
    (hR1 : rm.frames + 1 ≤ (cxR X).frames ∧ 8 + (maxL + 11) + rm.locals ≤ (cxR X).locals) (hR2 : cu + rm.cells ≤ (cxR X).cells ∧ su + rm.slots ≤ (cxR X).slots) (hW : (st.map fun v => v.category).sum ≤ 8)
    {st0 : List Value} (hst : st0 = As.reverse ++ .ref (cxAd X q) :: st) {K : Unit → M R} (h : Tr X enc (cu + rm.cells) (su + rm.slots) (pc + 3) lv st (K ())) : Tr X enc cu su pc lv st0 (gw q (bnd f K)) := by
  subst hst
  intro H locs ls w r w' hl hR hS hk'
  unfold gw at hk'
  split at hk'
  rotate_left
  · cases hk'
  rename_i hwh
  have hwl := whl_of hwh
  obtain ⟨v0, w0, hf, hk2⟩ := bnd_some hk'
  have hat := hR.2.1 q hwl.1
  rw [cellOf_obj hs hci] at hat
  have had : cxAd X q = cxBs X + q := hX.ad hq
  have hR' : Rel (cxV X) (Gon q) w H := ⟨hR.1, hR.2.1, fun o ho => by cases ho; exact hwl⟩
  refine tr_back (enc' := eU) (f := f) (a := (.ref (cxAd X q) :: As).toArray) (G := Gon q) (w := w) (v0 := v0) hl hS (fun _ h => ⟨h.1, h.2.1, fun o ho => (hG o ho).elim⟩) ?_ h hk2
  refine va_runV (As := As) (C := C) (b := cxAd X q) (rest := st) ⟨hX.1, hX.2.1, hX.2.2.1, hX.ow, hX.ts⟩ (hO w v0 w0 hf) (cwV n hX.ts (gd_V h1 h2 h3 h4 h5) rfl rfl rfl hy hR1) ⟨blind, ?_, fun U hU hW => ⟨rfl, by rw [hU]; exact hR', hX.2.2.2.2.2.2.2.to hW hS hU⟩⟩ rfl hn hl.1 rfl (lv_room hW) hd hR2
  rw [had]
  exact va_recv hX.K (va_P1 hat) hc (q0 := 0) rfl
/-- what a constructor stands in -/
def Stn (X : Cx) (rm : Room) (nL : Nat) : Prop := cxG X = Gno ∧ cxN X = nL ∧ cxMc X = rm.cells ∧ cxMs X = rm.slots ∧ cxR X = rm ∧ (cxMe X).name = "<init>" ∧ cxQ X = stdQ X
theorem Stn.no {nL : Nat} (h : Stn X rm nL) : ∀ o, ¬ cxG X o := by rw [h.1]; exact fun _ h => h
theorem ok_ofN {l : Launch} {E : Ev} {y : MethodName} {cc : ByteArray} {maxL : Nat} {av : List Value} {f : M Unit} {rm : Room} (hy : plainName y.cls = true) (hyn : y.name = "<init>") (hav : (lg_sl av).length ≤ maxL)
    (h : ∀ X : Cx, Good X y.cls cc none → cxV X = E → Stn X rm maxL → Tr X eU 0 0 0 (lv_args 0 av) [] f) : Ok l E Gno y cc maxL none rm eU av f := by
  intro w r w' hf
  refine Met.ofW (cc := cc) (maxL := maxL) (ret := none) hy rfl ?_
  intro p e s m args below meth c s₁ B hml hv
  obtain ⟨rfl, hR, hKS⟩ := hv
  have hts := atoms_spec (ws := Cond.code y cc maxL none :: wsL_law) B.pre
  have hl := lv_entry av (n := maxL) hav
  have hin : meth.name = "<init>" := (name_of_methodNamed B.named B.method).1.trans hyn
  rw [lg_entry_eq]
  exact h ((p, l, e, rm), (s, m, av.toArray, below), (meth, c), E, (Gno, maxL, rm.cells, rm.slots, fun r w' => MQ below (Qr E Gno r w') av.toArray s rm.cells rm.slots (fun q => E.2.2.2 ≤ q))) ⟨B.exec, B.bytes, hml, findClass_of_methodNamed B.named, fun w hw => hts w (List.mem_cons_of_mem _ hw), B.returns, B.notSynchronized, hKS⟩ rfl ⟨rfl, rfl, rfl, rfl, rfl, hin, rfl⟩ s.heap [] _ w r w' hl hR va_S.rf hf
theorem tr_vretN {nL cu su : Nat} (hX : Good X own cc none) (hS : Stn X rm nL) (hd : decode cc pc = .ok (.return_, 1)) (h1 : cu = rm.cells) (h2 : su = rm.slots) : Tr X eU cu su pc lv [] (rt ()) := by
  have h := tr_vret (lv := lv) hX hS.2.2.2.2.2.2 hd
  rw [hS.2.2.1, hS.2.2.2.1, ← h1, ← h2] at h
  exact h
theorem tr_cs {cu' su' : Nat} (h1 : cu = cu') (h2 : su = su') (h : Tr X enc cu' su' pc lv st k) : Tr X enc cu su pc lv st k := by rw [h1, h2]; exact h
end RLK
