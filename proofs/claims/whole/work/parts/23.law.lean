/-! THE CLAIM OUT OF ONE WALK OF THE LAW'S BODY. Your part is whole_start (and what it stands on); all else here is the same for every law, but numbers. -/
def R_law : String := "SaidWovenLaw"
def lw_P (b : Addr) (xs : List Int32) (args : Array Value) (s : State) : Prop := args = #[.ref b] ∧ s.IntsAt b xs ∧ xs.length ≤ 2560 ∧ (Jvm.Cond.and given_1 narrow_1).before args s = true
def lw_Q (_ : Array Value) (s : State) (o : Outcome) (t : State) : Prop := o = .returned (some (.int 1)) ∧ Framed s o t [] 600000 7302250
def lw_Z (below : List Frame) (a : Array Value) (s : State) : State → Prop := fun t => ∃ o, t.status = .running ∧ Ended t below o ∧ lw_Q a s o t
/-- the law's own end, with 1 on the stack, nothing written that was there before, its room as the claim has it -/
theorem lw_ret {p : Program} {l : Launch} {e : Env} {s : State} {m : MethodId} {below : List Frame} {meth : Method} {c : Code} {b : Nat} (hx : p.tables.exec = Jvm.exec) (hb : c.code = code) (hr : meth.sig.returnType = ret) (hlocks : meth.locks = false) {pc : Nat} {H : Heap} {ls : Array Slot} (hdg : decode code pc = .ok (.ireturn, 1)) : W p l e room_1 s m #[Value.ref b] below meth c H [] 600000 7302250 (lw_Z below #[Value.ref b] s) (F0 m pc ls [.int 1]) := by
  intro T hT X
  obtain ⟨fs, hret, hrun, hended, hW, hframe⟩ := X.leave (v := some (.int 1)) (hlocks := hlocks) (fun h => by rw [hr] at h; cases h)
  have hmeth' : T.vm.method? m = some meth := X.method'
  refine ⟨T.setFrames fs, ?_, .returned (some (.int 1)), hrun, hended, rfl, ⟨_, rfl⟩, hW, hframe⟩
  jvm_step X.here [X.here.top, hx, hb, hdg, hmeth', hr, ret, narrow_b1]
  (try refine ⟨rfl, ?_⟩); (try refine ⟨rfl, ?_⟩)
  first | (intro acts; rw [hret _ acts rfl rfl rfl]) | rw [hret _ _ rfl rfl rfl]
  exact Steps.refl _
/-- what holds at the law's entry: the machine, the code, the tables' words (any of lw_tbl by 'hts w (by decide +kernel)'), the script of L ints xs at the cell b, what the Statement gives of the start (any of its parts by flat_of_before) -/
def lw_At (p : Program) (s : State) (m : MethodId) (meth : Method) (c : Code) (b L : Nat) (xs : Nat → Int32) : Prop :=
  p.tables.exec = Jvm.exec ∧ c.code = code ∧ meth.sig.returnType = ret ∧ c.maxLocals = 4 ∧ s.vm.findClass R_law = some m.cls ∧ (∀ w ∈ lw_tbl, w.before #[Value.ref b] s = true) ∧ va_X b L xs s s.heap ∧ b < s.heap.size ∧ meth.locks = false ∧ (Jvm.Cond.and given_1 narrow_1).before #[Value.ref b] s = true
/-! the law's own method -/
def lawQ (X : Cx) : Option Value → Wd → State → Prop := fun r _ t => r = some (.int 1) → lw_Z (cxB X) (cxA X) (cxS X) t
/-- the same, when all objects are whole -/
def cxUp (X : Cx) : Cx := (X.1, X.2.1, X.2.2.1, X.2.2.2.1, (Gall, X.2.2.2.2.2))
def allB (w : Wd) : Bool := (List.range 187).all (whlB w)
def gwA {R : Type} (K : M R) : M R := fun w => if allB w = true then K w else none
theorem all_of {w : Wd} (h : allB w = true) : ∀ q, Gall q → Whl w q := by
  intro q hq
  have hq' : q ≤ 186 := hq
  exact whl_of (List.all_eq_true.mp h q (List.mem_range.mpr (by omega)))
theorem tr_gwA {X : Cx} {R : Type} {enc : R → Option Value} {cu su pc : Nat} {lv : List (Nat × Value)} {st : List Value} {k : M R} (hG : cxG X = Gno) (h : Tr (cxUp X) enc cu su pc lv st k) : Tr X enc cu su pc lv st (gwA k) := by
  intro H locs ls w r w' hl hR hS hk
  unfold gwA at hk
  split at hk
  · rename_i ha
    exact h H locs ls w r w' hl ⟨hR.1, hR.2.1, all_of ha⟩ hS hk
  · cases hk
def aS {R : Type} (xs : Nat → Int32) (L : Nat) (i : Int32) (K : Int32 → M R) : M R := gd (inb i L) (K (xs i.toNatClampNeg))
/-- what the law's loop stands in -/
def StaL (X : Cx) (xs : Nat → Int32) (L : Nat) : Prop := cxG X = Gall ∧ cxN X = 4 ∧ cxR X = room_1 ∧ cxQ X = lawQ X ∧ cxBs X = (cxS X).heap.size ∧ va_X (cxAd X 1003) L xs (cxS X) (cxS X).heap ∧ cxAd X 1003 < (cxS X).heap.size ∧ cxA X = #[Value.ref (cxAd X 1003)]
theorem StaL.n {X : Cx} {xs : Nat → Int32} {L : Nat} (h : StaL X xs L) {i : Nat} (hi : i < 4) : i < cxN X := by rw [h.2.1]; exact hi
section RLL
variable {X : Cx} {R : Type} {enc : R → Option Value} {cu su pc : Nat} {lv lv' : List (Nat × Value)} {st : List Value} {k : M R} {own : String} {cc : ByteArray} {ret : Option FieldType} {fr' lo' nL : Nat} {xs : Nat → Int32} {L : Nat}
theorem tr_sld {i : Int32} {K : Int32 → M R} (hX : Good X own cc ret) (hS : StaL X xs L) (hd : decode cc pc = .ok (.iaload, 1)) (h : ∀ v, Tr X enc cu su (pc + 1) lv (.int v :: st) (K v)) : Tr X enc cu su pc lv (.int i :: .ref (cxAd X 1003) :: st) (aS xs L i K) := by
  intro H locs ls w r w' hl hR hSs hk'
  unfold aS gd at hk'
  split at hk'
  · rename_i hb
    exact va_sld hX.1 hX.2.1 hS.2.2.2.2.2.1 hS.2.2.2.2.2.2.1 (by show ¬ cxBs X ≤ cxAd X 1003; rw [hS.2.2.2.2.1]; exact Nat.not_le.mpr hS.2.2.2.2.2.2.1) hSs hb hd (h _ H locs ls w r w' hl hR hSs hk')
  · cases hk'
theorem tr_slen (hX : Good X own cc ret) (hS : StaL X xs L) (hd : decode cc pc = .ok (.arraylength, 1)) (h : Tr X enc cu su (pc + 1) lv (.int (Int32.ofNat L) :: st) k) : Tr X enc cu su pc lv (.ref (cxAd X 1003) :: st) k := fun H locs ls w r w' hl hR hSs hk => va_slen hX.1 hX.2.1 hS.2.2.2.2.2.1 hS.2.2.2.2.2.2.1 (by show ¬ cxBs X ≤ cxAd X 1003; rw [hS.2.2.2.2.1]; exact Nat.not_le.mpr hS.2.2.2.2.2.2.1) hSs hd (h H locs ls w r w' hl hR hSs hk)
theorem tr_iretL {v : Int32} (hX : Good X RL cL_law (some .boolean)) (hS : StaL X xs L) (hd : decode cL_law pc = .ok (.ireturn, 1)) : Tr X eI 187 14336 pc lv [.int v] (rt v) := by
  intro H locs ls w r w' hl hR hSs hk
  cases hk
  rw [hS.2.2.2.1]
  by_cases hv : v = 1
  · subst hv
    have key : W (cxP X) (cxL X) (cxE X) (cxR X) (cxS X) (cxM X) (cxA X) (cxB X) (cxMe X) (cxC X) H locs 187 14336 (lw_Z (cxB X) (cxA X) (cxS X)) (F0 (cxM X) pc ls [.int 1]) := by
      rw [hS.2.2.1]
      refine va_forget (fun q hq => by have := hSs.2.2 q hq; rw [hS.2.2.2.2.1] at this; exact this) ?_
      refine W.widen (k := 600000) (n := 7302250) (by decide) (by decide) ?_
      rw [hS.2.2.2.2.2.2.2]
      exact lw_ret hX.1 hX.2.1 hX.2.2.2.2.2.1 hX.2.2.2.2.2.2.1 hd
    intro T hT Y
    obtain ⟨t, a, b⟩ := key T hT Y
    exact ⟨t, a, fun _ => b⟩
  · intro T hT Y
    exact ⟨_, Steps.refl _, fun e => absurd (by simpa [eI] using e) hv⟩
variable {S : Type} {enc' : S → Option Value} {f : M S} {K : S → M R} {q ci N index n maxL : Nat} {C : String} {T : u_T} {y : MethodName} {bytes : ByteArray} {ret' : Option FieldType} {As : List Value}
theorem rmleL (hS : StaL X xs L) (h : (Nat.ble (fr' + 1) 9 && Nat.ble (8 + (maxL + 11) + lo') 358) = true) : (rmz fr' lo').frames + 1 ≤ (cxR X).frames ∧ 8 + (maxL + 11) + (rmz fr' lo').locals ≤ (cxR X).locals := by
  rw [hS.2.2.1]
  simp only [Bool.and_eq_true] at h
  exact ⟨Nat.le_of_ble_eq_true h.1, Nat.le_of_ble_eq_true h.2⟩
theorem tr_callLI {f : M Int32} {K : Int32 → M R} (n : Nat) (hX : Good X own cc ret) (hS : StaL X xs L) (hd : decode cc pc = .ok (.invokevirtual index, 3)) (hO : Ok (cxL X) (cxV X) Gall y bytes maxL ret' (rmz fr' lo') eI (.ref (cxAd X q) :: As) f) (hs : SH q = (ci, N)) (hci : ci < 10) (hc : vwCl[ci]? = some (C, T, N)) (hq : q ≤ 186)
    (h1 : Cond.methodLink own index y ∈ wsL_law) (h2 : Cond.instanceMethod y ∈ wsL_law) (h3 : Cond.selects C y y ∈ wsL_law) (h4 : Cond.initialized C ∈ wsL_law) (h5 : Cond.code y bytes maxL ret' ∈ wsL_law)
    (hy : y.cls = C ∧ y.cls ≠ "java/lang/invoke/MethodHandle" ∧ y.cls ≠ "java/lang/invoke/VarHandle" ∧ (parseMethodDescriptor y.desc).map (fun d => d.parameters.length) = some n) (hn : As.length = n)
    (hR : (Nat.ble (fr' + 1) 9 && Nat.ble (8 + (maxL + 11) + lo') 358) = true) (hW : (st.map fun v => v.category).sum ≤ 8)
    {st0 : List Value} (hst : st0 = As.reverse ++ .ref (cxAd X q) :: st) (h : ∀ v, Tr X enc 187 14336 (pc + 3) lv (.int v :: st) (K v)) : Tr X enc 187 14336 pc lv st0 (bnd (A := Int32) f K) :=
  tr_callV (enc' := eI) n hX hd (by rw [hS.1]; exact hO) hs hci hc (by rw [hS.1]; exact ex_all hq) h1 h2 h3 h4 h5 hy hn (rmleL hS hR) (by rw [hS.2.2.1]; exact ⟨Nat.le_of_ble_eq_true rfl, Nat.le_of_ble_eq_true rfl⟩) hW hst h
theorem tr_callLL {f : M Int64} {K : Int64 → M R} (n : Nat) (hX : Good X own cc ret) (hS : StaL X xs L) (hd : decode cc pc = .ok (.invokevirtual index, 3)) (hO : Ok (cxL X) (cxV X) Gall y bytes maxL ret' (rmz fr' lo') eL (.ref (cxAd X q) :: As) f) (hs : SH q = (ci, N)) (hci : ci < 10) (hc : vwCl[ci]? = some (C, T, N)) (hq : q ≤ 186)
    (h1 : Cond.methodLink own index y ∈ wsL_law) (h2 : Cond.instanceMethod y ∈ wsL_law) (h3 : Cond.selects C y y ∈ wsL_law) (h4 : Cond.initialized C ∈ wsL_law) (h5 : Cond.code y bytes maxL ret' ∈ wsL_law)
    (hy : y.cls = C ∧ y.cls ≠ "java/lang/invoke/MethodHandle" ∧ y.cls ≠ "java/lang/invoke/VarHandle" ∧ (parseMethodDescriptor y.desc).map (fun d => d.parameters.length) = some n) (hn : As.length = n)
    (hR : (Nat.ble (fr' + 1) 9 && Nat.ble (8 + (maxL + 11) + lo') 358) = true) (hW : (st.map fun v => v.category).sum ≤ 8)
    {st0 : List Value} (hst : st0 = As.reverse ++ .ref (cxAd X q) :: st) (h : ∀ v, Tr X enc 187 14336 (pc + 3) lv (.long v :: st) (K v)) : Tr X enc 187 14336 pc lv st0 (bnd (A := Int64) f K) :=
  tr_callV (enc' := eL) n hX hd (by rw [hS.1]; exact hO) hs hci hc (by rw [hS.1]; exact ex_all hq) h1 h2 h3 h4 h5 hy hn (rmleL hS hR) (by rw [hS.2.2.1]; exact ⟨Nat.le_of_ble_eq_true rfl, Nat.le_of_ble_eq_true rfl⟩) hW hst h
end RLL

def f_L_law_1104 (xs : Nat → Int32) (L : Nat) (s18 : Int32 → M Int32) (x3 : Int32) : M Int32 :=
  s18 (x3 + 5)
set_option maxRecDepth 10000 in
set_option maxHeartbeats 4000000 in
theorem t_L_law_1104 {X : Cx} {xs : Nat → Int32} {L : Nat} (hX : Good X RL cL_law (some .boolean)) (hS : StaL X xs L) (s18 : Int32 → M Int32) (x3 : Int32) (hs18 : ∀ x3 : Int32, Tr X eI 187 14336 18 [(0, .ref (cxAd X 1003)), (1, .ref (cxAd X 0)), (2, .ref (cxAd X 161)), (3, .int x3)] [] (s18 x3)) : Tr X eI 187 14336 1104 [(0, .ref (cxAd X 1003)), (1, .ref (cxAd X 0)), (2, .ref (cxAd X 161)), (3, .int x3)] [] (f_L_law_1104 xs L s18 x3) := by
  unfold f_L_law_1104
  refine tr_iinc (x3 + 5) 3 hX dL_law_1104 rfl (congrArg (fun z => x3 + z) (by decide)) (hS.n (by decide)) rfl ?_
  refine tr_goto 18 hX dL_law_1107 (by decide) ?_
  exact tr_sub [1, 2, 3, 0] rfl (hs18 (x3 + 5))
def f_L_law_881 (xs : Nat → Int32) (L : Nat) (s18 : Int32 → M Int32) (x3 : Int32) (p0 : Int32) (p1 : Int32) (p3 : Int32) : M Int32 :=
  bnd (f_X9_alive p1 p0) (fun v1 => if p3 = v1 then (f_L_law_1104 xs L s18 x3) else (rt 0))
set_option maxRecDepth 10000 in
set_option maxHeartbeats 4000000 in
theorem t_L_law_881 {X : Cx} {xs : Nat → Int32} {L : Nat} (hX : Good X RL cL_law (some .boolean)) (hS : StaL X xs L) (s18 : Int32 → M Int32) (x3 : Int32) (p0 : Int32) (p1 : Int32) (p3 : Int32) (hs18 : ∀ x3 : Int32, Tr X eI 187 14336 18 [(0, .ref (cxAd X 1003)), (1, .ref (cxAd X 0)), (2, .ref (cxAd X 161)), (3, .int x3)] [] (s18 x3)) : Tr X eI 187 14336 881 [(0, .ref (cxAd X 1003)), (1, .ref (cxAd X 0)), (2, .ref (cxAd X 161)), (3, .int x3)] [.int p0, .int p1, .ref (cxAd X 161), .int p3] (f_L_law_881 xs L s18 x3 p0 p1 p3) := by
  unfold f_L_law_881
  refine tr_callLI (st := [.int p3]) 2 hX hS dL_law_881 (ok_X9_alive p1 p0) sh_161 (by decide) rfl (Nat.le_of_ble_eq_true rfl) k_33_22 k_33_23 k_34_0 k_1_5 k_34_1 hy_X9_alive rfl rfl (Nat.le_of_ble_eq_true rfl) rfl (fun v1 => ?_)
  refine tr_ic_eq 1104 hX dL_law_884 (by decide) (fun c2 => ?_) (fun c2 => ?_)
  · exact tr_sub [0, 1, 2, 3] rfl (t_L_law_1104 hX hS s18 x3 hs18)
  · refine tr_iconst 0 hX dL_law_887 (by decide) ?_
    exact tr_iretL hX hS dL_law_888
def f_L_law_859 (xs : Nat → Int32) (L : Nat) (s18 : Int32 → M Int32) (x3 : Int32) (p0 : Int32) (p1 : Int32) : M Int32 :=
  bnd (f_X8_alive p1 p0) (fun v1 => aS xs L (x3 + 1) (fun v2 => aS xs L (x3 + 2) (fun v3 => if v3 = 0 then (f_L_law_881 xs L s18 x3 0 v2 v1) else (f_L_law_881 xs L s18 x3 1 v2 v1))))
set_option maxRecDepth 10000 in
set_option maxHeartbeats 4000000 in
theorem t_L_law_859 {X : Cx} {xs : Nat → Int32} {L : Nat} (hX : Good X RL cL_law (some .boolean)) (hS : StaL X xs L) (s18 : Int32 → M Int32) (x3 : Int32) (p0 : Int32) (p1 : Int32) (hs18 : ∀ x3 : Int32, Tr X eI 187 14336 18 [(0, .ref (cxAd X 1003)), (1, .ref (cxAd X 0)), (2, .ref (cxAd X 161)), (3, .int x3)] [] (s18 x3)) : Tr X eI 187 14336 859 [(0, .ref (cxAd X 1003)), (1, .ref (cxAd X 0)), (2, .ref (cxAd X 161)), (3, .int x3)] [.int p0, .int p1, .ref (cxAd X 0)] (f_L_law_859 xs L s18 x3 p0 p1) := by
  unfold f_L_law_859
  refine tr_callLI (st := []) 2 hX hS dL_law_859 (ok_X8_alive p1 p0) sh_0 (by decide) rfl (Nat.le_of_ble_eq_true rfl) k_33_17 k_33_18 k_33_19 k_1_2 k_33_20 hy_X8_alive rfl rfl (Nat.le_of_ble_eq_true rfl) rfl (fun v1 => ?_)
  refine tr_aload_n 2 hX dL_law_862 rfl rfl ?_
  refine tr_aload_n 0 hX dL_law_863 rfl rfl ?_
  refine tr_iload_n 3 hX dL_law_864 rfl rfl ?_
  refine tr_iconst 1 hX dL_law_865 (by decide) ?_
  refine tr_iadd hX dL_law_866 ?_
  refine tr_sld hX hS dL_law_867 (fun v2 => ?_)
  refine tr_aload_n 0 hX dL_law_868 rfl rfl ?_
  refine tr_iload_n 3 hX dL_law_869 rfl rfl ?_
  refine tr_iconst 2 hX dL_law_870 (by decide) ?_
  refine tr_iadd hX dL_law_871 ?_
  refine tr_sld hX hS dL_law_872 (fun v3 => ?_)
  refine tr_if_eq 880 hX dL_law_873 (by decide) (fun c4 => ?_) (fun c4 => ?_)
  · refine tr_iconst 0 hX dL_law_880 (by decide) ?_
    exact tr_sub [0, 1, 2, 3] rfl (t_L_law_881 hX hS s18 x3 0 v2 v1 hs18)
  · refine tr_iconst 1 hX dL_law_876 (by decide) ?_
    refine tr_goto 881 hX dL_law_877 (by decide) ?_
    exact tr_sub [0, 1, 2, 3] rfl (t_L_law_881 hX hS s18 x3 1 v2 v1 hs18)
def f_L_law_18 (xs : Nat → Int32) (L : Nat) (s18 : Int32 → M Int32) (x3 : Int32) : M Int32 :=
  if ((Int32.ofNat L) - 5) < x3 then (rt 1) else (aS xs L x3 (fun v1 => if (v1 &&& 31) = 0 then (aS xs L (x3 + 1) (fun v2 => aS xs L (x3 + 2) (fun v3 => aS xs L (x3 + 3) (fun v4 => bnd (f_X8_write v2 ((v3.toInt64 <<< ((32 : Int32).toInt64 &&& 63)) ||| (v4.toInt64 &&& 4294967295))) (fun v5 => aS xs L (x3 + 1) (fun v6 => aS xs L (x3 + 2) (fun v7 => aS xs L (x3 + 3) (fun v8 => bnd (f_X9_write v6 ((v7.toInt64 <<< ((32 : Int32).toInt64 &&& 63)) ||| (v8.toInt64 &&& 4294967295))) (fun v9 => if v5 = v9 then (f_L_law_1104 xs L s18 x3) else (rt 0)))))))))) else (if (v1 &&& 31) = 1 then (bnd f_X8_wipe (fun v12 => bnd f_X9_wipe (fun v13 => if v12 = v13 then (f_L_law_1104 xs L s18 x3) else (rt 0)))) else (if (v1 &&& 31) = 2 then (bnd f_X8_fault (fun v16 => bnd f_X9_fault (fun v17 => if v16 = v17 then (f_L_law_1104 xs L s18 x3) else (rt 0)))) else (if (v1 &&& 31) = 3 then (bnd f_X8_lay (fun v20 => bnd f_X9_lay (fun v21 => if v20 = v21 then (f_L_law_1104 xs L s18 x3) else (rt 0)))) else (if (v1 &&& 31) = 4 then (aS xs L (x3 + 1) (fun v24 => aS xs L (x3 + 2) (fun v25 => bnd (f_X8_joined v24 v25) (fun v26 => aS xs L (x3 + 1) (fun v27 => aS xs L (x3 + 2) (fun v28 => bnd (f_X9_joined v27 v28) (fun v29 => if v26 = v29 then (f_L_law_1104 xs L s18 x3) else (rt 0)))))))) else (if (v1 &&& 31) = 5 then (aS xs L (x3 + 1) (fun v32 => aS xs L (x3 + 2) (fun v33 => bnd (f_X8_add v32 v33) (fun v34 => aS xs L (x3 + 1) (fun v35 => aS xs L (x3 + 2) (fun v36 => bnd (f_X9_add v35 v36) (fun v37 => if v34 = v37 then (f_L_law_1104 xs L s18 x3) else (rt 0)))))))) else (if (v1 &&& 31) = 6 then (aS xs L (x3 + 1) (fun v40 => bnd (f_X8_clear v40) (fun v41 => aS xs L (x3 + 1) (fun v42 => bnd (f_X9_clear v42) (fun v43 => if v41 = v43 then (f_L_law_1104 xs L s18 x3) else (rt 0)))))) else (if (v1 &&& 31) = 7 then (aS xs L (x3 + 1) (fun v46 => aS xs L (x3 + 2) (fun v47 => bnd (f_X8_word v46 v47) (fun v48 => aS xs L (x3 + 1) (fun v49 => aS xs L (x3 + 2) (fun v50 => bnd (f_X9_word v49 v50) (fun v51 => if v48 = v51 then (f_L_law_1104 xs L s18 x3) else (rt 0)))))))) else (if (v1 &&& 31) = 8 then (aS xs L (x3 + 1) (fun v54 => aS xs L (x3 + 2) (fun v55 => aS xs L (x3 + 3) (fun v56 => bnd (f_X8_said v54 v55 v56) (fun v57 => aS xs L (x3 + 1) (fun v58 => aS xs L (x3 + 2) (fun v59 => aS xs L (x3 + 3) (fun v60 => bnd (f_X9_said v58 v59 v60) (fun v61 => if v57 = v61 then (f_L_law_1104 xs L s18 x3) else (rt 0)))))))))) else (if (v1 &&& 31) = 9 then (aS xs L (x3 + 1) (fun v64 => aS xs L (x3 + 2) (fun v65 => bnd (f_X8_say v64 v65) (fun v66 => aS xs L (x3 + 1) (fun v67 => aS xs L (x3 + 2) (fun v68 => bnd (f_X9_say v67 v68) (fun v69 => if v66 = v69 then (f_L_law_1104 xs L s18 x3) else (rt 0)))))))) else (if (v1 &&& 31) = 10 then (aS xs L (x3 + 1) (fun v72 => aS xs L (x3 + 2) (fun v73 => bnd (f_X8_alter v72 v73) (fun v74 => aS xs L (x3 + 1) (fun v75 => aS xs L (x3 + 2) (fun v76 => bnd (f_X9_alter v75 v76) (fun v77 => if v74 = v77 then (f_L_law_1104 xs L s18 x3) else (rt 0)))))))) else (if (v1 &&& 31) = 11 then (bnd f_X8_soundSo (fun v80 => bnd f_X9_soundSo (fun v81 => if (lg_cmp v80 v81) = 0 then (f_L_law_1104 xs L s18 x3) else (rt 0)))) else (if (v1 &&& 31) = 12 then (aS xs L (x3 + 1) (fun v84 => bnd (f_X8_nearest v84) (fun v85 => aS xs L (x3 + 1) (fun v86 => bnd (f_X9_nearest v86) (fun v87 => if v85 = v87 then (f_L_law_1104 xs L s18 x3) else (rt 0)))))) else (if (v1 &&& 31) = 13 then (bnd f_X8_rivals (fun v90 => bnd f_X9_rivals (fun v91 => if (lg_cmp v90 v91) = 0 then (f_L_law_1104 xs L s18 x3) else (rt 0)))) else (if (v1 &&& 31) = 14 then (aS xs L (x3 + 1) (fun v94 => aS xs L (x3 + 2) (fun v95 => aS xs L (x3 + 3) (fun v96 => bnd (f_X8_far v94 v95 v96) (fun v97 => aS xs L (x3 + 1) (fun v98 => aS xs L (x3 + 2) (fun v99 => aS xs L (x3 + 3) (fun v100 => bnd (f_X9_far v98 v99 v100) (fun v101 => if v97 = v101 then (f_L_law_1104 xs L s18 x3) else (rt 0)))))))))) else (if (v1 &&& 31) = 15 then (aS xs L (x3 + 1) (fun v104 => aS xs L (x3 + 2) (fun v105 => aS xs L (x3 + 3) (fun v106 => bnd (f_X8_best v104 v105 v106) (fun v107 => aS xs L (x3 + 1) (fun v108 => aS xs L (x3 + 2) (fun v109 => aS xs L (x3 + 3) (fun v110 => bnd (f_X9_best v108 v109 v110) (fun v111 => if v107 = v111 then (f_L_law_1104 xs L s18 x3) else (rt 0)))))))))) else (if (v1 &&& 31) = 16 then (aS xs L (x3 + 1) (fun v114 => aS xs L (x3 + 2) (fun v115 => aS xs L (x3 + 3) (fun v116 => bnd (f_X8_learnt v114 v115 v116) (fun v117 => aS xs L (x3 + 1) (fun v118 => aS xs L (x3 + 2) (fun v119 => aS xs L (x3 + 3) (fun v120 => bnd (f_X9_learnt v118 v119 v120) (fun v121 => if v117 = v121 then (f_L_law_1104 xs L s18 x3) else (rt 0)))))))))) else (if (v1 &&& 31) = 17 then (aS xs L (x3 + 1) (fun v124 => aS xs L (x3 + 2) (fun v125 => aS xs L (x3 + 3) (fun v126 => bnd (f_X8_slip v124 v125 v126) (fun v127 => aS xs L (x3 + 1) (fun v128 => aS xs L (x3 + 2) (fun v129 => aS xs L (x3 + 3) (fun v130 => bnd (f_X9_slip v128 v129 v130) (fun v131 => if v127 = v131 then (f_L_law_1104 xs L s18 x3) else (rt 0)))))))))) else (if (v1 &&& 31) = 18 then (bnd f_X8_noSlips (fun v134 => bnd f_X9_noSlips (fun v135 => if v134 = v135 then (f_L_law_1104 xs L s18 x3) else (rt 0)))) else (if (v1 &&& 31) = 19 then (aS xs L (x3 + 1) (fun v138 => bnd (f_X8_slips v138) (fun v139 => aS xs L (x3 + 1) (fun v140 => bnd (f_X9_slips v140) (fun v141 => if v139 = v141 then (f_L_law_1104 xs L s18 x3) else (rt 0)))))) else (if (v1 &&& 31) = 20 then (aS xs L (x3 + 1) (fun v144 => aS xs L (x3 + 2) (fun v145 => bnd (f_X8_list v144 v145) (fun v146 => aS xs L (x3 + 1) (fun v147 => aS xs L (x3 + 2) (fun v148 => bnd (f_X9_list v147 v148) (fun v149 => if v146 = v149 then (f_L_law_1104 xs L s18 x3) else (rt 0)))))))) else (if (v1 &&& 31) = 21 then (aS xs L (x3 + 1) (fun v152 => aS xs L (x3 + 2) (fun v153 => aS xs L (x3 + 3) (fun v154 => bnd (f_X8_head v152 v153 v154) (fun v155 => aS xs L (x3 + 1) (fun v156 => aS xs L (x3 + 2) (fun v157 => aS xs L (x3 + 3) (fun v158 => bnd (f_X9_head v156 v157 v158) (fun v159 => if v155 = v159 then (f_L_law_1104 xs L s18 x3) else (rt 0)))))))))) else (if (v1 &&& 31) = 22 then (aS xs L (x3 + 1) (fun v162 => aS xs L (x3 + 2) (fun v163 => if v163 = 0 then (f_L_law_859 xs L s18 x3 0 v162) else (f_L_law_859 xs L s18 x3 1 v162)))) else (if (v1 &&& 31) = 23 then (aS xs L (x3 + 1) (fun v166 => bnd (f_X8_same v166) (fun v167 => aS xs L (x3 + 1) (fun v168 => bnd (f_X9_same v168) (fun v169 => if v167 = v169 then (f_L_law_1104 xs L s18 x3) else (rt 0)))))) else (if (v1 &&& 31) = 24 then (aS xs L (x3 + 1) (fun v172 => aS xs L (x3 + 2) (fun v173 => bnd (f_X8_since v172 v173) (fun v174 => aS xs L (x3 + 1) (fun v175 => aS xs L (x3 + 2) (fun v176 => bnd (f_X9_since v175 v176) (fun v177 => if v174 = v177 then (f_L_law_1104 xs L s18 x3) else (rt 0)))))))) else (if (v1 &&& 31) = 25 then (aS xs L (x3 + 1) (fun v180 => bnd (f_X8_lost v180) (fun v181 => aS xs L (x3 + 1) (fun v182 => bnd (f_X9_lost v182) (fun v183 => if v181 = v183 then (f_L_law_1104 xs L s18 x3) else (rt 0)))))) else (if (v1 &&& 31) = 26 then (aS xs L (x3 + 1) (fun v186 => aS xs L (x3 + 2) (fun v187 => bnd (f_X8_from v186 v187) (fun v188 => aS xs L (x3 + 1) (fun v189 => aS xs L (x3 + 2) (fun v190 => bnd (f_X9_from v189 v190) (fun v191 => if v188 = v191 then (f_L_law_1104 xs L s18 x3) else (rt 0)))))))) else (if (v1 &&& 31) = 27 then (aS xs L (x3 + 1) (fun v194 => aS xs L (x3 + 2) (fun v195 => aS xs L (x3 + 3) (fun v196 => aS xs L (x3 + 4) (fun v197 => bnd (f_X8_odds v194 v195 v196 v197) (fun v198 => aS xs L (x3 + 1) (fun v199 => aS xs L (x3 + 2) (fun v200 => aS xs L (x3 + 3) (fun v201 => aS xs L (x3 + 4) (fun v202 => bnd (f_X9_odds v199 v200 v201 v202) (fun v203 => if (lg_cmp v198 v203) = 0 then (f_L_law_1104 xs L s18 x3) else (rt 0)))))))))))) else (if (v1 &&& 31) = 28 then (bnd f_X8_keep (fun v206 => bnd f_X9_keep (fun v207 => if v206 = v207 then (f_L_law_1104 xs L s18 x3) else (rt 0)))) else (if (v1 &&& 31) = 29 then (bnd f_X8_back (fun v210 => bnd f_X9_back (fun v211 => if v210 = v211 then (f_L_law_1104 xs L s18 x3) else (rt 0)))) else (if (v1 &&& 31) = 30 then (aS xs L (x3 + 1) (fun v214 => bnd (f_X8_count v214) (fun v215 => aS xs L (x3 + 1) (fun v216 => bnd (f_X9_count v216) (fun v217 => if v215 = v217 then (f_L_law_1104 xs L s18 x3) else (rt 0)))))) else (f_L_law_1104 xs L s18 x3)))))))))))))))))))))))))))))))))
set_option maxRecDepth 10000 in
set_option maxHeartbeats 4000000 in
theorem t_L_law_18 {X : Cx} {xs : Nat → Int32} {L : Nat} (hX : Good X RL cL_law (some .boolean)) (hS : StaL X xs L) : ∀ s18 : Int32 → M Int32, (∀ x3 : Int32, Tr X eI 187 14336 18 [(0, .ref (cxAd X 1003)), (1, .ref (cxAd X 0)), (2, .ref (cxAd X 161)), (3, .int x3)] [] (s18 x3)) → ∀ x3 : Int32, Tr X eI 187 14336 18 [(0, .ref (cxAd X 1003)), (1, .ref (cxAd X 0)), (2, .ref (cxAd X 161)), (3, .int x3)] [] (f_L_law_18 xs L s18 x3) := by
  intro s18 hs18 x3
  unfold f_L_law_18
  refine tr_iload_n 3 hX dL_law_18 rfl rfl ?_
  refine tr_aload_n 0 hX dL_law_19 rfl rfl ?_
  refine tr_slen hX hS dL_law_20 ?_
  refine tr_iconst 5 hX dL_law_21 (by decide) ?_
  refine tr_isub hX dL_law_22 ?_
  refine tr_ic_gt 1110 hX dL_law_23 (by decide) (fun c220 => ?_) (fun c220 => ?_)
  · refine tr_iconst 1 hX dL_law_1110 (by decide) ?_
    exact tr_iretL hX hS dL_law_1111
  · refine tr_aload_n 0 hX dL_law_26 rfl rfl ?_
    refine tr_iload_n 3 hX dL_law_27 rfl rfl ?_
    refine tr_sld hX hS dL_law_28 (fun v1 => ?_)
    refine tr_bipush 31 hX dL_law_29 (by decide) ?_
    refine tr_iand hX dL_law_31 ?_
    refine tr_case 0 (fun c11 => ?_) (fun c11 => ?_)
    · refine tr_tabIn 0 172 hX dL_law_32 c11 (by decide) (by decide) rfl (by decide) ?_
      refine tr_aload_n 1 hX dL_law_172 rfl rfl ?_
      refine tr_aload_n 0 hX dL_law_173 rfl rfl ?_
      refine tr_iload_n 3 hX dL_law_174 rfl rfl ?_
      refine tr_iconst 1 hX dL_law_175 (by decide) ?_
      refine tr_iadd hX dL_law_176 ?_
      refine tr_sld hX hS dL_law_177 (fun v2 => ?_)
      refine tr_aload_n 0 hX dL_law_178 rfl rfl ?_
      refine tr_iload_n 3 hX dL_law_179 rfl rfl ?_
      refine tr_iconst 2 hX dL_law_180 (by decide) ?_
      refine tr_iadd hX dL_law_181 ?_
      refine tr_sld hX hS dL_law_182 (fun v3 => ?_)
      refine tr_i2l hX dL_law_183 ?_
      refine tr_bipush 32 hX dL_law_184 (by decide) ?_
      refine tr_lshl hX dL_law_186 ?_
      refine tr_aload_n 0 hX dL_law_187 rfl rfl ?_
      refine tr_iload_n 3 hX dL_law_188 rfl rfl ?_
      refine tr_iconst 3 hX dL_law_189 (by decide) ?_
      refine tr_iadd hX dL_law_190 ?_
      refine tr_sld hX hS dL_law_191 (fun v4 => ?_)
      refine tr_i2l hX dL_law_192 ?_
      refine tr_ldc2 hX dL_law_193 k_1_6 ?_
      refine tr_land hX dL_law_196 ?_
      refine tr_lor hX dL_law_197 ?_
      refine tr_callLI (st := []) 2 hX hS dL_law_198 (ok_X8_write v2 ((v3.toInt64 <<< ((32 : Int32).toInt64 &&& 63)) ||| (v4.toInt64 &&& 4294967295))) sh_0 (by decide) rfl (Nat.le_of_ble_eq_true rfl) k_7_16 k_7_17 k_7_18 k_1_2 k_7_19 hy_X8_write rfl rfl (Nat.le_of_ble_eq_true rfl) rfl (fun v5 => ?_)
      refine tr_aload_n 2 hX dL_law_201 rfl rfl ?_
      refine tr_aload_n 0 hX dL_law_202 rfl rfl ?_
      refine tr_iload_n 3 hX dL_law_203 rfl rfl ?_
      refine tr_iconst 1 hX dL_law_204 (by decide) ?_
      refine tr_iadd hX dL_law_205 ?_
      refine tr_sld hX hS dL_law_206 (fun v6 => ?_)
      refine tr_aload_n 0 hX dL_law_207 rfl rfl ?_
      refine tr_iload_n 3 hX dL_law_208 rfl rfl ?_
      refine tr_iconst 2 hX dL_law_209 (by decide) ?_
      refine tr_iadd hX dL_law_210 ?_
      refine tr_sld hX hS dL_law_211 (fun v7 => ?_)
      refine tr_i2l hX dL_law_212 ?_
      refine tr_bipush 32 hX dL_law_213 (by decide) ?_
      refine tr_lshl hX dL_law_215 ?_
      refine tr_aload_n 0 hX dL_law_216 rfl rfl ?_
      refine tr_iload_n 3 hX dL_law_217 rfl rfl ?_
      refine tr_iconst 3 hX dL_law_218 (by decide) ?_
      refine tr_iadd hX dL_law_219 ?_
      refine tr_sld hX hS dL_law_220 (fun v8 => ?_)
      refine tr_i2l hX dL_law_221 ?_
      refine tr_ldc2 hX dL_law_222 k_1_6 ?_
      refine tr_land hX dL_law_225 ?_
      refine tr_lor hX dL_law_226 ?_
      refine tr_callLI (st := [.int v5]) 2 hX hS dL_law_227 (ok_X9_write v6 ((v7.toInt64 <<< ((32 : Int32).toInt64 &&& 63)) ||| (v8.toInt64 &&& 4294967295))) sh_161 (by decide) rfl (Nat.le_of_ble_eq_true rfl) k_8_1 k_8_2 k_8_3 k_1_5 k_8_4 hy_X9_write rfl rfl (Nat.le_of_ble_eq_true rfl) rfl (fun v9 => ?_)
      refine tr_ic_eq 1104 hX dL_law_230 (by decide) (fun c10 => ?_) (fun c10 => ?_)
      · exact tr_sub [0, 1, 2, 3] rfl (t_L_law_1104 hX hS s18 x3 hs18)
      · refine tr_iconst 0 hX dL_law_233 (by decide) ?_
        exact tr_iretL hX hS dL_law_234
    refine tr_case 1 (fun c15 => ?_) (fun c15 => ?_)
    · refine tr_tabIn 1 235 hX dL_law_32 c15 (by decide) (by decide) rfl (by decide) ?_
      refine tr_aload_n 1 hX dL_law_235 rfl rfl ?_
      refine tr_callLI (st := []) 0 hX hS dL_law_236 (ok_X8_wipe) sh_0 (by decide) rfl (Nat.le_of_ble_eq_true rfl) k_8_11 k_8_12 k_8_13 k_1_2 k_8_14 hy_X8_wipe rfl rfl (Nat.le_of_ble_eq_true rfl) rfl (fun v12 => ?_)
      refine tr_aload_n 2 hX dL_law_239 rfl rfl ?_
      refine tr_callLI (st := [.int v12]) 0 hX hS dL_law_240 (ok_X9_wipe) sh_161 (by decide) rfl (Nat.le_of_ble_eq_true rfl) k_8_16 k_8_17 k_8_18 k_1_5 k_8_19 hy_X9_wipe rfl rfl (Nat.le_of_ble_eq_true rfl) rfl (fun v13 => ?_)
      refine tr_ic_eq 1104 hX dL_law_243 (by decide) (fun c14 => ?_) (fun c14 => ?_)
      · exact tr_sub [0, 1, 2, 3] rfl (t_L_law_1104 hX hS s18 x3 hs18)
      · refine tr_iconst 0 hX dL_law_246 (by decide) ?_
        exact tr_iretL hX hS dL_law_247
    refine tr_case 2 (fun c19 => ?_) (fun c19 => ?_)
    · refine tr_tabIn 2 248 hX dL_law_32 c19 (by decide) (by decide) rfl (by decide) ?_
      refine tr_aload_n 1 hX dL_law_248 rfl rfl ?_
      refine tr_callLI (st := []) 0 hX hS dL_law_249 (ok_X8_fault) sh_0 (by decide) rfl (Nat.le_of_ble_eq_true rfl) k_8_20 k_8_21 k_8_22 k_1_2 k_8_23 hy_X8_fault rfl rfl (Nat.le_of_ble_eq_true rfl) rfl (fun v16 => ?_)
      refine tr_aload_n 2 hX dL_law_252 rfl rfl ?_
      refine tr_callLI (st := [.int v16]) 0 hX hS dL_law_253 (ok_X9_fault) sh_161 (by decide) rfl (Nat.le_of_ble_eq_true rfl) k_10_5 k_10_6 k_10_7 k_1_5 k_10_8 hy_X9_fault rfl rfl (Nat.le_of_ble_eq_true rfl) rfl (fun v17 => ?_)
      refine tr_ic_eq 1104 hX dL_law_256 (by decide) (fun c18 => ?_) (fun c18 => ?_)
      · exact tr_sub [0, 1, 2, 3] rfl (t_L_law_1104 hX hS s18 x3 hs18)
      · refine tr_iconst 0 hX dL_law_259 (by decide) ?_
        exact tr_iretL hX hS dL_law_260
    refine tr_case 3 (fun c23 => ?_) (fun c23 => ?_)
    · refine tr_tabIn 3 261 hX dL_law_32 c23 (by decide) (by decide) rfl (by decide) ?_
      refine tr_aload_n 1 hX dL_law_261 rfl rfl ?_
      refine tr_callLI (st := []) 0 hX hS dL_law_262 (ok_X8_lay) sh_0 (by decide) rfl (Nat.le_of_ble_eq_true rfl) k_11_14 k_11_15 k_11_16 k_1_2 k_11_17 hy_X8_lay rfl rfl (Nat.le_of_ble_eq_true rfl) rfl (fun v20 => ?_)
      refine tr_aload_n 2 hX dL_law_265 rfl rfl ?_
      refine tr_callLI (st := [.int v20]) 0 hX hS dL_law_266 (ok_X9_lay) sh_161 (by decide) rfl (Nat.le_of_ble_eq_true rfl) k_12_7 k_12_8 k_12_9 k_1_5 k_12_10 hy_X9_lay rfl rfl (Nat.le_of_ble_eq_true rfl) rfl (fun v21 => ?_)
      refine tr_ic_eq 1104 hX dL_law_269 (by decide) (fun c22 => ?_) (fun c22 => ?_)
      · exact tr_sub [0, 1, 2, 3] rfl (t_L_law_1104 hX hS s18 x3 hs18)
      · refine tr_iconst 0 hX dL_law_272 (by decide) ?_
        exact tr_iretL hX hS dL_law_273
    refine tr_case 4 (fun c31 => ?_) (fun c31 => ?_)
    · refine tr_tabIn 4 274 hX dL_law_32 c31 (by decide) (by decide) rfl (by decide) ?_
      refine tr_aload_n 1 hX dL_law_274 rfl rfl ?_
      refine tr_aload_n 0 hX dL_law_275 rfl rfl ?_
      refine tr_iload_n 3 hX dL_law_276 rfl rfl ?_
      refine tr_iconst 1 hX dL_law_277 (by decide) ?_
      refine tr_iadd hX dL_law_278 ?_
      refine tr_sld hX hS dL_law_279 (fun v24 => ?_)
      refine tr_aload_n 0 hX dL_law_280 rfl rfl ?_
      refine tr_iload_n 3 hX dL_law_281 rfl rfl ?_
      refine tr_iconst 2 hX dL_law_282 (by decide) ?_
      refine tr_iadd hX dL_law_283 ?_
      refine tr_sld hX hS dL_law_284 (fun v25 => ?_)
      refine tr_callLI (st := []) 2 hX hS dL_law_285 (ok_X8_joined v24 v25) sh_0 (by decide) rfl (Nat.le_of_ble_eq_true rfl) k_12_14 k_12_15 k_12_16 k_1_2 k_12_17 hy_X8_joined rfl rfl (Nat.le_of_ble_eq_true rfl) rfl (fun v26 => ?_)
      refine tr_aload_n 2 hX dL_law_288 rfl rfl ?_
      refine tr_aload_n 0 hX dL_law_289 rfl rfl ?_
      refine tr_iload_n 3 hX dL_law_290 rfl rfl ?_
      refine tr_iconst 1 hX dL_law_291 (by decide) ?_
      refine tr_iadd hX dL_law_292 ?_
      refine tr_sld hX hS dL_law_293 (fun v27 => ?_)
      refine tr_aload_n 0 hX dL_law_294 rfl rfl ?_
      refine tr_iload_n 3 hX dL_law_295 rfl rfl ?_
      refine tr_iconst 2 hX dL_law_296 (by decide) ?_
      refine tr_iadd hX dL_law_297 ?_
      refine tr_sld hX hS dL_law_298 (fun v28 => ?_)
      refine tr_callLI (st := [.int v26]) 2 hX hS dL_law_299 (ok_X9_joined v27 v28) sh_161 (by decide) rfl (Nat.le_of_ble_eq_true rfl) k_12_22 k_12_23 k_13_0 k_1_5 k_13_1 hy_X9_joined rfl rfl (Nat.le_of_ble_eq_true rfl) rfl (fun v29 => ?_)
      refine tr_ic_eq 1104 hX dL_law_302 (by decide) (fun c30 => ?_) (fun c30 => ?_)
      · exact tr_sub [0, 1, 2, 3] rfl (t_L_law_1104 hX hS s18 x3 hs18)
      · refine tr_iconst 0 hX dL_law_305 (by decide) ?_
        exact tr_iretL hX hS dL_law_306
    refine tr_case 5 (fun c39 => ?_) (fun c39 => ?_)
    · refine tr_tabIn 5 307 hX dL_law_32 c39 (by decide) (by decide) rfl (by decide) ?_
      refine tr_aload_n 1 hX dL_law_307 rfl rfl ?_
      refine tr_aload_n 0 hX dL_law_308 rfl rfl ?_
      refine tr_iload_n 3 hX dL_law_309 rfl rfl ?_
      refine tr_iconst 1 hX dL_law_310 (by decide) ?_
      refine tr_iadd hX dL_law_311 ?_
      refine tr_sld hX hS dL_law_312 (fun v32 => ?_)
      refine tr_aload_n 0 hX dL_law_313 rfl rfl ?_
      refine tr_iload_n 3 hX dL_law_314 rfl rfl ?_
      refine tr_iconst 2 hX dL_law_315 (by decide) ?_
      refine tr_iadd hX dL_law_316 ?_
      refine tr_sld hX hS dL_law_317 (fun v33 => ?_)
      refine tr_callLI (st := []) 2 hX hS dL_law_318 (ok_X8_add v32 v33) sh_0 (by decide) rfl (Nat.le_of_ble_eq_true rfl) k_13_2 k_13_3 k_13_4 k_1_2 k_13_5 hy_X8_add rfl rfl (Nat.le_of_ble_eq_true rfl) rfl (fun v34 => ?_)
      refine tr_aload_n 2 hX dL_law_321 rfl rfl ?_
      refine tr_aload_n 0 hX dL_law_322 rfl rfl ?_
      refine tr_iload_n 3 hX dL_law_323 rfl rfl ?_
      refine tr_iconst 1 hX dL_law_324 (by decide) ?_
      refine tr_iadd hX dL_law_325 ?_
      refine tr_sld hX hS dL_law_326 (fun v35 => ?_)
      refine tr_aload_n 0 hX dL_law_327 rfl rfl ?_
      refine tr_iload_n 3 hX dL_law_328 rfl rfl ?_
      refine tr_iconst 2 hX dL_law_329 (by decide) ?_
      refine tr_iadd hX dL_law_330 ?_
      refine tr_sld hX hS dL_law_331 (fun v36 => ?_)
      refine tr_callLI (st := [.int v34]) 2 hX hS dL_law_332 (ok_X9_add v35 v36) sh_161 (by decide) rfl (Nat.le_of_ble_eq_true rfl) k_13_8 k_13_9 k_13_10 k_1_5 k_13_11 hy_X9_add rfl rfl (Nat.le_of_ble_eq_true rfl) rfl (fun v37 => ?_)
      refine tr_ic_eq 1104 hX dL_law_335 (by decide) (fun c38 => ?_) (fun c38 => ?_)
      · exact tr_sub [0, 1, 2, 3] rfl (t_L_law_1104 hX hS s18 x3 hs18)
      · refine tr_iconst 0 hX dL_law_338 (by decide) ?_
        exact tr_iretL hX hS dL_law_339
    refine tr_case 6 (fun c45 => ?_) (fun c45 => ?_)
    · refine tr_tabIn 6 340 hX dL_law_32 c45 (by decide) (by decide) rfl (by decide) ?_
      refine tr_aload_n 1 hX dL_law_340 rfl rfl ?_
      refine tr_aload_n 0 hX dL_law_341 rfl rfl ?_
      refine tr_iload_n 3 hX dL_law_342 rfl rfl ?_
      refine tr_iconst 1 hX dL_law_343 (by decide) ?_
      refine tr_iadd hX dL_law_344 ?_
      refine tr_sld hX hS dL_law_345 (fun v40 => ?_)
      refine tr_callLI (st := []) 1 hX hS dL_law_346 (ok_X8_clear v40) sh_0 (by decide) rfl (Nat.le_of_ble_eq_true rfl) k_13_20 k_13_21 k_13_22 k_1_2 k_13_23 hy_X8_clear rfl rfl (Nat.le_of_ble_eq_true rfl) rfl (fun v41 => ?_)
      refine tr_aload_n 2 hX dL_law_349 rfl rfl ?_
      refine tr_aload_n 0 hX dL_law_350 rfl rfl ?_
      refine tr_iload_n 3 hX dL_law_351 rfl rfl ?_
      refine tr_iconst 1 hX dL_law_352 (by decide) ?_
      refine tr_iadd hX dL_law_353 ?_
      refine tr_sld hX hS dL_law_354 (fun v42 => ?_)
      refine tr_callLI (st := [.int v41]) 1 hX hS dL_law_355 (ok_X9_clear v42) sh_161 (by decide) rfl (Nat.le_of_ble_eq_true rfl) k_14_0 k_14_1 k_14_2 k_1_5 k_14_3 hy_X9_clear rfl rfl (Nat.le_of_ble_eq_true rfl) rfl (fun v43 => ?_)
      refine tr_ic_eq 1104 hX dL_law_358 (by decide) (fun c44 => ?_) (fun c44 => ?_)
      · exact tr_sub [0, 1, 2, 3] rfl (t_L_law_1104 hX hS s18 x3 hs18)
      · refine tr_iconst 0 hX dL_law_361 (by decide) ?_
        exact tr_iretL hX hS dL_law_362
    refine tr_case 7 (fun c53 => ?_) (fun c53 => ?_)
    · refine tr_tabIn 7 363 hX dL_law_32 c53 (by decide) (by decide) rfl (by decide) ?_
      refine tr_aload_n 1 hX dL_law_363 rfl rfl ?_
      refine tr_aload_n 0 hX dL_law_364 rfl rfl ?_
      refine tr_iload_n 3 hX dL_law_365 rfl rfl ?_
      refine tr_iconst 1 hX dL_law_366 (by decide) ?_
      refine tr_iadd hX dL_law_367 ?_
      refine tr_sld hX hS dL_law_368 (fun v46 => ?_)
      refine tr_aload_n 0 hX dL_law_369 rfl rfl ?_
      refine tr_iload_n 3 hX dL_law_370 rfl rfl ?_
      refine tr_iconst 2 hX dL_law_371 (by decide) ?_
      refine tr_iadd hX dL_law_372 ?_
      refine tr_sld hX hS dL_law_373 (fun v47 => ?_)
      refine tr_callLI (st := []) 2 hX hS dL_law_374 (ok_X8_word v46 v47) sh_0 (by decide) rfl (Nat.le_of_ble_eq_true rfl) k_14_4 k_14_5 k_14_6 k_1_2 k_14_7 hy_X8_word rfl rfl (Nat.le_of_ble_eq_true rfl) rfl (fun v48 => ?_)
      refine tr_aload_n 2 hX dL_law_377 rfl rfl ?_
      refine tr_aload_n 0 hX dL_law_378 rfl rfl ?_
      refine tr_iload_n 3 hX dL_law_379 rfl rfl ?_
      refine tr_iconst 1 hX dL_law_380 (by decide) ?_
      refine tr_iadd hX dL_law_381 ?_
      refine tr_sld hX hS dL_law_382 (fun v49 => ?_)
      refine tr_aload_n 0 hX dL_law_383 rfl rfl ?_
      refine tr_iload_n 3 hX dL_law_384 rfl rfl ?_
      refine tr_iconst 2 hX dL_law_385 (by decide) ?_
      refine tr_iadd hX dL_law_386 ?_
      refine tr_sld hX hS dL_law_387 (fun v50 => ?_)
      refine tr_callLI (st := [.int v48]) 2 hX hS dL_law_388 (ok_X9_word v49 v50) sh_161 (by decide) rfl (Nat.le_of_ble_eq_true rfl) k_14_8 k_14_9 k_14_10 k_1_5 k_14_11 hy_X9_word rfl rfl (Nat.le_of_ble_eq_true rfl) rfl (fun v51 => ?_)
      refine tr_ic_eq 1104 hX dL_law_391 (by decide) (fun c52 => ?_) (fun c52 => ?_)
      · exact tr_sub [0, 1, 2, 3] rfl (t_L_law_1104 hX hS s18 x3 hs18)
      · refine tr_iconst 0 hX dL_law_394 (by decide) ?_
        exact tr_iretL hX hS dL_law_395
    refine tr_case 8 (fun c63 => ?_) (fun c63 => ?_)
    · refine tr_tabIn 8 396 hX dL_law_32 c63 (by decide) (by decide) rfl (by decide) ?_
      refine tr_aload_n 1 hX dL_law_396 rfl rfl ?_
      refine tr_aload_n 0 hX dL_law_397 rfl rfl ?_
      refine tr_iload_n 3 hX dL_law_398 rfl rfl ?_
      refine tr_iconst 1 hX dL_law_399 (by decide) ?_
      refine tr_iadd hX dL_law_400 ?_
      refine tr_sld hX hS dL_law_401 (fun v54 => ?_)
      refine tr_aload_n 0 hX dL_law_402 rfl rfl ?_
      refine tr_iload_n 3 hX dL_law_403 rfl rfl ?_
      refine tr_iconst 2 hX dL_law_404 (by decide) ?_
      refine tr_iadd hX dL_law_405 ?_
      refine tr_sld hX hS dL_law_406 (fun v55 => ?_)
      refine tr_aload_n 0 hX dL_law_407 rfl rfl ?_
      refine tr_iload_n 3 hX dL_law_408 rfl rfl ?_
      refine tr_iconst 3 hX dL_law_409 (by decide) ?_
      refine tr_iadd hX dL_law_410 ?_
      refine tr_sld hX hS dL_law_411 (fun v56 => ?_)
      refine tr_callLI (st := []) 3 hX hS dL_law_412 (ok_X8_said v54 v55 v56) sh_0 (by decide) rfl (Nat.le_of_ble_eq_true rfl) k_14_15 k_14_16 k_14_17 k_1_2 k_14_18 hy_X8_said rfl rfl (Nat.le_of_ble_eq_true rfl) rfl (fun v57 => ?_)
      refine tr_aload_n 2 hX dL_law_415 rfl rfl ?_
      refine tr_aload_n 0 hX dL_law_416 rfl rfl ?_
      refine tr_iload_n 3 hX dL_law_417 rfl rfl ?_
      refine tr_iconst 1 hX dL_law_418 (by decide) ?_
      refine tr_iadd hX dL_law_419 ?_
      refine tr_sld hX hS dL_law_420 (fun v58 => ?_)
      refine tr_aload_n 0 hX dL_law_421 rfl rfl ?_
      refine tr_iload_n 3 hX dL_law_422 rfl rfl ?_
      refine tr_iconst 2 hX dL_law_423 (by decide) ?_
      refine tr_iadd hX dL_law_424 ?_
      refine tr_sld hX hS dL_law_425 (fun v59 => ?_)
      refine tr_aload_n 0 hX dL_law_426 rfl rfl ?_
      refine tr_iload_n 3 hX dL_law_427 rfl rfl ?_
      refine tr_iconst 3 hX dL_law_428 (by decide) ?_
      refine tr_iadd hX dL_law_429 ?_
      refine tr_sld hX hS dL_law_430 (fun v60 => ?_)
      refine tr_callLI (st := [.int v57]) 3 hX hS dL_law_431 (ok_X9_said v58 v59 v60) sh_161 (by decide) rfl (Nat.le_of_ble_eq_true rfl) k_16_4 k_16_5 k_16_6 k_1_5 k_16_7 hy_X9_said rfl rfl (Nat.le_of_ble_eq_true rfl) rfl (fun v61 => ?_)
      refine tr_ic_eq 1104 hX dL_law_434 (by decide) (fun c62 => ?_) (fun c62 => ?_)
      · exact tr_sub [0, 1, 2, 3] rfl (t_L_law_1104 hX hS s18 x3 hs18)
      · refine tr_iconst 0 hX dL_law_437 (by decide) ?_
        exact tr_iretL hX hS dL_law_438
    refine tr_case 9 (fun c71 => ?_) (fun c71 => ?_)
    · refine tr_tabIn 9 439 hX dL_law_32 c71 (by decide) (by decide) rfl (by decide) ?_
      refine tr_aload_n 1 hX dL_law_439 rfl rfl ?_
      refine tr_aload_n 0 hX dL_law_440 rfl rfl ?_
      refine tr_iload_n 3 hX dL_law_441 rfl rfl ?_
      refine tr_iconst 1 hX dL_law_442 (by decide) ?_
      refine tr_iadd hX dL_law_443 ?_
      refine tr_sld hX hS dL_law_444 (fun v64 => ?_)
      refine tr_aload_n 0 hX dL_law_445 rfl rfl ?_
      refine tr_iload_n 3 hX dL_law_446 rfl rfl ?_
      refine tr_iconst 2 hX dL_law_447 (by decide) ?_
      refine tr_iadd hX dL_law_448 ?_
      refine tr_sld hX hS dL_law_449 (fun v65 => ?_)
      refine tr_callLI (st := []) 2 hX hS dL_law_450 (ok_X8_say v64 v65) sh_0 (by decide) rfl (Nat.le_of_ble_eq_true rfl) k_18_11 k_18_12 k_18_13 k_1_2 k_18_14 hy_X8_say rfl rfl (Nat.le_of_ble_eq_true rfl) rfl (fun v66 => ?_)
      refine tr_aload_n 2 hX dL_law_453 rfl rfl ?_
      refine tr_aload_n 0 hX dL_law_454 rfl rfl ?_
      refine tr_iload_n 3 hX dL_law_455 rfl rfl ?_
      refine tr_iconst 1 hX dL_law_456 (by decide) ?_
      refine tr_iadd hX dL_law_457 ?_
      refine tr_sld hX hS dL_law_458 (fun v67 => ?_)
      refine tr_aload_n 0 hX dL_law_459 rfl rfl ?_
      refine tr_iload_n 3 hX dL_law_460 rfl rfl ?_
      refine tr_iconst 2 hX dL_law_461 (by decide) ?_
      refine tr_iadd hX dL_law_462 ?_
      refine tr_sld hX hS dL_law_463 (fun v68 => ?_)
      refine tr_callLI (st := [.int v66]) 2 hX hS dL_law_464 (ok_X9_say v67 v68) sh_161 (by decide) rfl (Nat.le_of_ble_eq_true rfl) k_18_19 k_18_20 k_18_21 k_1_5 k_18_22 hy_X9_say rfl rfl (Nat.le_of_ble_eq_true rfl) rfl (fun v69 => ?_)
      refine tr_ic_eq 1104 hX dL_law_467 (by decide) (fun c70 => ?_) (fun c70 => ?_)
      · exact tr_sub [0, 1, 2, 3] rfl (t_L_law_1104 hX hS s18 x3 hs18)
      · refine tr_iconst 0 hX dL_law_470 (by decide) ?_
        exact tr_iretL hX hS dL_law_471
    refine tr_case 10 (fun c79 => ?_) (fun c79 => ?_)
    · refine tr_tabIn 10 472 hX dL_law_32 c79 (by decide) (by decide) rfl (by decide) ?_
      refine tr_aload_n 1 hX dL_law_472 rfl rfl ?_
      refine tr_aload_n 0 hX dL_law_473 rfl rfl ?_
      refine tr_iload_n 3 hX dL_law_474 rfl rfl ?_
      refine tr_iconst 1 hX dL_law_475 (by decide) ?_
      refine tr_iadd hX dL_law_476 ?_
      refine tr_sld hX hS dL_law_477 (fun v72 => ?_)
      refine tr_aload_n 0 hX dL_law_478 rfl rfl ?_
      refine tr_iload_n 3 hX dL_law_479 rfl rfl ?_
      refine tr_iconst 2 hX dL_law_480 (by decide) ?_
      refine tr_iadd hX dL_law_481 ?_
      refine tr_sld hX hS dL_law_482 (fun v73 => ?_)
      refine tr_callLI (st := []) 2 hX hS dL_law_483 (ok_X8_alter v72 v73) sh_0 (by decide) rfl (Nat.le_of_ble_eq_true rfl) k_18_23 k_19_0 k_19_1 k_1_2 k_19_2 hy_X8_alter rfl rfl (Nat.le_of_ble_eq_true rfl) rfl (fun v74 => ?_)
      refine tr_aload_n 2 hX dL_law_486 rfl rfl ?_
      refine tr_aload_n 0 hX dL_law_487 rfl rfl ?_
      refine tr_iload_n 3 hX dL_law_488 rfl rfl ?_
      refine tr_iconst 1 hX dL_law_489 (by decide) ?_
      refine tr_iadd hX dL_law_490 ?_
      refine tr_sld hX hS dL_law_491 (fun v75 => ?_)
      refine tr_aload_n 0 hX dL_law_492 rfl rfl ?_
      refine tr_iload_n 3 hX dL_law_493 rfl rfl ?_
      refine tr_iconst 2 hX dL_law_494 (by decide) ?_
      refine tr_iadd hX dL_law_495 ?_
      refine tr_sld hX hS dL_law_496 (fun v76 => ?_)
      refine tr_callLI (st := [.int v74]) 2 hX hS dL_law_497 (ok_X9_alter v75 v76) sh_161 (by decide) rfl (Nat.le_of_ble_eq_true rfl) k_19_3 k_19_4 k_19_5 k_1_5 k_19_6 hy_X9_alter rfl rfl (Nat.le_of_ble_eq_true rfl) rfl (fun v77 => ?_)
      refine tr_ic_eq 1104 hX dL_law_500 (by decide) (fun c78 => ?_) (fun c78 => ?_)
      · exact tr_sub [0, 1, 2, 3] rfl (t_L_law_1104 hX hS s18 x3 hs18)
      · refine tr_iconst 0 hX dL_law_503 (by decide) ?_
        exact tr_iretL hX hS dL_law_504
    refine tr_case 11 (fun c83 => ?_) (fun c83 => ?_)
    · refine tr_tabIn 11 505 hX dL_law_32 c83 (by decide) (by decide) rfl (by decide) ?_
      refine tr_aload_n 1 hX dL_law_505 rfl rfl ?_
      refine tr_callLL (st := []) 0 hX hS dL_law_506 (ok_X8_soundSo) sh_0 (by decide) rfl (Nat.le_of_ble_eq_true rfl) k_19_8 k_19_9 k_19_10 k_1_2 k_19_11 hy_X8_soundSo rfl rfl (Nat.le_of_ble_eq_true rfl) rfl (fun v80 => ?_)
      refine tr_aload_n 2 hX dL_law_509 rfl rfl ?_
      refine tr_callLL (st := [.long v80]) 0 hX hS dL_law_510 (ok_X9_soundSo) sh_161 (by decide) rfl (Nat.le_of_ble_eq_true rfl) k_23_2 k_23_3 k_23_4 k_1_5 k_23_5 hy_X9_soundSo rfl rfl (Nat.le_of_ble_eq_true rfl) rfl (fun v81 => ?_)
      refine tr_lcmp hX dL_law_513 ?_
      refine tr_if_eq 1104 hX dL_law_514 (by decide) (fun c82 => ?_) (fun c82 => ?_)
      · exact tr_sub [0, 1, 2, 3] rfl (t_L_law_1104 hX hS s18 x3 hs18)
      · refine tr_iconst 0 hX dL_law_517 (by decide) ?_
        exact tr_iretL hX hS dL_law_518
    refine tr_case 12 (fun c89 => ?_) (fun c89 => ?_)
    · refine tr_tabIn 12 519 hX dL_law_32 c89 (by decide) (by decide) rfl (by decide) ?_
      refine tr_aload_n 1 hX dL_law_519 rfl rfl ?_
      refine tr_aload_n 0 hX dL_law_520 rfl rfl ?_
      refine tr_iload_n 3 hX dL_law_521 rfl rfl ?_
      refine tr_iconst 1 hX dL_law_522 (by decide) ?_
      refine tr_iadd hX dL_law_523 ?_
      refine tr_sld hX hS dL_law_524 (fun v84 => ?_)
      refine tr_callLI (st := []) 1 hX hS dL_law_525 (ok_X8_nearest v84) sh_0 (by decide) rfl (Nat.le_of_ble_eq_true rfl) k_24_3 k_24_4 k_24_5 k_1_2 k_24_6 hy_X8_nearest rfl rfl (Nat.le_of_ble_eq_true rfl) rfl (fun v85 => ?_)
      refine tr_aload_n 2 hX dL_law_528 rfl rfl ?_
      refine tr_aload_n 0 hX dL_law_529 rfl rfl ?_
      refine tr_iload_n 3 hX dL_law_530 rfl rfl ?_
      refine tr_iconst 1 hX dL_law_531 (by decide) ?_
      refine tr_iadd hX dL_law_532 ?_
      refine tr_sld hX hS dL_law_533 (fun v86 => ?_)
      refine tr_callLI (st := [.int v85]) 1 hX hS dL_law_534 (ok_X9_nearest v86) sh_161 (by decide) rfl (Nat.le_of_ble_eq_true rfl) k_24_15 k_24_16 k_24_17 k_1_5 k_24_18 hy_X9_nearest rfl rfl (Nat.le_of_ble_eq_true rfl) rfl (fun v87 => ?_)
      refine tr_ic_eq 1104 hX dL_law_537 (by decide) (fun c88 => ?_) (fun c88 => ?_)
      · exact tr_sub [0, 1, 2, 3] rfl (t_L_law_1104 hX hS s18 x3 hs18)
      · refine tr_iconst 0 hX dL_law_540 (by decide) ?_
        exact tr_iretL hX hS dL_law_541
    refine tr_case 13 (fun c93 => ?_) (fun c93 => ?_)
    · refine tr_tabIn 13 542 hX dL_law_32 c93 (by decide) (by decide) rfl (by decide) ?_
      refine tr_aload_n 1 hX dL_law_542 rfl rfl ?_
      refine tr_callLL (st := []) 0 hX hS dL_law_543 (ok_X8_rivals) sh_0 (by decide) rfl (Nat.le_of_ble_eq_true rfl) k_24_19 k_24_20 k_24_21 k_1_2 k_24_22 hy_X8_rivals rfl rfl (Nat.le_of_ble_eq_true rfl) rfl (fun v90 => ?_)
      refine tr_aload_n 2 hX dL_law_546 rfl rfl ?_
      refine tr_callLL (st := [.long v90]) 0 hX hS dL_law_547 (ok_X9_rivals) sh_161 (by decide) rfl (Nat.le_of_ble_eq_true rfl) k_24_23 k_25_0 k_25_1 k_1_5 k_25_2 hy_X9_rivals rfl rfl (Nat.le_of_ble_eq_true rfl) rfl (fun v91 => ?_)
      refine tr_lcmp hX dL_law_550 ?_
      refine tr_if_eq 1104 hX dL_law_551 (by decide) (fun c92 => ?_) (fun c92 => ?_)
      · exact tr_sub [0, 1, 2, 3] rfl (t_L_law_1104 hX hS s18 x3 hs18)
      · refine tr_iconst 0 hX dL_law_554 (by decide) ?_
        exact tr_iretL hX hS dL_law_555
    refine tr_case 14 (fun c103 => ?_) (fun c103 => ?_)
    · refine tr_tabIn 14 556 hX dL_law_32 c103 (by decide) (by decide) rfl (by decide) ?_
      refine tr_aload_n 1 hX dL_law_556 rfl rfl ?_
      refine tr_aload_n 0 hX dL_law_557 rfl rfl ?_
      refine tr_iload_n 3 hX dL_law_558 rfl rfl ?_
      refine tr_iconst 1 hX dL_law_559 (by decide) ?_
      refine tr_iadd hX dL_law_560 ?_
      refine tr_sld hX hS dL_law_561 (fun v94 => ?_)
      refine tr_aload_n 0 hX dL_law_562 rfl rfl ?_
      refine tr_iload_n 3 hX dL_law_563 rfl rfl ?_
      refine tr_iconst 2 hX dL_law_564 (by decide) ?_
      refine tr_iadd hX dL_law_565 ?_
      refine tr_sld hX hS dL_law_566 (fun v95 => ?_)
      refine tr_aload_n 0 hX dL_law_567 rfl rfl ?_
      refine tr_iload_n 3 hX dL_law_568 rfl rfl ?_
      refine tr_iconst 3 hX dL_law_569 (by decide) ?_
      refine tr_iadd hX dL_law_570 ?_
      refine tr_sld hX hS dL_law_571 (fun v96 => ?_)
      refine tr_callLI (st := []) 3 hX hS dL_law_572 (ok_X8_far v94 v95 v96) sh_0 (by decide) rfl (Nat.le_of_ble_eq_true rfl) k_25_3 k_25_4 k_25_5 k_1_2 k_25_6 hy_X8_far rfl rfl (Nat.le_of_ble_eq_true rfl) rfl (fun v97 => ?_)
      refine tr_aload_n 2 hX dL_law_575 rfl rfl ?_
      refine tr_aload_n 0 hX dL_law_576 rfl rfl ?_
      refine tr_iload_n 3 hX dL_law_577 rfl rfl ?_
      refine tr_iconst 1 hX dL_law_578 (by decide) ?_
      refine tr_iadd hX dL_law_579 ?_
      refine tr_sld hX hS dL_law_580 (fun v98 => ?_)
      refine tr_aload_n 0 hX dL_law_581 rfl rfl ?_
      refine tr_iload_n 3 hX dL_law_582 rfl rfl ?_
      refine tr_iconst 2 hX dL_law_583 (by decide) ?_
      refine tr_iadd hX dL_law_584 ?_
      refine tr_sld hX hS dL_law_585 (fun v99 => ?_)
      refine tr_aload_n 0 hX dL_law_586 rfl rfl ?_
      refine tr_iload_n 3 hX dL_law_587 rfl rfl ?_
      refine tr_iconst 3 hX dL_law_588 (by decide) ?_
      refine tr_iadd hX dL_law_589 ?_
      refine tr_sld hX hS dL_law_590 (fun v100 => ?_)
      refine tr_callLI (st := [.int v97]) 3 hX hS dL_law_591 (ok_X9_far v98 v99 v100) sh_161 (by decide) rfl (Nat.le_of_ble_eq_true rfl) k_26_3 k_26_4 k_26_5 k_1_5 k_26_6 hy_X9_far rfl rfl (Nat.le_of_ble_eq_true rfl) rfl (fun v101 => ?_)
      refine tr_ic_eq 1104 hX dL_law_594 (by decide) (fun c102 => ?_) (fun c102 => ?_)
      · exact tr_sub [0, 1, 2, 3] rfl (t_L_law_1104 hX hS s18 x3 hs18)
      · refine tr_iconst 0 hX dL_law_597 (by decide) ?_
        exact tr_iretL hX hS dL_law_598
    refine tr_case 15 (fun c113 => ?_) (fun c113 => ?_)
    · refine tr_tabIn 15 599 hX dL_law_32 c113 (by decide) (by decide) rfl (by decide) ?_
      refine tr_aload_n 1 hX dL_law_599 rfl rfl ?_
      refine tr_aload_n 0 hX dL_law_600 rfl rfl ?_
      refine tr_iload_n 3 hX dL_law_601 rfl rfl ?_
      refine tr_iconst 1 hX dL_law_602 (by decide) ?_
      refine tr_iadd hX dL_law_603 ?_
      refine tr_sld hX hS dL_law_604 (fun v104 => ?_)
      refine tr_aload_n 0 hX dL_law_605 rfl rfl ?_
      refine tr_iload_n 3 hX dL_law_606 rfl rfl ?_
      refine tr_iconst 2 hX dL_law_607 (by decide) ?_
      refine tr_iadd hX dL_law_608 ?_
      refine tr_sld hX hS dL_law_609 (fun v105 => ?_)
      refine tr_aload_n 0 hX dL_law_610 rfl rfl ?_
      refine tr_iload_n 3 hX dL_law_611 rfl rfl ?_
      refine tr_iconst 3 hX dL_law_612 (by decide) ?_
      refine tr_iadd hX dL_law_613 ?_
      refine tr_sld hX hS dL_law_614 (fun v106 => ?_)
      refine tr_callLI (st := []) 3 hX hS dL_law_615 (ok_X8_best v104 v105 v106) sh_0 (by decide) rfl (Nat.le_of_ble_eq_true rfl) k_26_12 k_26_13 k_26_14 k_1_2 k_26_15 hy_X8_best rfl rfl (Nat.le_of_ble_eq_true rfl) rfl (fun v107 => ?_)
      refine tr_aload_n 2 hX dL_law_618 rfl rfl ?_
      refine tr_aload_n 0 hX dL_law_619 rfl rfl ?_
      refine tr_iload_n 3 hX dL_law_620 rfl rfl ?_
      refine tr_iconst 1 hX dL_law_621 (by decide) ?_
      refine tr_iadd hX dL_law_622 ?_
      refine tr_sld hX hS dL_law_623 (fun v108 => ?_)
      refine tr_aload_n 0 hX dL_law_624 rfl rfl ?_
      refine tr_iload_n 3 hX dL_law_625 rfl rfl ?_
      refine tr_iconst 2 hX dL_law_626 (by decide) ?_
      refine tr_iadd hX dL_law_627 ?_
      refine tr_sld hX hS dL_law_628 (fun v109 => ?_)
      refine tr_aload_n 0 hX dL_law_629 rfl rfl ?_
      refine tr_iload_n 3 hX dL_law_630 rfl rfl ?_
      refine tr_iconst 3 hX dL_law_631 (by decide) ?_
      refine tr_iadd hX dL_law_632 ?_
      refine tr_sld hX hS dL_law_633 (fun v110 => ?_)
      refine tr_callLI (st := [.int v107]) 3 hX hS dL_law_634 (ok_X9_best v108 v109 v110) sh_161 (by decide) rfl (Nat.le_of_ble_eq_true rfl) k_27_6 k_27_7 k_27_8 k_1_5 k_27_9 hy_X9_best rfl rfl (Nat.le_of_ble_eq_true rfl) rfl (fun v111 => ?_)
      refine tr_ic_eq 1104 hX dL_law_637 (by decide) (fun c112 => ?_) (fun c112 => ?_)
      · exact tr_sub [0, 1, 2, 3] rfl (t_L_law_1104 hX hS s18 x3 hs18)
      · refine tr_iconst 0 hX dL_law_640 (by decide) ?_
        exact tr_iretL hX hS dL_law_641
    refine tr_case 16 (fun c123 => ?_) (fun c123 => ?_)
    · refine tr_tabIn 16 642 hX dL_law_32 c123 (by decide) (by decide) rfl (by decide) ?_
      refine tr_aload_n 1 hX dL_law_642 rfl rfl ?_
      refine tr_aload_n 0 hX dL_law_643 rfl rfl ?_
      refine tr_iload_n 3 hX dL_law_644 rfl rfl ?_
      refine tr_iconst 1 hX dL_law_645 (by decide) ?_
      refine tr_iadd hX dL_law_646 ?_
      refine tr_sld hX hS dL_law_647 (fun v114 => ?_)
      refine tr_aload_n 0 hX dL_law_648 rfl rfl ?_
      refine tr_iload_n 3 hX dL_law_649 rfl rfl ?_
      refine tr_iconst 2 hX dL_law_650 (by decide) ?_
      refine tr_iadd hX dL_law_651 ?_
      refine tr_sld hX hS dL_law_652 (fun v115 => ?_)
      refine tr_aload_n 0 hX dL_law_653 rfl rfl ?_
      refine tr_iload_n 3 hX dL_law_654 rfl rfl ?_
      refine tr_iconst 3 hX dL_law_655 (by decide) ?_
      refine tr_iadd hX dL_law_656 ?_
      refine tr_sld hX hS dL_law_657 (fun v116 => ?_)
      refine tr_callLI (st := []) 3 hX hS dL_law_658 (ok_X8_learnt v114 v115 v116) sh_0 (by decide) rfl (Nat.le_of_ble_eq_true rfl) k_27_15 k_27_16 k_27_17 k_1_2 k_27_18 hy_X8_learnt rfl rfl (Nat.le_of_ble_eq_true rfl) rfl (fun v117 => ?_)
      refine tr_aload_n 2 hX dL_law_661 rfl rfl ?_
      refine tr_aload_n 0 hX dL_law_662 rfl rfl ?_
      refine tr_iload_n 3 hX dL_law_663 rfl rfl ?_
      refine tr_iconst 1 hX dL_law_664 (by decide) ?_
      refine tr_iadd hX dL_law_665 ?_
      refine tr_sld hX hS dL_law_666 (fun v118 => ?_)
      refine tr_aload_n 0 hX dL_law_667 rfl rfl ?_
      refine tr_iload_n 3 hX dL_law_668 rfl rfl ?_
      refine tr_iconst 2 hX dL_law_669 (by decide) ?_
      refine tr_iadd hX dL_law_670 ?_
      refine tr_sld hX hS dL_law_671 (fun v119 => ?_)
      refine tr_aload_n 0 hX dL_law_672 rfl rfl ?_
      refine tr_iload_n 3 hX dL_law_673 rfl rfl ?_
      refine tr_iconst 3 hX dL_law_674 (by decide) ?_
      refine tr_iadd hX dL_law_675 ?_
      refine tr_sld hX hS dL_law_676 (fun v120 => ?_)
      refine tr_callLI (st := [.int v117]) 3 hX hS dL_law_677 (ok_X9_learnt v118 v119 v120) sh_161 (by decide) rfl (Nat.le_of_ble_eq_true rfl) k_28_12 k_28_13 k_28_14 k_1_5 k_28_15 hy_X9_learnt rfl rfl (Nat.le_of_ble_eq_true rfl) rfl (fun v121 => ?_)
      refine tr_ic_eq 1104 hX dL_law_680 (by decide) (fun c122 => ?_) (fun c122 => ?_)
      · exact tr_sub [0, 1, 2, 3] rfl (t_L_law_1104 hX hS s18 x3 hs18)
      · refine tr_iconst 0 hX dL_law_683 (by decide) ?_
        exact tr_iretL hX hS dL_law_684
    refine tr_case 17 (fun c133 => ?_) (fun c133 => ?_)
    · refine tr_tabIn 17 685 hX dL_law_32 c133 (by decide) (by decide) rfl (by decide) ?_
      refine tr_aload_n 1 hX dL_law_685 rfl rfl ?_
      refine tr_aload_n 0 hX dL_law_686 rfl rfl ?_
      refine tr_iload_n 3 hX dL_law_687 rfl rfl ?_
      refine tr_iconst 1 hX dL_law_688 (by decide) ?_
      refine tr_iadd hX dL_law_689 ?_
      refine tr_sld hX hS dL_law_690 (fun v124 => ?_)
      refine tr_aload_n 0 hX dL_law_691 rfl rfl ?_
      refine tr_iload_n 3 hX dL_law_692 rfl rfl ?_
      refine tr_iconst 2 hX dL_law_693 (by decide) ?_
      refine tr_iadd hX dL_law_694 ?_
      refine tr_sld hX hS dL_law_695 (fun v125 => ?_)
      refine tr_aload_n 0 hX dL_law_696 rfl rfl ?_
      refine tr_iload_n 3 hX dL_law_697 rfl rfl ?_
      refine tr_iconst 3 hX dL_law_698 (by decide) ?_
      refine tr_iadd hX dL_law_699 ?_
      refine tr_sld hX hS dL_law_700 (fun v126 => ?_)
      refine tr_callLI (st := []) 3 hX hS dL_law_701 (ok_X8_slip v124 v125 v126) sh_0 (by decide) rfl (Nat.le_of_ble_eq_true rfl) k_29_0 k_29_1 k_29_2 k_1_2 k_29_3 hy_X8_slip rfl rfl (Nat.le_of_ble_eq_true rfl) rfl (fun v127 => ?_)
      refine tr_aload_n 2 hX dL_law_704 rfl rfl ?_
      refine tr_aload_n 0 hX dL_law_705 rfl rfl ?_
      refine tr_iload_n 3 hX dL_law_706 rfl rfl ?_
      refine tr_iconst 1 hX dL_law_707 (by decide) ?_
      refine tr_iadd hX dL_law_708 ?_
      refine tr_sld hX hS dL_law_709 (fun v128 => ?_)
      refine tr_aload_n 0 hX dL_law_710 rfl rfl ?_
      refine tr_iload_n 3 hX dL_law_711 rfl rfl ?_
      refine tr_iconst 2 hX dL_law_712 (by decide) ?_
      refine tr_iadd hX dL_law_713 ?_
      refine tr_sld hX hS dL_law_714 (fun v129 => ?_)
      refine tr_aload_n 0 hX dL_law_715 rfl rfl ?_
      refine tr_iload_n 3 hX dL_law_716 rfl rfl ?_
      refine tr_iconst 3 hX dL_law_717 (by decide) ?_
      refine tr_iadd hX dL_law_718 ?_
      refine tr_sld hX hS dL_law_719 (fun v130 => ?_)
      refine tr_callLI (st := [.int v127]) 3 hX hS dL_law_720 (ok_X9_slip v128 v129 v130) sh_161 (by decide) rfl (Nat.le_of_ble_eq_true rfl) k_29_9 k_29_10 k_29_11 k_1_5 k_29_12 hy_X9_slip rfl rfl (Nat.le_of_ble_eq_true rfl) rfl (fun v131 => ?_)
      refine tr_ic_eq 1104 hX dL_law_723 (by decide) (fun c132 => ?_) (fun c132 => ?_)
      · exact tr_sub [0, 1, 2, 3] rfl (t_L_law_1104 hX hS s18 x3 hs18)
      · refine tr_iconst 0 hX dL_law_726 (by decide) ?_
        exact tr_iretL hX hS dL_law_727
    refine tr_case 18 (fun c137 => ?_) (fun c137 => ?_)
    · refine tr_tabIn 18 728 hX dL_law_32 c137 (by decide) (by decide) rfl (by decide) ?_
      refine tr_aload_n 1 hX dL_law_728 rfl rfl ?_
      refine tr_callLI (st := []) 0 hX hS dL_law_729 (ok_X8_noSlips) sh_0 (by decide) rfl (Nat.le_of_ble_eq_true rfl) k_29_13 k_29_14 k_29_15 k_1_2 k_29_16 hy_X8_noSlips rfl rfl (Nat.le_of_ble_eq_true rfl) rfl (fun v134 => ?_)
      refine tr_aload_n 2 hX dL_law_732 rfl rfl ?_
      refine tr_callLI (st := [.int v134]) 0 hX hS dL_law_733 (ok_X9_noSlips) sh_161 (by decide) rfl (Nat.le_of_ble_eq_true rfl) k_29_17 k_29_18 k_29_19 k_1_5 k_29_20 hy_X9_noSlips rfl rfl (Nat.le_of_ble_eq_true rfl) rfl (fun v135 => ?_)
      refine tr_ic_eq 1104 hX dL_law_736 (by decide) (fun c136 => ?_) (fun c136 => ?_)
      · exact tr_sub [0, 1, 2, 3] rfl (t_L_law_1104 hX hS s18 x3 hs18)
      · refine tr_iconst 0 hX dL_law_739 (by decide) ?_
        exact tr_iretL hX hS dL_law_740
    refine tr_case 19 (fun c143 => ?_) (fun c143 => ?_)
    · refine tr_tabIn 19 741 hX dL_law_32 c143 (by decide) (by decide) rfl (by decide) ?_
      refine tr_aload_n 1 hX dL_law_741 rfl rfl ?_
      refine tr_aload_n 0 hX dL_law_742 rfl rfl ?_
      refine tr_iload_n 3 hX dL_law_743 rfl rfl ?_
      refine tr_iconst 1 hX dL_law_744 (by decide) ?_
      refine tr_iadd hX dL_law_745 ?_
      refine tr_sld hX hS dL_law_746 (fun v138 => ?_)
      refine tr_callLI (st := []) 1 hX hS dL_law_747 (ok_X8_slips v138) sh_0 (by decide) rfl (Nat.le_of_ble_eq_true rfl) k_29_21 k_29_22 k_29_23 k_1_2 k_30_0 hy_X8_slips rfl rfl (Nat.le_of_ble_eq_true rfl) rfl (fun v139 => ?_)
      refine tr_aload_n 2 hX dL_law_750 rfl rfl ?_
      refine tr_aload_n 0 hX dL_law_751 rfl rfl ?_
      refine tr_iload_n 3 hX dL_law_752 rfl rfl ?_
      refine tr_iconst 1 hX dL_law_753 (by decide) ?_
      refine tr_iadd hX dL_law_754 ?_
      refine tr_sld hX hS dL_law_755 (fun v140 => ?_)
      refine tr_callLI (st := [.int v139]) 1 hX hS dL_law_756 (ok_X9_slips v140) sh_161 (by decide) rfl (Nat.le_of_ble_eq_true rfl) k_31_20 k_31_21 k_31_22 k_1_5 k_31_23 hy_X9_slips rfl rfl (Nat.le_of_ble_eq_true rfl) rfl (fun v141 => ?_)
      refine tr_ic_eq 1104 hX dL_law_759 (by decide) (fun c142 => ?_) (fun c142 => ?_)
      · exact tr_sub [0, 1, 2, 3] rfl (t_L_law_1104 hX hS s18 x3 hs18)
      · refine tr_iconst 0 hX dL_law_762 (by decide) ?_
        exact tr_iretL hX hS dL_law_763
    refine tr_case 20 (fun c151 => ?_) (fun c151 => ?_)
    · refine tr_tabIn 20 764 hX dL_law_32 c151 (by decide) (by decide) rfl (by decide) ?_
      refine tr_aload_n 1 hX dL_law_764 rfl rfl ?_
      refine tr_aload_n 0 hX dL_law_765 rfl rfl ?_
      refine tr_iload_n 3 hX dL_law_766 rfl rfl ?_
      refine tr_iconst 1 hX dL_law_767 (by decide) ?_
      refine tr_iadd hX dL_law_768 ?_
      refine tr_sld hX hS dL_law_769 (fun v144 => ?_)
      refine tr_aload_n 0 hX dL_law_770 rfl rfl ?_
      refine tr_iload_n 3 hX dL_law_771 rfl rfl ?_
      refine tr_iconst 2 hX dL_law_772 (by decide) ?_
      refine tr_iadd hX dL_law_773 ?_
      refine tr_sld hX hS dL_law_774 (fun v145 => ?_)
      refine tr_callLI (st := []) 2 hX hS dL_law_775 (ok_X8_list v144 v145) sh_0 (by decide) rfl (Nat.le_of_ble_eq_true rfl) k_32_12 k_32_13 k_32_14 k_1_2 k_32_15 hy_X8_list rfl rfl (Nat.le_of_ble_eq_true rfl) rfl (fun v146 => ?_)
      refine tr_aload_n 2 hX dL_law_778 rfl rfl ?_
      refine tr_aload_n 0 hX dL_law_779 rfl rfl ?_
      refine tr_iload_n 3 hX dL_law_780 rfl rfl ?_
      refine tr_iconst 1 hX dL_law_781 (by decide) ?_
      refine tr_iadd hX dL_law_782 ?_
      refine tr_sld hX hS dL_law_783 (fun v147 => ?_)
      refine tr_aload_n 0 hX dL_law_784 rfl rfl ?_
      refine tr_iload_n 3 hX dL_law_785 rfl rfl ?_
      refine tr_iconst 2 hX dL_law_786 (by decide) ?_
      refine tr_iadd hX dL_law_787 ?_
      refine tr_sld hX hS dL_law_788 (fun v148 => ?_)
      refine tr_callLI (st := [.int v146]) 2 hX hS dL_law_789 (ok_X9_list v147 v148) sh_161 (by decide) rfl (Nat.le_of_ble_eq_true rfl) k_32_18 k_32_19 k_32_20 k_1_5 k_32_21 hy_X9_list rfl rfl (Nat.le_of_ble_eq_true rfl) rfl (fun v149 => ?_)
      refine tr_ic_eq 1104 hX dL_law_792 (by decide) (fun c150 => ?_) (fun c150 => ?_)
      · exact tr_sub [0, 1, 2, 3] rfl (t_L_law_1104 hX hS s18 x3 hs18)
      · refine tr_iconst 0 hX dL_law_795 (by decide) ?_
        exact tr_iretL hX hS dL_law_796
    refine tr_case 21 (fun c161 => ?_) (fun c161 => ?_)
    · refine tr_tabIn 21 797 hX dL_law_32 c161 (by decide) (by decide) rfl (by decide) ?_
      refine tr_aload_n 1 hX dL_law_797 rfl rfl ?_
      refine tr_aload_n 0 hX dL_law_798 rfl rfl ?_
      refine tr_iload_n 3 hX dL_law_799 rfl rfl ?_
      refine tr_iconst 1 hX dL_law_800 (by decide) ?_
      refine tr_iadd hX dL_law_801 ?_
      refine tr_sld hX hS dL_law_802 (fun v152 => ?_)
      refine tr_aload_n 0 hX dL_law_803 rfl rfl ?_
      refine tr_iload_n 3 hX dL_law_804 rfl rfl ?_
      refine tr_iconst 2 hX dL_law_805 (by decide) ?_
      refine tr_iadd hX dL_law_806 ?_
      refine tr_sld hX hS dL_law_807 (fun v153 => ?_)
      refine tr_aload_n 0 hX dL_law_808 rfl rfl ?_
      refine tr_iload_n 3 hX dL_law_809 rfl rfl ?_
      refine tr_iconst 3 hX dL_law_810 (by decide) ?_
      refine tr_iadd hX dL_law_811 ?_
      refine tr_sld hX hS dL_law_812 (fun v154 => ?_)
      refine tr_callLI (st := []) 3 hX hS dL_law_813 (ok_X8_head v152 v153 v154) sh_0 (by decide) rfl (Nat.le_of_ble_eq_true rfl) k_32_22 k_32_23 k_33_0 k_1_2 k_33_1 hy_X8_head rfl rfl (Nat.le_of_ble_eq_true rfl) rfl (fun v155 => ?_)
      refine tr_aload_n 2 hX dL_law_816 rfl rfl ?_
      refine tr_aload_n 0 hX dL_law_817 rfl rfl ?_
      refine tr_iload_n 3 hX dL_law_818 rfl rfl ?_
      refine tr_iconst 1 hX dL_law_819 (by decide) ?_
      refine tr_iadd hX dL_law_820 ?_
      refine tr_sld hX hS dL_law_821 (fun v156 => ?_)
      refine tr_aload_n 0 hX dL_law_822 rfl rfl ?_
      refine tr_iload_n 3 hX dL_law_823 rfl rfl ?_
      refine tr_iconst 2 hX dL_law_824 (by decide) ?_
      refine tr_iadd hX dL_law_825 ?_
      refine tr_sld hX hS dL_law_826 (fun v157 => ?_)
      refine tr_aload_n 0 hX dL_law_827 rfl rfl ?_
      refine tr_iload_n 3 hX dL_law_828 rfl rfl ?_
      refine tr_iconst 3 hX dL_law_829 (by decide) ?_
      refine tr_iadd hX dL_law_830 ?_
      refine tr_sld hX hS dL_law_831 (fun v158 => ?_)
      refine tr_callLI (st := [.int v155]) 3 hX hS dL_law_832 (ok_X9_head v156 v157 v158) sh_161 (by decide) rfl (Nat.le_of_ble_eq_true rfl) k_33_11 k_33_12 k_33_13 k_1_5 k_33_14 hy_X9_head rfl rfl (Nat.le_of_ble_eq_true rfl) rfl (fun v159 => ?_)
      refine tr_ic_eq 1104 hX dL_law_835 (by decide) (fun c160 => ?_) (fun c160 => ?_)
      · exact tr_sub [0, 1, 2, 3] rfl (t_L_law_1104 hX hS s18 x3 hs18)
      · refine tr_iconst 0 hX dL_law_838 (by decide) ?_
        exact tr_iretL hX hS dL_law_839
    refine tr_case 22 (fun c165 => ?_) (fun c165 => ?_)
    · refine tr_tabIn 22 840 hX dL_law_32 c165 (by decide) (by decide) rfl (by decide) ?_
      refine tr_aload_n 1 hX dL_law_840 rfl rfl ?_
      refine tr_aload_n 0 hX dL_law_841 rfl rfl ?_
      refine tr_iload_n 3 hX dL_law_842 rfl rfl ?_
      refine tr_iconst 1 hX dL_law_843 (by decide) ?_
      refine tr_iadd hX dL_law_844 ?_
      refine tr_sld hX hS dL_law_845 (fun v162 => ?_)
      refine tr_aload_n 0 hX dL_law_846 rfl rfl ?_
      refine tr_iload_n 3 hX dL_law_847 rfl rfl ?_
      refine tr_iconst 2 hX dL_law_848 (by decide) ?_
      refine tr_iadd hX dL_law_849 ?_
      refine tr_sld hX hS dL_law_850 (fun v163 => ?_)
      refine tr_if_eq 858 hX dL_law_851 (by decide) (fun c164 => ?_) (fun c164 => ?_)
      · refine tr_iconst 0 hX dL_law_858 (by decide) ?_
        exact tr_sub [0, 1, 2, 3] rfl (t_L_law_859 hX hS s18 x3 0 v162 hs18)
      · refine tr_iconst 1 hX dL_law_854 (by decide) ?_
        refine tr_goto 859 hX dL_law_855 (by decide) ?_
        exact tr_sub [0, 1, 2, 3] rfl (t_L_law_859 hX hS s18 x3 1 v162 hs18)
    refine tr_case 23 (fun c171 => ?_) (fun c171 => ?_)
    · refine tr_tabIn 23 889 hX dL_law_32 c171 (by decide) (by decide) rfl (by decide) ?_
      refine tr_aload_n 1 hX dL_law_889 rfl rfl ?_
      refine tr_aload_n 0 hX dL_law_890 rfl rfl ?_
      refine tr_iload_n 3 hX dL_law_891 rfl rfl ?_
      refine tr_iconst 1 hX dL_law_892 (by decide) ?_
      refine tr_iadd hX dL_law_893 ?_
      refine tr_sld hX hS dL_law_894 (fun v166 => ?_)
      refine tr_callLI (st := []) 1 hX hS dL_law_895 (ok_X8_same v166) sh_0 (by decide) rfl (Nat.le_of_ble_eq_true rfl) k_34_6 k_34_7 k_34_8 k_1_2 k_34_9 hy_X8_same rfl rfl (Nat.le_of_ble_eq_true rfl) rfl (fun v167 => ?_)
      refine tr_aload_n 2 hX dL_law_898 rfl rfl ?_
      refine tr_aload_n 0 hX dL_law_899 rfl rfl ?_
      refine tr_iload_n 3 hX dL_law_900 rfl rfl ?_
      refine tr_iconst 1 hX dL_law_901 (by decide) ?_
      refine tr_iadd hX dL_law_902 ?_
      refine tr_sld hX hS dL_law_903 (fun v168 => ?_)
      refine tr_callLI (st := [.int v167]) 1 hX hS dL_law_904 (ok_X9_same v168) sh_161 (by decide) rfl (Nat.le_of_ble_eq_true rfl) k_34_16 k_34_17 k_34_18 k_1_5 k_34_19 hy_X9_same rfl rfl (Nat.le_of_ble_eq_true rfl) rfl (fun v169 => ?_)
      refine tr_ic_eq 1104 hX dL_law_907 (by decide) (fun c170 => ?_) (fun c170 => ?_)
      · exact tr_sub [0, 1, 2, 3] rfl (t_L_law_1104 hX hS s18 x3 hs18)
      · refine tr_iconst 0 hX dL_law_910 (by decide) ?_
        exact tr_iretL hX hS dL_law_911
    refine tr_case 24 (fun c179 => ?_) (fun c179 => ?_)
    · refine tr_tabIn 24 912 hX dL_law_32 c179 (by decide) (by decide) rfl (by decide) ?_
      refine tr_aload_n 1 hX dL_law_912 rfl rfl ?_
      refine tr_aload_n 0 hX dL_law_913 rfl rfl ?_
      refine tr_iload_n 3 hX dL_law_914 rfl rfl ?_
      refine tr_iconst 1 hX dL_law_915 (by decide) ?_
      refine tr_iadd hX dL_law_916 ?_
      refine tr_sld hX hS dL_law_917 (fun v172 => ?_)
      refine tr_aload_n 0 hX dL_law_918 rfl rfl ?_
      refine tr_iload_n 3 hX dL_law_919 rfl rfl ?_
      refine tr_iconst 2 hX dL_law_920 (by decide) ?_
      refine tr_iadd hX dL_law_921 ?_
      refine tr_sld hX hS dL_law_922 (fun v173 => ?_)
      refine tr_callLI (st := []) 2 hX hS dL_law_923 (ok_X8_since v172 v173) sh_0 (by decide) rfl (Nat.le_of_ble_eq_true rfl) k_35_4 k_35_5 k_35_6 k_1_2 k_35_7 hy_X8_since rfl rfl (Nat.le_of_ble_eq_true rfl) rfl (fun v174 => ?_)
      refine tr_aload_n 2 hX dL_law_926 rfl rfl ?_
      refine tr_aload_n 0 hX dL_law_927 rfl rfl ?_
      refine tr_iload_n 3 hX dL_law_928 rfl rfl ?_
      refine tr_iconst 1 hX dL_law_929 (by decide) ?_
      refine tr_iadd hX dL_law_930 ?_
      refine tr_sld hX hS dL_law_931 (fun v175 => ?_)
      refine tr_aload_n 0 hX dL_law_932 rfl rfl ?_
      refine tr_iload_n 3 hX dL_law_933 rfl rfl ?_
      refine tr_iconst 2 hX dL_law_934 (by decide) ?_
      refine tr_iadd hX dL_law_935 ?_
      refine tr_sld hX hS dL_law_936 (fun v176 => ?_)
      refine tr_callLI (st := [.int v174]) 2 hX hS dL_law_937 (ok_X9_since v175 v176) sh_161 (by decide) rfl (Nat.le_of_ble_eq_true rfl) k_35_21 k_35_22 k_35_23 k_1_5 k_36_0 hy_X9_since rfl rfl (Nat.le_of_ble_eq_true rfl) rfl (fun v177 => ?_)
      refine tr_ic_eq 1104 hX dL_law_940 (by decide) (fun c178 => ?_) (fun c178 => ?_)
      · exact tr_sub [0, 1, 2, 3] rfl (t_L_law_1104 hX hS s18 x3 hs18)
      · refine tr_iconst 0 hX dL_law_943 (by decide) ?_
        exact tr_iretL hX hS dL_law_944
    refine tr_case 25 (fun c185 => ?_) (fun c185 => ?_)
    · refine tr_tabIn 25 945 hX dL_law_32 c185 (by decide) (by decide) rfl (by decide) ?_
      refine tr_aload_n 1 hX dL_law_945 rfl rfl ?_
      refine tr_aload_n 0 hX dL_law_946 rfl rfl ?_
      refine tr_iload_n 3 hX dL_law_947 rfl rfl ?_
      refine tr_iconst 1 hX dL_law_948 (by decide) ?_
      refine tr_iadd hX dL_law_949 ?_
      refine tr_sld hX hS dL_law_950 (fun v180 => ?_)
      refine tr_callLI (st := []) 1 hX hS dL_law_951 (ok_X8_lost v180) sh_0 (by decide) rfl (Nat.le_of_ble_eq_true rfl) k_36_5 k_36_6 k_36_7 k_1_2 k_36_8 hy_X8_lost rfl rfl (Nat.le_of_ble_eq_true rfl) rfl (fun v181 => ?_)
      refine tr_aload_n 2 hX dL_law_954 rfl rfl ?_
      refine tr_aload_n 0 hX dL_law_955 rfl rfl ?_
      refine tr_iload_n 3 hX dL_law_956 rfl rfl ?_
      refine tr_iconst 1 hX dL_law_957 (by decide) ?_
      refine tr_iadd hX dL_law_958 ?_
      refine tr_sld hX hS dL_law_959 (fun v182 => ?_)
      refine tr_callLI (st := [.int v181]) 1 hX hS dL_law_960 (ok_X9_lost v182) sh_161 (by decide) rfl (Nat.le_of_ble_eq_true rfl) k_36_17 k_36_18 k_36_19 k_1_5 k_36_20 hy_X9_lost rfl rfl (Nat.le_of_ble_eq_true rfl) rfl (fun v183 => ?_)
      refine tr_ic_eq 1104 hX dL_law_963 (by decide) (fun c184 => ?_) (fun c184 => ?_)
      · exact tr_sub [0, 1, 2, 3] rfl (t_L_law_1104 hX hS s18 x3 hs18)
      · refine tr_iconst 0 hX dL_law_966 (by decide) ?_
        exact tr_iretL hX hS dL_law_967
    refine tr_case 26 (fun c193 => ?_) (fun c193 => ?_)
    · refine tr_tabIn 26 968 hX dL_law_32 c193 (by decide) (by decide) rfl (by decide) ?_
      refine tr_aload_n 1 hX dL_law_968 rfl rfl ?_
      refine tr_aload_n 0 hX dL_law_969 rfl rfl ?_
      refine tr_iload_n 3 hX dL_law_970 rfl rfl ?_
      refine tr_iconst 1 hX dL_law_971 (by decide) ?_
      refine tr_iadd hX dL_law_972 ?_
      refine tr_sld hX hS dL_law_973 (fun v186 => ?_)
      refine tr_aload_n 0 hX dL_law_974 rfl rfl ?_
      refine tr_iload_n 3 hX dL_law_975 rfl rfl ?_
      refine tr_iconst 2 hX dL_law_976 (by decide) ?_
      refine tr_iadd hX dL_law_977 ?_
      refine tr_sld hX hS dL_law_978 (fun v187 => ?_)
      refine tr_callLI (st := []) 2 hX hS dL_law_979 (ok_X8_from v186 v187) sh_0 (by decide) rfl (Nat.le_of_ble_eq_true rfl) k_37_1 k_37_2 k_37_3 k_1_2 k_37_4 hy_X8_from rfl rfl (Nat.le_of_ble_eq_true rfl) rfl (fun v188 => ?_)
      refine tr_aload_n 2 hX dL_law_982 rfl rfl ?_
      refine tr_aload_n 0 hX dL_law_983 rfl rfl ?_
      refine tr_iload_n 3 hX dL_law_984 rfl rfl ?_
      refine tr_iconst 1 hX dL_law_985 (by decide) ?_
      refine tr_iadd hX dL_law_986 ?_
      refine tr_sld hX hS dL_law_987 (fun v189 => ?_)
      refine tr_aload_n 0 hX dL_law_988 rfl rfl ?_
      refine tr_iload_n 3 hX dL_law_989 rfl rfl ?_
      refine tr_iconst 2 hX dL_law_990 (by decide) ?_
      refine tr_iadd hX dL_law_991 ?_
      refine tr_sld hX hS dL_law_992 (fun v190 => ?_)
      refine tr_callLI (st := [.int v188]) 2 hX hS dL_law_993 (ok_X9_from v189 v190) sh_161 (by decide) rfl (Nat.le_of_ble_eq_true rfl) k_37_9 k_37_10 k_37_11 k_1_5 k_37_12 hy_X9_from rfl rfl (Nat.le_of_ble_eq_true rfl) rfl (fun v191 => ?_)
      refine tr_ic_eq 1104 hX dL_law_996 (by decide) (fun c192 => ?_) (fun c192 => ?_)
      · exact tr_sub [0, 1, 2, 3] rfl (t_L_law_1104 hX hS s18 x3 hs18)
      · refine tr_iconst 0 hX dL_law_999 (by decide) ?_
        exact tr_iretL hX hS dL_law_1000
    refine tr_case 27 (fun c205 => ?_) (fun c205 => ?_)
    · refine tr_tabIn 27 1001 hX dL_law_32 c205 (by decide) (by decide) rfl (by decide) ?_
      refine tr_aload_n 1 hX dL_law_1001 rfl rfl ?_
      refine tr_aload_n 0 hX dL_law_1002 rfl rfl ?_
      refine tr_iload_n 3 hX dL_law_1003 rfl rfl ?_
      refine tr_iconst 1 hX dL_law_1004 (by decide) ?_
      refine tr_iadd hX dL_law_1005 ?_
      refine tr_sld hX hS dL_law_1006 (fun v194 => ?_)
      refine tr_aload_n 0 hX dL_law_1007 rfl rfl ?_
      refine tr_iload_n 3 hX dL_law_1008 rfl rfl ?_
      refine tr_iconst 2 hX dL_law_1009 (by decide) ?_
      refine tr_iadd hX dL_law_1010 ?_
      refine tr_sld hX hS dL_law_1011 (fun v195 => ?_)
      refine tr_aload_n 0 hX dL_law_1012 rfl rfl ?_
      refine tr_iload_n 3 hX dL_law_1013 rfl rfl ?_
      refine tr_iconst 3 hX dL_law_1014 (by decide) ?_
      refine tr_iadd hX dL_law_1015 ?_
      refine tr_sld hX hS dL_law_1016 (fun v196 => ?_)
      refine tr_aload_n 0 hX dL_law_1017 rfl rfl ?_
      refine tr_iload_n 3 hX dL_law_1018 rfl rfl ?_
      refine tr_iconst 4 hX dL_law_1019 (by decide) ?_
      refine tr_iadd hX dL_law_1020 ?_
      refine tr_sld hX hS dL_law_1021 (fun v197 => ?_)
      refine tr_callLL (st := []) 4 hX hS dL_law_1022 (ok_X8_odds v194 v195 v196 v197) sh_0 (by decide) rfl (Nat.le_of_ble_eq_true rfl) k_37_13 k_37_14 k_37_15 k_1_2 k_37_16 hy_X8_odds rfl rfl (Nat.le_of_ble_eq_true rfl) rfl (fun v198 => ?_)
      refine tr_aload_n 2 hX dL_law_1025 rfl rfl ?_
      refine tr_aload_n 0 hX dL_law_1026 rfl rfl ?_
      refine tr_iload_n 3 hX dL_law_1027 rfl rfl ?_
      refine tr_iconst 1 hX dL_law_1028 (by decide) ?_
      refine tr_iadd hX dL_law_1029 ?_
      refine tr_sld hX hS dL_law_1030 (fun v199 => ?_)
      refine tr_aload_n 0 hX dL_law_1031 rfl rfl ?_
      refine tr_iload_n 3 hX dL_law_1032 rfl rfl ?_
      refine tr_iconst 2 hX dL_law_1033 (by decide) ?_
      refine tr_iadd hX dL_law_1034 ?_
      refine tr_sld hX hS dL_law_1035 (fun v200 => ?_)
      refine tr_aload_n 0 hX dL_law_1036 rfl rfl ?_
      refine tr_iload_n 3 hX dL_law_1037 rfl rfl ?_
      refine tr_iconst 3 hX dL_law_1038 (by decide) ?_
      refine tr_iadd hX dL_law_1039 ?_
      refine tr_sld hX hS dL_law_1040 (fun v201 => ?_)
      refine tr_aload_n 0 hX dL_law_1041 rfl rfl ?_
      refine tr_iload_n 3 hX dL_law_1042 rfl rfl ?_
      refine tr_iconst 4 hX dL_law_1043 (by decide) ?_
      refine tr_iadd hX dL_law_1044 ?_
      refine tr_sld hX hS dL_law_1045 (fun v202 => ?_)
      refine tr_callLL (st := [.long v198]) 4 hX hS dL_law_1046 (ok_X9_odds v199 v200 v201 v202) sh_161 (by decide) rfl (Nat.le_of_ble_eq_true rfl) k_37_21 k_37_22 k_37_23 k_1_5 k_38_0 hy_X9_odds rfl rfl (Nat.le_of_ble_eq_true rfl) rfl (fun v203 => ?_)
      refine tr_lcmp hX dL_law_1049 ?_
      refine tr_if_eq 1104 hX dL_law_1050 (by decide) (fun c204 => ?_) (fun c204 => ?_)
      · exact tr_sub [0, 1, 2, 3] rfl (t_L_law_1104 hX hS s18 x3 hs18)
      · refine tr_iconst 0 hX dL_law_1053 (by decide) ?_
        exact tr_iretL hX hS dL_law_1054
    refine tr_case 28 (fun c209 => ?_) (fun c209 => ?_)
    · refine tr_tabIn 28 1055 hX dL_law_32 c209 (by decide) (by decide) rfl (by decide) ?_
      refine tr_aload_n 1 hX dL_law_1055 rfl rfl ?_
      refine tr_callLI (st := []) 0 hX hS dL_law_1056 (ok_X8_keep) sh_0 (by decide) rfl (Nat.le_of_ble_eq_true rfl) k_38_3 k_38_4 k_38_5 k_1_2 k_38_6 hy_X8_keep rfl rfl (Nat.le_of_ble_eq_true rfl) rfl (fun v206 => ?_)
      refine tr_aload_n 2 hX dL_law_1059 rfl rfl ?_
      refine tr_callLI (st := [.int v206]) 0 hX hS dL_law_1060 (ok_X9_keep) sh_161 (by decide) rfl (Nat.le_of_ble_eq_true rfl) k_38_18 k_38_19 k_38_20 k_1_5 k_38_21 hy_X9_keep rfl rfl (Nat.le_of_ble_eq_true rfl) rfl (fun v207 => ?_)
      refine tr_ic_eq 1104 hX dL_law_1063 (by decide) (fun c208 => ?_) (fun c208 => ?_)
      · exact tr_sub [0, 1, 2, 3] rfl (t_L_law_1104 hX hS s18 x3 hs18)
      · refine tr_iconst 0 hX dL_law_1066 (by decide) ?_
        exact tr_iretL hX hS dL_law_1067
    refine tr_case 29 (fun c213 => ?_) (fun c213 => ?_)
    · refine tr_tabIn 29 1068 hX dL_law_32 c213 (by decide) (by decide) rfl (by decide) ?_
      refine tr_aload_n 1 hX dL_law_1068 rfl rfl ?_
      refine tr_callLI (st := []) 0 hX hS dL_law_1069 (ok_X8_back) sh_0 (by decide) rfl (Nat.le_of_ble_eq_true rfl) k_39_2 k_39_3 k_39_4 k_1_2 k_39_5 hy_X8_back rfl rfl (Nat.le_of_ble_eq_true rfl) rfl (fun v210 => ?_)
      refine tr_aload_n 2 hX dL_law_1072 rfl rfl ?_
      refine tr_callLI (st := [.int v210]) 0 hX hS dL_law_1073 (ok_X9_back) sh_161 (by decide) rfl (Nat.le_of_ble_eq_true rfl) k_39_6 k_39_7 k_39_8 k_1_5 k_39_9 hy_X9_back rfl rfl (Nat.le_of_ble_eq_true rfl) rfl (fun v211 => ?_)
      refine tr_ic_eq 1104 hX dL_law_1076 (by decide) (fun c212 => ?_) (fun c212 => ?_)
      · exact tr_sub [0, 1, 2, 3] rfl (t_L_law_1104 hX hS s18 x3 hs18)
      · refine tr_iconst 0 hX dL_law_1079 (by decide) ?_
        exact tr_iretL hX hS dL_law_1080
    refine tr_case 30 (fun c219 => ?_) (fun c219 => ?_)
    · refine tr_tabIn 30 1081 hX dL_law_32 c219 (by decide) (by decide) rfl (by decide) ?_
      refine tr_aload_n 1 hX dL_law_1081 rfl rfl ?_
      refine tr_aload_n 0 hX dL_law_1082 rfl rfl ?_
      refine tr_iload_n 3 hX dL_law_1083 rfl rfl ?_
      refine tr_iconst 1 hX dL_law_1084 (by decide) ?_
      refine tr_iadd hX dL_law_1085 ?_
      refine tr_sld hX hS dL_law_1086 (fun v214 => ?_)
      refine tr_callLI (st := []) 1 hX hS dL_law_1087 (ok_X8_count v214) sh_0 (by decide) rfl (Nat.le_of_ble_eq_true rfl) k_39_10 k_39_11 k_39_12 k_1_2 k_39_13 hy_X8_count rfl rfl (Nat.le_of_ble_eq_true rfl) rfl (fun v215 => ?_)
      refine tr_aload_n 2 hX dL_law_1090 rfl rfl ?_
      refine tr_aload_n 0 hX dL_law_1091 rfl rfl ?_
      refine tr_iload_n 3 hX dL_law_1092 rfl rfl ?_
      refine tr_iconst 1 hX dL_law_1093 (by decide) ?_
      refine tr_iadd hX dL_law_1094 ?_
      refine tr_sld hX hS dL_law_1095 (fun v216 => ?_)
      refine tr_callLI (st := [.int v215]) 1 hX hS dL_law_1096 (ok_X9_count v216) sh_161 (by decide) rfl (Nat.le_of_ble_eq_true rfl) k_39_18 k_39_19 k_39_20 k_1_5 k_39_21 hy_X9_count rfl rfl (Nat.le_of_ble_eq_true rfl) rfl (fun v217 => ?_)
      refine tr_ic_eq 1104 hX dL_law_1099 (by decide) (fun c218 => ?_) (fun c218 => ?_)
      · exact tr_sub [0, 1, 2, 3] rfl (t_L_law_1104 hX hS s18 x3 hs18)
      · refine tr_iconst 0 hX dL_law_1102 (by decide) ?_
        exact tr_iretL hX hS dL_law_1103
    have nc11 := lv_neT c11 (show (0 : Int32).toInt = 0 by decide)
    have nc15 := lv_neT c15 (show (1 : Int32).toInt = 1 by decide)
    have nc19 := lv_neT c19 (show (2 : Int32).toInt = 2 by decide)
    have nc23 := lv_neT c23 (show (3 : Int32).toInt = 3 by decide)
    have nc31 := lv_neT c31 (show (4 : Int32).toInt = 4 by decide)
    have nc39 := lv_neT c39 (show (5 : Int32).toInt = 5 by decide)
    have nc45 := lv_neT c45 (show (6 : Int32).toInt = 6 by decide)
    have nc53 := lv_neT c53 (show (7 : Int32).toInt = 7 by decide)
    have nc63 := lv_neT c63 (show (8 : Int32).toInt = 8 by decide)
    have nc71 := lv_neT c71 (show (9 : Int32).toInt = 9 by decide)
    have nc79 := lv_neT c79 (show (10 : Int32).toInt = 10 by decide)
    have nc83 := lv_neT c83 (show (11 : Int32).toInt = 11 by decide)
    have nc89 := lv_neT c89 (show (12 : Int32).toInt = 12 by decide)
    have nc93 := lv_neT c93 (show (13 : Int32).toInt = 13 by decide)
    have nc103 := lv_neT c103 (show (14 : Int32).toInt = 14 by decide)
    have nc113 := lv_neT c113 (show (15 : Int32).toInt = 15 by decide)
    have nc123 := lv_neT c123 (show (16 : Int32).toInt = 16 by decide)
    have nc133 := lv_neT c133 (show (17 : Int32).toInt = 17 by decide)
    have nc137 := lv_neT c137 (show (18 : Int32).toInt = 18 by decide)
    have nc143 := lv_neT c143 (show (19 : Int32).toInt = 19 by decide)
    have nc151 := lv_neT c151 (show (20 : Int32).toInt = 20 by decide)
    have nc161 := lv_neT c161 (show (21 : Int32).toInt = 21 by decide)
    have nc165 := lv_neT c165 (show (22 : Int32).toInt = 22 by decide)
    have nc171 := lv_neT c171 (show (23 : Int32).toInt = 23 by decide)
    have nc179 := lv_neT c179 (show (24 : Int32).toInt = 24 by decide)
    have nc185 := lv_neT c185 (show (25 : Int32).toInt = 25 by decide)
    have nc193 := lv_neT c193 (show (26 : Int32).toInt = 26 by decide)
    have nc205 := lv_neT c205 (show (27 : Int32).toInt = 27 by decide)
    have nc209 := lv_neT c209 (show (28 : Int32).toInt = 28 by decide)
    have nc213 := lv_neT c213 (show (29 : Int32).toInt = 29 by decide)
    have nc219 := lv_neT c219 (show (30 : Int32).toInt = 30 by decide)
    refine tr_tabOut 1104 hX dL_law_32 (by omega) (by decide) ?_
    exact tr_sub [0, 1, 2, 3] rfl (t_L_law_1104 hX hS s18 x3 hs18)
def f_law (xs : Nat → Int32) (L : Nat) : M Int32 :=
  al 0 1 (bnd fc_X8_init_0 (fun _ => al 161 1 (bnd fc_X9_init_161 (fun _ => gwA (fix1 FU (f_L_law_18 xs L) 0)))))

def StaS (X : Cx) : Prop := cxG X = Gno ∧ cxN X = 4 ∧ cxR X = room_1
set_option maxRecDepth 10000 in
set_option maxHeartbeats 4000000 in
theorem t_law_start {X : Cx} {xs : Nat → Int32} {L : Nat} (hX : Good X RL cL_law (some .boolean)) (hS : StaS X) (h : Tr (cxUp X) eI 187 14336 18 [(3, .int 0), (2, .ref (cxAd X 161)), (1, .ref (cxAd X 0)), (0, .ref (cxAd X 1003))] [] (fix1 FU (f_L_law_18 xs L) 0)) : Tr X eI 0 0 0 [(0, .ref (cxAd X 1003))] [] (f_law xs L) := by
  unfold f_law
  refine tr_new hX dL_law_0 sh_0 (by decide) rfl inlX8 tyX8 tyX8_ok df_X8 k_1_0 k_1_1 k_1_2 (by decide) (by rw [hS.2.2]; exact Nat.le_of_ble_eq_true rfl) (by rw [hS.2.2]; exact Nat.le_of_ble_eq_true rfl) ?_
  refine tr_dup hX dL_law_3 rfl ?_
  refine tr_callI (st := [.ref (cxAd X 0)]) (As := []) (q := 0) 0 hX dL_law_4 (by rw [hS.1]; exact okc_X8_init_0) k_1_7 k_1_8 k_1_2 k_1_9 rfl hy_X8_init.2 rfl (by rw [hS.2.2]; exact ⟨Nat.le_of_ble_eq_true rfl, Nat.le_of_ble_eq_true rfl⟩) (by rw [hS.2.2]; exact ⟨Nat.le_of_ble_eq_true rfl, Nat.le_of_ble_eq_true rfl⟩) (Nat.le_of_ble_eq_true rfl) rfl ?_
  refine tr_astore_n hX dL_law_7 rfl (by rw [hS.2.1]; decide) rfl ?_
  refine tr_new hX dL_law_8 sh_161 (by decide) rfl inlX9 tyX9 tyX9_ok df_X9 k_1_3 k_1_4 k_1_5 (by decide) (by rw [hS.2.2]; exact Nat.le_of_ble_eq_true rfl) (by rw [hS.2.2]; exact Nat.le_of_ble_eq_true rfl) ?_
  refine tr_dup hX dL_law_11 rfl ?_
  refine tr_callI (st := [.ref (cxAd X 161)]) (As := []) (q := 161) 0 hX dL_law_12 (by rw [hS.1]; exact okc_X9_init_161) k_6_7 k_6_8 k_1_5 k_6_9 rfl hy_X9_init.2 rfl (by rw [hS.2.2]; exact ⟨Nat.le_of_ble_eq_true rfl, Nat.le_of_ble_eq_true rfl⟩) (by rw [hS.2.2]; exact ⟨Nat.le_of_ble_eq_true rfl, Nat.le_of_ble_eq_true rfl⟩) (Nat.le_of_ble_eq_true rfl) rfl ?_
  refine tr_astore_n hX dL_law_15 rfl (by rw [hS.2.1]; decide) rfl ?_
  refine tr_iconst 0 hX dL_law_16 (by decide) ?_
  refine tr_istore_n hX dL_law_17 rfl (by rw [hS.2.1]; decide) rfl ?_
  exact tr_gwA hS.1 (tr_cs (cu' := 187) (su' := 14336) rfl rfl h)
theorem t_law {X : Cx} {xs : Nat → Int32} {L : Nat} (hX : Good X RL cL_law (some .boolean)) (hS : StaS X) (hU : StaL (cxUp X) xs L) : Tr X eI 0 0 0 [(0, .ref (cxAd X 1003))] [] (f_law xs L) :=
  t_law_start hX hS (tr_sub [3, 2, 1, 0] rfl (tr_fix1 (lvf := fun x3 => [(0, .ref (cxAd X 1003)), (1, .ref (cxAd X 0)), (2, .ref (cxAd X 161)), (3, .int x3)]) (t_L_law_18 (X := cxUp X) hX hU) FU 0))
