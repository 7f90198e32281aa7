/-! returns, loops, calls, field writes -/
theorem ts_good : ∀ w ∈ wsL_law, ((w.onTables && w.keeps) = true ∨ ∃ ty, w = .arrayClass ty) := by
  have h : wsL_law.all goodWord = true := by decide +kernel
  exact fun w hw => good_of_word (List.all_eq_true.mp h w hw)
theorem ts_in {w : Cond} (h : w ∈ wsL_law) : w ∈ wsL_law ∧ ((w.onTables && w.keeps) = true ∨ ∃ ty, w = .arrayClass ty) := ⟨h, ts_good w h⟩
theorem gd_M {y : MethodName} {b : ByteArray} {n : Nat} {r : Option FieldType} (hc : Cond.code y b n r ∈ wsL_law) : GoodIn wsL_law (Cond.code y b n r :: wsL_law) := fun w hw => (List.mem_cons.mp hw).elim (fun e => by rw [e]; exact ts_in hc) (fun h => ts_in h)
theorem gd_V {own C : String} {idx : Nat} {y : MethodName} {b : ByteArray} {n : Nat} {r : Option FieldType} (h1 : Cond.methodLink own idx y ∈ wsL_law) (h2 : Cond.instanceMethod y ∈ wsL_law) (h3 : Cond.selects C y y ∈ wsL_law) (h4 : Cond.initialized C ∈ wsL_law) (hc : Cond.code y b n r ∈ wsL_law) : GoodIn wsL_law (wsV own idx C y (Cond.code y b n r :: wsL_law)) := by
  intro w hw
  unfold wsV at hw
  rcases List.mem_append.mp hw with h | h
  · simp only [List.mem_cons, List.not_mem_nil, or_false] at h
    rcases h with e | e | e | e <;> (rw [e]; exact ts_in (by assumption))
  · exact gd_M hc w h
theorem gd_S {own : String} {idx : Nat} {y : MethodName} {b : ByteArray} {n : Nat} {r : Option FieldType} (h1 : Cond.methodLink own idx y ∈ wsL_law) (h2 : Cond.static y ∈ wsL_law) (h3 : Cond.initialized own ∈ wsL_law) (hc : Cond.code y b n r ∈ wsL_law) : GoodIn wsL_law (wsS own idx y (Cond.code y b n r :: wsL_law)) := by
  intro w hw
  unfold wsS at hw
  rcases List.mem_append.mp hw with h | h
  · simp only [List.mem_cons, List.not_mem_nil, or_false] at h
    rcases h with e | e | e <;> (rw [e]; exact ts_in (by assumption))
  · exact gd_M hc w h
/-- what is known of a state's tables stays: at another state whose heap is the same outside ours -/
theorem nw_on : ∀ w ∈ NW, w.onTables = true := by decide +kernel
theorem nw_warm {s U : State} (hW : s.WarmedH U.vm) (h : ∀ w ∈ NW, va_Nw w s) : ∀ w ∈ NW, va_Nw w U := by
  intro w hw
  have hz := h w hw
  simp only [NW, List.mem_cons, List.not_mem_nil, or_false] at hw
  rcases hw with e | e | e | e | e | e <;> (rw [e] at hz ⊢; exact hz.warmM hW)
theorem KS.to {E : Ev} {s U : State} {H : Heap} {locs : List Loc} (h : KS E s) (hW : s.WarmedH U.vm) (hS : va_S (fun q => E.2.2.2 ≤ q) s.heap H locs) (hU : U.heap = H) : KS E U := by
  obtain ⟨h1, h2, h3, h4, h5⟩ := h
  refine ⟨h1.moved hW.alike, h2, fun j hj => ?_, nw_warm hW h4, fun t ht => over_moved hW.alike (h5 t ht)⟩
  obtain ⟨a, b⟩ := h3 j hj
  refine ⟨?_, ?_⟩
  · obtain ⟨cf, kf, fi, f, ad, cell, g1, g2, g3, g4, g5, g6, g7, g8⟩ := va_Z.moved (H := s.heap) hW.alike a
    exact ⟨cf, kf, fi, f, ad, cell, g1, g2, g3, g4, by rw [hU, hS.2.1 ad (Array.getElem?_eq_some_iff.mp g5).1 g8]; exact g5, g6, g7, g8⟩
  · obtain ⟨cell, g1, g2, g3, g4, g5, g6, g7⟩ := va_T.moved (H := s.heap) hW.alike b
    exact ⟨cell, by rw [hU, hS.2.1 _ (Array.getElem?_eq_some_iff.mp g1).1 g7]; exact g1, g2, g3, g4, g5, g6, g7⟩
theorem KS.call {E : Ev} {U : State} {g : JFrame} {mk : MethodId} {a : Array Value} (h : KS E U) : KS E (U.calling g mk a) := by
  obtain ⟨h1, h2, h3, h4, h5⟩ := h
  refine ⟨h1.moved (u := U) (U := U.calling g mk a) (Vm.Alike.refl U.vm), h2, fun j hj => ⟨va_Z.moved (u := U) (U := U.calling g mk a) (H := U.heap) (Vm.Alike.refl U.vm) (h3 j hj).1, va_T.moved (u := U) (U := U.calling g mk a) (H := U.heap) (Vm.Alike.refl U.vm) (h3 j hj).2⟩, fun w hw => va_Nw.same (nw_on w hw) (u := U) (U := U.calling g mk a) rfl (h4 w hw), fun t ht => over_moved (u := U) (E := U.calling g mk a) (Vm.Alike.refl U.vm) (h5 t ht)⟩
theorem blind {E : Ev} {G : Nat → Prop} {w : Wd} {av : List Value} : FrameBlind (va_Pc av (fun U => Rel E G w U.heap ∧ KS E U)) := fun _ _ _ _ h => ⟨h.1, h.2.1, h.2.2.call⟩
section RLC
variable {X : Cx} {R : Type} {enc : R → Option Value} {cu su pc : Nat} {lv lv' : List (Nat × Value)} {st : List Value} {k : M R} {own : String} {cc : ByteArray} {ret : Option FieldType}
theorem tr_iret {v : Int32} (hX : Good X own cc (some .int)) (hQ : cxQ X = stdQ X) (hd : decode cc pc = .ok (.ireturn, 1)) : Tr X eI (cxMc X) (cxMs X) pc lv [.int v] (rt v) := by
  intro H locs ls w r w' hl hR hS hk
  cases hk
  rw [hQ]
  exact W.iret hX.1 hX.2.1 hX.2.2.2.2.2.1 (fun t ht hW => ⟨rfl, by rw [ht]; exact hR, hS.F ht⟩) hS.2.2 hd hX.2.2.2.2.2.2.1
theorem tr_zret {v : Int32} (hX : Good X own cc (some .boolean)) (hQ : cxQ X = stdQ X) (hd : decode cc pc = .ok (.ireturn, 1)) : Tr X eI (cxMc X) (cxMs X) pc lv [.int v] (gd (v = 0 ∨ v = 1) (rt v)) := by
  intro H locs ls w r w' hl hR hS hk
  unfold gd at hk
  split at hk
  · rename_i hv
    cases hk
    rw [hQ]
    exact W.zret hX.1 hX.2.1 hX.2.2.2.2.2.1 (by rcases hv with e | e <;> (rw [e]; rfl)) (fun t ht hW => ⟨rfl, by rw [ht]; exact hR, hS.F ht⟩) hS.2.2 hd hX.2.2.2.2.2.2.1
  · cases hk
theorem tr_lret {v : Int64} (hX : Good X own cc (some .long)) (hQ : cxQ X = stdQ X) (hd : decode cc pc = .ok (.lreturn, 1)) : Tr X eL (cxMc X) (cxMs X) pc lv [.long v] (rt v) := by
  intro H locs ls w r w' hl hR hS hk
  cases hk
  rw [hQ]
  exact W.lret hX.1 hX.2.1 hX.2.2.2.2.2.1 (fun t ht hW => ⟨rfl, by rw [ht]; exact hR, hS.F ht⟩) hS.2.2 hd hX.2.2.2.2.2.2.1
theorem tr_vret (hX : Good X own cc none) (hQ : cxQ X = stdQ X) (hd : decode cc pc = .ok (.return_, 1)) : Tr X eU (cxMc X) (cxMs X) pc lv [] (rt ()) := by
  intro H locs ls w r w' hl hR hS hk
  cases hk
  rw [hQ]
  exact W.vret hX.1 hX.2.1 hX.2.2.2.2.2.1 (fun t ht hW => ⟨rfl, by rw [ht]; exact hR, hS.F ht⟩) hS.2.2 hd hX.2.2.2.2.2.2.1
theorem tr_aret {q : Nat} {C : String} (hX : Good X own cc (some (.object C))) (hQ : cxQ X = stdQ X) (hd : decode cc pc = .ok (.areturn, 1)) : Tr X (eR (cxAd X)) (cxMc X) (cxMs X) pc lv [.ref (cxAd X q)] (rt q) := by
  intro H locs ls w r w' hl hR hS hk
  cases hk
  rw [hQ]
  exact W.aret hX.1 hX.2.1 hX.2.2.2.2.2.1 (Or.inl ⟨C, rfl⟩) (Or.inr ⟨_, rfl⟩) (fun t ht hW => ⟨rfl, by rw [ht]; exact hR, hS.F ht⟩) hS.2.2 hd hX.2.2.2.2.2.2.1
theorem tr_none : Tr X enc cu su pc lv st (fun _ => none) := fun H locs ls w r w' hl hR hS hk => by cases hk
section FIX
variable {A B C D E F' : Type}
theorem tr_fix0 {lv : List (Nat × Value)} {F : M R → M R} (h : ∀ self, Tr X enc cu su pc lv st self → Tr X enc cu su pc lv st (F self)) : ∀ n, Tr X enc cu su pc lv st (fix0 n F)
  | 0 => tr_none
  | n + 1 => h _ (tr_fix0 h n)
theorem tr_fix1 {lvf : A → List (Nat × Value)} {F : (A → M R) → A → M R} (h : ∀ self, (∀ a, Tr X enc cu su pc (lvf a) st (self a)) → ∀ a, Tr X enc cu su pc (lvf a) st (F self a)) : ∀ n a, Tr X enc cu su pc (lvf a) st (fix1 n F a)
  | 0, _ => tr_none
  | n + 1, a => h _ (tr_fix1 h n) a
theorem tr_fix2 {lvf : A → B → List (Nat × Value)} {F : (A → B → M R) → A → B → M R} (h : ∀ self, (∀ a b, Tr X enc cu su pc (lvf a b) st (self a b)) → ∀ a b, Tr X enc cu su pc (lvf a b) st (F self a b)) : ∀ n a b, Tr X enc cu su pc (lvf a b) st (fix2 n F a b)
  | 0, _, _ => tr_none
  | n + 1, a, b => h _ (tr_fix2 h n) a b
theorem tr_fix3 {lvf : A → B → C → List (Nat × Value)} {F : (A → B → C → M R) → A → B → C → M R} (h : ∀ self, (∀ a b c, Tr X enc cu su pc (lvf a b c) st (self a b c)) → ∀ a b c, Tr X enc cu su pc (lvf a b c) st (F self a b c)) : ∀ n a b c, Tr X enc cu su pc (lvf a b c) st (fix3 n F a b c)
  | 0, _, _, _ => tr_none
  | n + 1, a, b, c => h _ (tr_fix3 h n) a b c
theorem tr_fix4 {lvf : A → B → C → D → List (Nat × Value)} {F : (A → B → C → D → M R) → A → B → C → D → M R} (h : ∀ self, (∀ a b c d, Tr X enc cu su pc (lvf a b c d) st (self a b c d)) → ∀ a b c d, Tr X enc cu su pc (lvf a b c d) st (F self a b c d)) : ∀ n a b c d, Tr X enc cu su pc (lvf a b c d) st (fix4 n F a b c d)
  | 0, _, _, _, _ => tr_none
  | n + 1, a, b, c, d => h _ (tr_fix4 h n) a b c d
theorem tr_fix5 {lvf : A → B → C → D → E → List (Nat × Value)} {F : (A → B → C → D → E → M R) → A → B → C → D → E → M R} (h : ∀ self, (∀ a b c d e, Tr X enc cu su pc (lvf a b c d e) st (self a b c d e)) → ∀ a b c d e, Tr X enc cu su pc (lvf a b c d e) st (F self a b c d e)) : ∀ n a b c d e, Tr X enc cu su pc (lvf a b c d e) st (fix5 n F a b c d e)
  | 0, _, _, _, _, _ => tr_none
  | n + 1, a, b, c, d, e => h _ (tr_fix5 h n) a b c d e
theorem tr_fix6 {lvf : A → B → C → D → E → F' → List (Nat × Value)} {F : (A → B → C → D → E → F' → M R) → A → B → C → D → E → F' → M R} (h : ∀ self, (∀ a b c d e f, Tr X enc cu su pc (lvf a b c d e f) st (self a b c d e f)) → ∀ a b c d e f, Tr X enc cu su pc (lvf a b c d e f) st (F self a b c d e f)) : ∀ n a b c d e f, Tr X enc cu su pc (lvf a b c d e f) st (fix6 n F a b c d e f)
  | 0, _, _, _, _, _, _ => tr_none
  | n + 1, a, b, c, d, e, f => h _ (tr_fix6 h n) a b c d e f
end FIX
/-- behind a call -/
theorem tr_back {S : Type} {enc' : S → Option Value} {f : M S} {K : S → M R} {mc ms : Nat} {a : Array Value} {G : Nat → Prop} {H : Heap} {locs : List Loc} {ls : Array Slot} {w : Wd} {r : R} {w' : Wd} {st0 : List Value} {v0 : S} {w0 : Wd} (hl : lv_has ls (cxN X) lv) (hS : va_S (fun q => cxBs X ≤ q) (cxS X).heap H locs) (hGG : ∀ H1, Rel (cxV X) G w0 H1 → Rel (cxV X) (cxG X) w0 H1)
    (hr : va_Run (cxP X) (cxL X) (cxE X) (cxR X) (cxS X) (cxM X) (cxA X) (cxB X) (cxMe X) (cxC X) H locs cu su mc ms (F0 (cxM X) pc ls st0) st (Qr (cxV X) G (enc' v0) w0 a) (fun q => cxBs X ≤ q))
    (h : Tr X enc (cu + mc) (su + ms) (pc + 3) lv ((enc' v0).toList ++ st) (K v0)) (hk : K v0 w0 = some (r, w')) :
    W (cxP X) (cxL X) (cxE X) (cxR X) (cxS X) (cxM X) (cxA X) (cxB X) (cxMe X) (cxC X) H locs cu su (cxQ X (enc r) w') (F0 (cxM X) pc ls st0) := by
  intro T hT Y
  obtain ⟨v, st₀, t, T', L, h0, X', hL, e1, e2, ⟨hv, hRel, hz, hkk⟩, stp⟩ := hr T hT Y
  cases hv
  rw [h0] at hz hkk
  have hS1 : va_S (fun q => cxBs X ≤ q) (cxS X).heap T'.heap (locs ++ L) := ⟨Nat.le_trans hS.1 (by rw [e1]; exact hz), fun q h1 h2 => by rw [e1, hkk q (Nat.lt_of_lt_of_le h1 hS.1) h2]; exact hS.2.1 q h1 h2, fun q hq => by
      rcases List.mem_append.mp hq with h | h
      · exact hS.2.2 q h
      · exact hL q h⟩
  obtain ⟨t2, a1, b1⟩ := h T'.heap (locs ++ L) ls w0 r w' hl (hGG _ (by rw [e1]; exact hRel)) hS1 hk T' rfl X'
  exact ⟨t2, stp t2 a1, b1⟩
theorem bnd_some {S : Type} {f : M S} {K : S → M R} {w : Wd} {r : R} {w' : Wd} (h : bnd f K w = some (r, w')) : ∃ v w0, f w = some (v, w0) ∧ K v w0 = some (r, w') := by
  unfold bnd at h
  cases hf : f w with
  | none => rw [hf] at h; cases h
  | some p =>
    obtain ⟨a, w1⟩ := p
    rw [hf] at h
    exact ⟨a, w1, rfl, h⟩
variable {S : Type} {enc' : S → Option Value} {f : M S} {K : S → M R} {q ci N index n maxL : Nat} {C : String} {T : u_T} {y : MethodName} {bytes : ByteArray} {ret' : Option FieldType} {rm : Room} {As : List Value}
/-- invokevirtual -/
theorem tr_callV (n : Nat) (hX : Good X own cc ret) (hd : decode cc pc = .ok (.invokevirtual index, 3)) (hO : Ok (cxL X) (cxV X) (cxG X) y bytes maxL ret' rm enc' (.ref (cxAd X q) :: As) f) (hs : SH q = (ci, N)) (hci : ci < 10) (hc : vwCl[ci]? = some (C, T, N)) (hx : Ex (cxG X) q)
    (h1 : Cond.methodLink own index y ∈ wsL_law) (h2 : Cond.instanceMethod y ∈ wsL_law) (h3 : Cond.selects C y y ∈ wsL_law) (h4 : Cond.initialized C ∈ wsL_law) (h5 : Cond.code y bytes maxL ret' ∈ wsL_law)
    (hy : y.cls = C ∧ y.cls ≠ "java/lang/invoke/MethodHandle" ∧ y.cls ≠ "java/lang/invoke/VarHandle" ∧ (parseMethodDescriptor y.desc).map (fun d => d.parameters.length) = some n) (hn : As.length = n)
    (hR1 : rm.frames + 1 ≤ (cxR X).frames ∧ 8 + (maxL + 11) + rm.locals ≤ (cxR X).locals) (hR2 : cu + rm.cells ≤ (cxR X).cells ∧ su + rm.slots ≤ (cxR X).slots) (hW : (st.map fun v => v.category).sum ≤ 8)
    {st0 : List Value} (hst : st0 = As.reverse ++ .ref (cxAd X q) :: st) (h : ∀ v, Tr X enc (cu + rm.cells) (su + rm.slots) (pc + 3) lv ((enc' v).toList ++ st) (K v)) : Tr X enc cu su pc lv st0 (bnd f K) := by
  subst hst
  intro H locs ls w r w' hl hR hS hk'
  obtain ⟨v0, w0, hf, hk2⟩ := bnd_some hk'
  have hat := hR.2.1 q (hx.lt hR)
  rw [cellOf_obj hs hci] at hat
  have had : cxAd X q = cxBs X + q := hX.ad hx.small
  refine tr_back (f := f) (a := (.ref (cxAd X q) :: As).toArray) (G := cxG X) (w := w) hl hS (fun _ h => h) ?_ (h v0) hk2
  refine va_runV (As := As) (C := C) (b := cxAd X q) (rest := st) ⟨hX.1, hX.2.1, hX.2.2.1, hX.ow, hX.ts⟩ (hO w v0 w0 hf) (cwV n hX.ts (gd_V h1 h2 h3 h4 h5) rfl rfl rfl hy hR1) ⟨blind, ?_, fun U hU hW => ⟨rfl, by rw [hU]; exact hR, hX.2.2.2.2.2.2.2.to hW hS hU⟩⟩ rfl hn hl.1 rfl (lv_room hW) hd hR2
  rw [had]
  exact va_recv hX.K (va_P1 hat) hc (q0 := 0) rfl
/-- invokestatic, of the own class -/
theorem tr_callS (n : Nat) (hX : Good X own cc ret) (hd : decode cc pc = .ok (.invokestatic index, 3)) (hO : Ok (cxL X) (cxV X) (cxG X) y bytes maxL ret' rm enc' As f)
    (h1 : Cond.methodLink own index y ∈ wsL_law) (h2 : Cond.static y ∈ wsL_law) (h3 : Cond.initialized own ∈ wsL_law) (h5 : Cond.code y bytes maxL ret' ∈ wsL_law)
    (hy : y.cls = own ∧ y.cls ≠ "java/lang/invoke/MethodHandle" ∧ y.cls ≠ "java/lang/invoke/VarHandle" ∧ (parseMethodDescriptor y.desc).map (fun d => d.parameters.length) = some n) (hn : As.length = n)
    (hR1 : rm.frames + 1 ≤ (cxR X).frames ∧ 8 + (maxL + 11) + rm.locals ≤ (cxR X).locals) (hR2 : cu + rm.cells ≤ (cxR X).cells ∧ su + rm.slots ≤ (cxR X).slots) (hW : (st.map fun v => v.category).sum ≤ 8)
    {st0 : List Value} (hst : st0 = As.reverse ++ st) (h : ∀ v, Tr X enc (cu + rm.cells) (su + rm.slots) (pc + 3) lv ((enc' v).toList ++ st) (K v)) : Tr X enc cu su pc lv st0 (bnd f K) := by
  subst hst
  intro H locs ls w r w' hl hR hS hk'
  obtain ⟨v0, w0, hf, hk2⟩ := bnd_some hk'
  refine tr_back (f := f) (a := As.toArray) (G := cxG X) (w := w) hl hS (fun _ h => h) ?_ (h v0) hk2
  exact va_runS (As := As) (rest := st) ⟨hX.1, hX.2.1, hX.2.2.1, hX.ow, hX.ts⟩ (hO w v0 w0 hf) (cwS n hX.ts (gd_S h1 h2 h3 h5) rfl rfl rfl hy hR1) ⟨blind, fun U hU hW => ⟨rfl, by rw [hU]; exact hR, hX.2.2.2.2.2.2.2.to hW hS hU⟩⟩ rfl hn hl.1 rfl (lv_room hW) hd hR2
/-- invokestatic, of another class -/
theorem tr_callSO (n : Nat) (hX : Good X own cc ret) (hd : decode cc pc = .ok (.invokestatic index, 3)) (hO : Ok (cxL X) (cxV X) (cxG X) y bytes maxL ret' rm enc' As f)
    (h1 : Cond.methodLink own index y ∈ wsL_law) (h2 : Cond.static y ∈ wsL_law) (h3 : Cond.initialized y.cls ∈ wsL_law) (h5 : Cond.code y bytes maxL ret' ∈ wsL_law)
    (hy : y.cls ≠ "java/lang/invoke/MethodHandle" ∧ y.cls ≠ "java/lang/invoke/VarHandle" ∧ (parseMethodDescriptor y.desc).map (fun d => d.parameters.length) = some n) (hn : As.length = n)
    (hR1 : rm.frames + 1 ≤ (cxR X).frames ∧ 8 + (maxL + 11) + rm.locals ≤ (cxR X).locals) (hR2 : cu + rm.cells ≤ (cxR X).cells ∧ su + rm.slots ≤ (cxR X).slots) (hW : (st.map fun v => v.category).sum ≤ 8)
    {st0 : List Value} (hst : st0 = As.reverse ++ st) (h : ∀ v, Tr X enc (cu + rm.cells) (su + rm.slots) (pc + 3) lv ((enc' v).toList ++ st) (K v)) : Tr X enc cu su pc lv st0 (bnd f K) := by
  subst hst
  intro H locs ls w r w' hl hR hS hk'
  obtain ⟨v0, w0, hf, hk2⟩ := bnd_some hk'
  refine tr_back (f := f) (a := As.toArray) (G := cxG X) (w := w) hl hS (fun _ h => h) ?_ (h v0) hk2
  exact va_runS (As := As) (rest := st) ⟨hX.1, hX.2.1, hX.2.2.1, hX.ow, hX.ts⟩ (hO w v0 w0 hf) ⟨callB_of n hX.ts (gd_M h5) rfl rfl rfl (hX.ts _ h3) (hX.ts _ h1) hy hR1, hX.ts _ h2⟩ ⟨blind, fun U hU hW => ⟨rfl, by rw [hU]; exact hR, hX.2.2.2.2.2.2.2.to hW hS hU⟩⟩ rfl hn hl.1 rfl (lv_room hW) hd hR2
/-- invokestatic of a nest mate's private method -/
theorem tr_callSN (n : Nat) {host : String} (hX : Good X own cc ret) (hd : decode cc pc = .ok (.invokestatic index, 3)) (hO : Ok (cxL X) (cxV X) (cxG X) y bytes maxL ret' rm enc' As f)
    (h1 : Cond.methodLinkNest own index y host ∈ NW) (h2 : Cond.static y ∈ wsL_law) (h3 : Cond.initialized y.cls ∈ wsL_law) (h5 : Cond.code y bytes maxL ret' ∈ wsL_law)
    (hy : y.cls ≠ "java/lang/invoke/MethodHandle" ∧ y.cls ≠ "java/lang/invoke/VarHandle" ∧ (parseMethodDescriptor y.desc).map (fun d => d.parameters.length) = some n) (hn : As.length = n)
    (hR1 : rm.frames + 1 ≤ (cxR X).frames ∧ 8 + (maxL + 11) + rm.locals ≤ (cxR X).locals) (hR2 : cu + rm.cells ≤ (cxR X).cells ∧ su + rm.slots ≤ (cxR X).slots) (hW : (st.map fun v => v.category).sum ≤ 8)
    {st0 : List Value} (hst : st0 = As.reverse ++ st) (h : ∀ v, Tr X enc (cu + rm.cells) (su + rm.slots) (pc + 3) lv ((enc' v).toList ++ st) (K v)) : Tr X enc cu su pc lv st0 (bnd f K) := by
  subst hst
  intro H locs ls w r w' hl hR hS hk'
  obtain ⟨v0, w0, hf, hk2⟩ := bnd_some hk'
  refine tr_back (f := f) (a := As.toArray) (G := cxG X) (w := w) hl hS (fun _ h => h) ?_ (h v0) hk2
  exact va_runSN (As := As) (rest := st) (host := host) ⟨hX.1, hX.2.1, hX.2.2.1, hX.ow, hX.ts⟩ (hO w v0 w0 hf) ⟨va_cnB n hX.ts (gd_M h5) rfl rfl rfl (hX.2.2.2.2.2.2.2.2.2.2.1 _ h1) (hX.ts _ h3) hy hR1, hX.ts _ h2, trivial⟩ ⟨blind, fun U hU hW => ⟨rfl, by rw [hU]; exact hR, hX.2.2.2.2.2.2.2.to hW hS hU⟩⟩ rfl hn hl.1 rfl (lv_room hW) hd hR2
/-- a method's contract out of its walk -/
theorem ok_of {l : Launch} {E : Ev} {G : Nat → Prop} {y : MethodName} {cc : ByteArray} {maxL : Nat} {ret : Option FieldType} {rm : Room} {R : Type} {enc : R → Option Value} {av : List Value} {f : M R} (hy : plainName y.cls = true) (hav : (lg_sl av).length ≤ maxL)
    (h : ∀ X : Cx, Good X y.cls cc ret → cxL X = l → cxV X = E → cxG X = G → cxN X = maxL → cxMc X = rm.cells → cxMs X = rm.slots → cxR X = rm → cxQ X = stdQ X → Tr X enc 0 0 0 (lv_args 0 av) [] f) : Ok l E G y cc maxL ret rm enc av f := by
  intro w r w' hf
  refine Met.ofW (cc := cc) (maxL := maxL) (ret := ret) hy rfl ?_
  intro p e s m args below meth c s₁ B hml hv
  obtain ⟨rfl, hR, hKS⟩ := hv
  have hts := atoms_spec (ws := Cond.code y cc maxL ret :: wsL_law) B.pre
  have hl := lv_entry av (n := maxL) hav
  rw [lg_entry_eq]
  exact h ((p, l, e, rm), (s, m, av.toArray, below), (meth, c), E, (G, maxL, rm.cells, rm.slots, fun r w' => MQ below (Qr E G r w') av.toArray s rm.cells rm.slots (fun q => E.2.2.2 ≤ q))) ⟨B.exec, B.bytes, hml, findClass_of_methodNamed B.named, fun w hw => hts w (List.mem_cons_of_mem _ hw), B.returns, B.notSynchronized, hKS⟩ rfl rfl rfl rfl rfl rfl rfl rfl s.heap [] _ w r w' hl hR va_S.rf hf
end RLC
