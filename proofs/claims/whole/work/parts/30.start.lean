/-! THE START: what the Statement gives is what the world needs -/
def w00 : Wd := (fun _ _ => 0, fun _ _ => 0, fun _ _ => 0, 0)
theorem st_0 {args : Array Value} {s : State} (h : (Jvm.Cond.and given_1 narrow_1).before args s = true) (hts : ∀ w ∈ lw_tbl, w.before args s = true) : ∃ t : Nat, va_Z "SaidWoven$Course" (stN 0) "[I" (.ref t) (fun q => s.heap.size ≤ q) s s.heap ∧ va_T .int t (stL 0) (fun i => .int (stG 0 i)) (fun q => s.heap.size ≤ q) s s.heap := by
  have hs := flat_of_before _ h
  have harr : (Cond.arrayOf (.static "SaidWoven$Course" "ROW" "[I") .int).before args s = true := hs _ (by decide +kernel)
  have hlen : (Cond.eq (.length (.static "SaidWoven$Course" "ROW" "[I")) (.int 8)).before args s = true := hs _ (by decide +kernel)
  have hel : ∀ j : Nat, j < 8 → (Term.elem (.static "SaidWoven$Course" "ROW" "[I") (.int (Int32.ofNat j))).eval args s none [] s = some (.int (stG 0 j)) := by
    intro j hj
    rcases (by omega : j = 0 ∨ j = 1 ∨ j = 2 ∨ j = 3 ∨ j = 4 ∨ j = 5 ∨ j = 6 ∨ j = 7) with rfl | rfl | rfl | rfl | rfl | rfl | rfl | rfl
    · have e : (Cond.eq (.elem (.static "SaidWoven$Course" "ROW" "[I") (.int 0)) (.int 0)).before args s = true := hs _ (by decide +kernel)
      exact va_eqt e
    · have e : (Cond.eq (.elem (.static "SaidWoven$Course" "ROW" "[I") (.int 1)) (.int 1)).before args s = true := hs _ (by decide +kernel)
      exact va_eqt e
    · have e : (Cond.eq (.elem (.static "SaidWoven$Course" "ROW" "[I") (.int 2)) (.int 2)).before args s = true := hs _ (by decide +kernel)
      exact va_eqt e
    · have e : (Cond.eq (.elem (.static "SaidWoven$Course" "ROW" "[I") (.int 3)) (.int 3)).before args s = true := hs _ (by decide +kernel)
      exact va_eqt e
    · have e : (Cond.eq (.elem (.static "SaidWoven$Course" "ROW" "[I") (.int 4)) (.int 4)).before args s = true := hs _ (by decide +kernel)
      exact va_eqt e
    · have e : (Cond.eq (.elem (.static "SaidWoven$Course" "ROW" "[I") (.int 5)) (.int 5)).before args s = true := hs _ (by decide +kernel)
      exact va_eqt e
    · have e : (Cond.eq (.elem (.static "SaidWoven$Course" "ROW" "[I") (.int 6)) (.int 6)).before args s = true := hs _ (by decide +kernel)
      exact va_eqt e
    · have e : (Cond.eq (.elem (.static "SaidWoven$Course" "ROW" "[I") (.int 7)) (.int 7)).before args s = true := hs _ (by decide +kernel)
      exact va_eqt e
  obtain ⟨t, h1, h2⟩ := va_Tof (N := 8) (f := fun i => .int (stG 0 i)) (A := fun q => s.heap.size ≤ q) (by decide) harr (va_eqt hlen) hel (fun a ha => Nat.not_le.mpr ha)
  exact ⟨t, va_Zof (hts _ ls_ROW) (hts _ (wsL_in _ k_2_6)) h1 (fun a ha => Nat.not_le.mpr ha), h2⟩
theorem st_1 {args : Array Value} {s : State} (h : (Jvm.Cond.and given_1 narrow_1).before args s = true) (hts : ∀ w ∈ lw_tbl, w.before args s = true) : ∃ t : Nat, va_Z "SaidWoven$Course" (stN 1) "[I" (.ref t) (fun q => s.heap.size ≤ q) s s.heap ∧ va_T .int t (stL 1) (fun i => .int (stG 1 i)) (fun q => s.heap.size ≤ q) s s.heap := by
  have hs := flat_of_before _ h
  have harr : (Cond.arrayOf (.static "SaidWoven$Course" "BRAID" "[I") .int).before args s = true := hs _ (by decide +kernel)
  have hlen : (Cond.eq (.length (.static "SaidWoven$Course" "BRAID" "[I")) (.int 6)).before args s = true := hs _ (by decide +kernel)
  have hel : ∀ j : Nat, j < 6 → (Term.elem (.static "SaidWoven$Course" "BRAID" "[I") (.int (Int32.ofNat j))).eval args s none [] s = some (.int (stG 1 j)) := by
    intro j hj
    rcases (by omega : j = 0 ∨ j = 1 ∨ j = 2 ∨ j = 3 ∨ j = 4 ∨ j = 5) with rfl | rfl | rfl | rfl | rfl | rfl
    · have e : (Cond.eq (.elem (.static "SaidWoven$Course" "BRAID" "[I") (.int 0)) (.int 0)).before args s = true := hs _ (by decide +kernel)
      exact va_eqt e
    · have e : (Cond.eq (.elem (.static "SaidWoven$Course" "BRAID" "[I") (.int 1)) (.int 1)).before args s = true := hs _ (by decide +kernel)
      exact va_eqt e
    · have e : (Cond.eq (.elem (.static "SaidWoven$Course" "BRAID" "[I") (.int 2)) (.int 1)).before args s = true := hs _ (by decide +kernel)
      exact va_eqt e
    · have e : (Cond.eq (.elem (.static "SaidWoven$Course" "BRAID" "[I") (.int 3)) (.int 0)).before args s = true := hs _ (by decide +kernel)
      exact va_eqt e
    · have e : (Cond.eq (.elem (.static "SaidWoven$Course" "BRAID" "[I") (.int 4)) (.int 0)).before args s = true := hs _ (by decide +kernel)
      exact va_eqt e
    · have e : (Cond.eq (.elem (.static "SaidWoven$Course" "BRAID" "[I") (.int 5)) (.int 1)).before args s = true := hs _ (by decide +kernel)
      exact va_eqt e
  obtain ⟨t, h1, h2⟩ := va_Tof (N := 6) (f := fun i => .int (stG 1 i)) (A := fun q => s.heap.size ≤ q) (by decide) harr (va_eqt hlen) hel (fun a ha => Nat.not_le.mpr ha)
  exact ⟨t, va_Zof (hts _ ls_BRAID) (hts _ (wsL_in _ k_2_6)) h1 (fun a ha => Nat.not_le.mpr ha), h2⟩
theorem st_2 {args : Array Value} {s : State} (h : (Jvm.Cond.and given_1 narrow_1).before args s = true) (hts : ∀ w ∈ lw_tbl, w.before args s = true) : ∃ t : Nat, va_Z "SaidWoven$Course" (stN 2) "[I" (.ref t) (fun q => s.heap.size ≤ q) s s.heap ∧ va_T .int t (stL 2) (fun i => .int (stG 2 i)) (fun q => s.heap.size ≤ q) s s.heap := by
  have hs := flat_of_before _ h
  have harr : (Cond.arrayOf (.static "SaidWoven$Course" "THREES" "[I") .int).before args s = true := hs _ (by decide +kernel)
  have hlen : (Cond.eq (.length (.static "SaidWoven$Course" "THREES" "[I")) (.int 13)).before args s = true := hs _ (by decide +kernel)
  have hel : ∀ j : Nat, j < 13 → (Term.elem (.static "SaidWoven$Course" "THREES" "[I") (.int (Int32.ofNat j))).eval args s none [] s = some (.int (stG 2 j)) := by
    intro j hj
    rcases (by omega : j = 0 ∨ j = 1 ∨ j = 2 ∨ j = 3 ∨ j = 4 ∨ j = 5 ∨ j = 6 ∨ j = 7 ∨ j = 8 ∨ j = 9 ∨ j = 10 ∨ j = 11 ∨ j = 12) with rfl | rfl | rfl | rfl | rfl | rfl | rfl | rfl | rfl | rfl | rfl | rfl | rfl
    · have e : (Cond.eq (.elem (.static "SaidWoven$Course" "THREES" "[I") (.int 0)) (.int 0)).before args s = true := hs _ (by decide +kernel)
      exact va_eqt e
    · have e : (Cond.eq (.elem (.static "SaidWoven$Course" "THREES" "[I") (.int 1)) (.int 1)).before args s = true := hs _ (by decide +kernel)
      exact va_eqt e
    · have e : (Cond.eq (.elem (.static "SaidWoven$Course" "THREES" "[I") (.int 2)) (.int 1)).before args s = true := hs _ (by decide +kernel)
      exact va_eqt e
    · have e : (Cond.eq (.elem (.static "SaidWoven$Course" "THREES" "[I") (.int 3)) (.int 0)).before args s = true := hs _ (by decide +kernel)
      exact va_eqt e
    · have e : (Cond.eq (.elem (.static "SaidWoven$Course" "THREES" "[I") (.int 4)) (.int 0)).before args s = true := hs _ (by decide +kernel)
      exact va_eqt e
    · have e : (Cond.eq (.elem (.static "SaidWoven$Course" "THREES" "[I") (.int 5)) (.int 1)).before args s = true := hs _ (by decide +kernel)
      exact va_eqt e
    · have e : (Cond.eq (.elem (.static "SaidWoven$Course" "THREES" "[I") (.int 6)) (.int 2)).before args s = true := hs _ (by decide +kernel)
      exact va_eqt e
    · have e : (Cond.eq (.elem (.static "SaidWoven$Course" "THREES" "[I") (.int 7)) (.int 2)).before args s = true := hs _ (by decide +kernel)
      exact va_eqt e
    · have e : (Cond.eq (.elem (.static "SaidWoven$Course" "THREES" "[I") (.int 8)) (.int 1)).before args s = true := hs _ (by decide +kernel)
      exact va_eqt e
    · have e : (Cond.eq (.elem (.static "SaidWoven$Course" "THREES" "[I") (.int 9)) (.int 0)).before args s = true := hs _ (by decide +kernel)
      exact va_eqt e
    · have e : (Cond.eq (.elem (.static "SaidWoven$Course" "THREES" "[I") (.int 10)) (.int 0)).before args s = true := hs _ (by decide +kernel)
      exact va_eqt e
    · have e : (Cond.eq (.elem (.static "SaidWoven$Course" "THREES" "[I") (.int 11)) (.int 1)).before args s = true := hs _ (by decide +kernel)
      exact va_eqt e
    · have e : (Cond.eq (.elem (.static "SaidWoven$Course" "THREES" "[I") (.int 12)) (.int 2)).before args s = true := hs _ (by decide +kernel)
      exact va_eqt e
  obtain ⟨t, h1, h2⟩ := va_Tof (N := 13) (f := fun i => .int (stG 2 i)) (A := fun q => s.heap.size ≤ q) (by decide) harr (va_eqt hlen) hel (fun a ha => Nat.not_le.mpr ha)
  exact ⟨t, va_Zof (hts _ ls_THREES) (hts _ (wsL_in _ k_2_6)) h1 (fun a ha => Nat.not_le.mpr ha), h2⟩
theorem arr_of {args : Array Value} {s : State} {t : FieldType} (h : (Cond.arrayClass t).before args s = true) (ho : ∀ C, t ≠ .object C) : ∃ c : ClassId, ArrOfT s c t ∧ va_RA s c t := by
  obtain ⟨c, k, comp, h1, h2, h3⟩ := Cond.arrayClass_spec h
  refine ⟨c, fun N z => ⟨(fun q hq => by cases hq), k, h2, comp, h3⟩, ?_⟩
  cases t <;> first | exact h1 | exact absurd rfl (ho _)
theorem arr_ofA {args : Array Value} {s : State} {t : FieldType} (h : (Cond.arrayOver (.array t)).before args s = true) : ∃ c : ClassId, ArrOfT s c (.array t) ∧ va_RA s c (.array t) := by
  obtain ⟨comp, c, k, h1, h2, h3, h4, h5⟩ := arrayOverA_spec h
  exact ⟨c, fun N z => ⟨(fun q hq => by cases hq), k, h3, comp, h4⟩, h5⟩
theorem ks_start {args : Array Value} {s : State} (b : Nat) (h : (Jvm.Cond.and given_1 narrow_1).before args s = true) (hts0 : ∀ w ∈ lw_tbl, w.before args s = true) : ∃ E : Ev, KS E s ∧ E.2.2.2 = s.heap.size ∧ E.2.1 1003 = b := by
  have hts : ∀ w ∈ wsL_law, w.before args s = true := fun w hw => hts0 w (wsL_in w hw)
  obtain ⟨c0, iS0, hKn0⟩ := u_known (C := RX0) (T := TX0) (N := 6) (n := 6) hts inlX0 (hts _ k_1_23)
  obtain ⟨c1, iS1, hKn1⟩ := u_known (C := RX1) (T := TX1) (N := 3) (n := 3) hts inlX1 (hts _ k_2_5)
  obtain ⟨c2, iS2, hKn2⟩ := u_known (C := RX2) (T := TX2) (N := 5) (n := 5) hts inlX2 (hts _ k_2_17)
  obtain ⟨c3, iS3, hKn3⟩ := u_known (C := RX3) (T := TX3) (N := 8) (n := 8) hts inlX3 (hts _ k_2_9)
  obtain ⟨c4, iS4, hKn4⟩ := u_known (C := RX4) (T := TX4) (N := 4) (n := 4) hts inlX4 (hts _ k_1_14)
  obtain ⟨c5, iS5, hKn5⟩ := u_known (C := RX5) (T := TX5) (N := 5) (n := 5) hts inlX5 (hts _ k_2_13)
  obtain ⟨c6, iS6, hKn6⟩ := u_known (C := RX6) (T := TX6) (N := 8) (n := 8) hts inlX6 (hts _ k_1_18)
  obtain ⟨c7, iS7, hKn7⟩ := u_known (C := RX7) (T := TX7) (N := 12) (n := 12) hts inlX7 (hts _ k_4_21)
  obtain ⟨c8, iS8, hKn8⟩ := u_known (C := RX8) (T := TX8) (N := 13) (n := 13) hts inlX8 (hts _ k_1_1)
  obtain ⟨c9, iS9, hKn9⟩ := u_known (C := RX9) (T := TX9) (N := 32) (n := 32) hts inlX9 (hts _ k_1_4)
  obtain ⟨t0, z0, y0⟩ := st_0 h hts0
  obtain ⟨t1, z1, y1⟩ := st_1 h hts0
  obtain ⟨t2, z2, y2⟩ := st_2 h hts0
  obtain ⟨a10, b10⟩ := arr_of (hts _ k_3_2) (fun _ z => by cases z)
  obtain ⟨a11, b11⟩ := arr_of (hts _ k_2_20) (fun _ z => by cases z)
  obtain ⟨a12, b12⟩ := arr_of (hts _ k_4_17) (fun _ z => by cases z)
  obtain ⟨a13, b13⟩ := arr_of (hts _ k_4_8) (fun _ z => by cases z)
  obtain ⟨a14, b14⟩ := arr_ofA (hts0 _ ao_int)
  obtain ⟨a15, b15⟩ := arr_ofA (hts0 _ ao_long)
  refine ⟨((fun k => if k = 0 then c0 else if k = 1 then c1 else if k = 2 then c2 else if k = 3 then c3 else if k = 4 then c4 else if k = 5 then c5 else if k = 6 then c6 else if k = 7 then c7 else if k = 8 then c8 else c9, fun k => if k = 0 then iS0 else if k = 1 then iS1 else if k = 2 then iS2 else if k = 3 then iS3 else if k = 4 then iS4 else if k = 5 then iS5 else if k = 6 then iS6 else if k = 7 then iS7 else if k = 8 then iS8 else iS9), (fun k => if k < 1000 then s.heap.size + k else if k = 1000 then t0 else if k = 1001 then t1 else if k = 1002 then t2 else b), (fun k => if k = 10 then a10 else if k = 11 then a11 else if k = 12 then a12 else if k = 13 then a13 else if k = 14 then a14 else a15), s.heap.size), ⟨⟨?_, ?_⟩, ?_, ?_, ?_, ?_⟩, rfl, rfl⟩
  · intro k q hq
    match k, hq with
    | 0, hq => cases hq; exact hKn0
    | 1, hq => cases hq; exact hKn1
    | 2, hq => cases hq; exact hKn2
    | 3, hq => cases hq; exact hKn3
    | 4, hq => cases hq; exact hKn4
    | 5, hq => cases hq; exact hKn5
    | 6, hq => cases hq; exact hKn6
    | 7, hq => cases hq; exact hKn7
    | 8, hq => cases hq; exact hKn8
    | 9, hq => cases hq; exact hKn9
    | k + 10, hq => simp [vwCl] at hq
  · intro k q hq
    match k, hq with
    | 0, hq => cases hq; exact b10
    | 1, hq => cases hq; exact b11
    | 2, hq => cases hq; exact b12
    | 3, hq => cases hq; exact b13
    | 4, hq => cases hq; exact b14
    | 5, hq => cases hq; exact b15
    | k + 6, hq => simp [tysOf] at hq
  · intro k hk
    exact if_pos hk
  · intro j hj
    rcases (by omega : j = 0 ∨ j = 1 ∨ j = 2) with rfl | rfl | rfl
    · exact ⟨z0, y0⟩
    · exact ⟨z1, y1⟩
    · exact ⟨z2, y2⟩
  · intro w hw
    exact va_Nw.of (nw_on w hw) (hts0 w (nw_in w hw))
  · intro t ht
    rcases ht with rfl | rfl
    · exact over_moved (Vm.Alike.refl _) (hts0 _ ao_int)
    · exact over_moved (Vm.Alike.refl _) (hts0 _ ao_long)
/-- the law from its entry, if its program answers 1 -/
theorem whole_of (hp : ∀ (xs : Nat → Int32) (L : Nat), L ≤ 2560 → ∃ w', f_law xs L w00 = some (1, w')) {p : Program} {e : Env} {s : State} {m : MethodId} {below : List Frame} {meth : Method} {c : Code} (l : Launch) {b L : Nat} {xs : Nat → Int32} (hL : L ≤ 2560) (C0 : lw_At p s m meth c b L xs) : W p l e room_1 s m #[Value.ref b] below meth c s.heap [] 0 0 (lw_Z below #[Value.ref b] s) (entryFrame m ([Value.ref b] : List Value).toArray 4) := by
  obtain ⟨hx, hb, hr, hml, hown, hts0, hX, hbl, hlocks, hgv⟩ := C0
  obtain ⟨E, hKS, hbs, had⟩ := ks_start b hgv hts0
  obtain ⟨w', hf⟩ := hp xs L hL
  have hl := lv_entry ([.ref b]) (n := 4) (Nat.le_of_ble_eq_true rfl)
  rw [lg_entry_eq]
  let X : Cx := ((p, l, e, room_1), (s, m, #[Value.ref b], below), (meth, c), E, (Gno, 4, 0, 0, fun r _ t => r = some (.int 1) → lw_Z below #[Value.ref b] s t))
  have hGood : Good X RL cL_law (some .boolean) := ⟨hx, hb, hml, hown, fun w hw => hts0 w (wsL_in w hw), hr, hlocks, hKS⟩
  have hUp : StaL (cxUp X) xs L := ⟨rfl, rfl, rfl, rfl, hbs, by show va_X (E.2.1 1003) L xs s s.heap; rw [had]; exact hX, by show E.2.1 1003 < _; rw [had]; exact hbl, by show #[Value.ref b] = #[Value.ref (E.2.1 1003)]; rw [had]⟩
  have key := t_law hGood ⟨rfl, rfl, rfl⟩ hUp s.heap [] _ w00 1 w' (by
      have h2 : lv_args 0 [Value.ref b] = [(0, .ref (cxAd X 1003))] := by show [(0, Value.ref b)] = [(0, Value.ref (E.2.1 1003))]; rw [had]
      rw [← h2]; exact hl) ⟨by show s.heap.size = E.2.2.2 + 0; rw [hbs]; rfl, fun k hk => absurd hk (Nat.not_lt_zero _), fun q hq => hq.elim⟩ va_S.rf hf
  intro T hT Y
  obtain ⟨t, a1, b1⟩ := key T hT Y
  exact ⟨t, a1, b1 rfl⟩
