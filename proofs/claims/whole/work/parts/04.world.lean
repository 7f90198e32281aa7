/-! THE WORLD: what our cells hold, by their numbers. A cell q of ours lies at the address base + q. -/
abbrev Wd : Type := (Nat → Nat → Int32) × (Nat → Nat → Int64) × (Nat → Nat → Nat) × Nat
abbrev M (R : Type) : Type := Wd → Option (R × Wd)
def gi (w : Wd) (q k : Nat) : Int32 := w.1 q k
def gl (w : Wd) (q k : Nat) : Int64 := w.2.1 q k
def gr (w : Wd) (q k : Nat) : Nat := w.2.2.1 q k
def gn (w : Wd) : Nat := w.2.2.2
def up2 {α : Type} (f : Nat → Nat → α) (q k : Nat) (v : α) : Nat → Nat → α := fun a b => if a = q ∧ b = k then v else f a b
def si (w : Wd) (q k : Nat) (v : Int32) : Wd := (up2 w.1 q k v, w.2)
def sl (w : Wd) (q k : Nat) (v : Int64) : Wd := (w.1, up2 w.2.1 q k v, w.2.2)
def sr (w : Wd) (q k v : Nat) : Wd := (w.1, w.2.1, up2 w.2.2.1 q k v, w.2.2.2)
/-- n ints of the row a from place p on to the row b from place o on -/
def cpi (w : Wd) (a p b o n : Nat) : Wd := (fun x y => if x = b ∧ o ≤ y ∧ y < o + n then w.1 a (p + (y - o)) else w.1 x y, w.2)
/-- c new cells, all nought -/
def aw (w : Wd) (c : Nat) : Wd := (fun x y => if gn w ≤ x then 0 else w.1 x y, fun x y => if gn w ≤ x then 0 else w.2.1 x y, fun x y => if gn w ≤ x then 0 else w.2.2.1 x y, gn w + c)
/-- the kind of each cell (a class's number, or 10 bytes, 11 ints, 12 longs, 13 booleans, 14 rows of ints, 15 rows of longs), how many places -/
def SHL : List (Nat × Nat) := [(8, 13), (4, 4), (10, 300), (11, 4), (6, 8), (11, 16), (11, 16), (11, 16), (11, 64), (11, 5), (11, 289), (11, 289), (6, 8), (11, 16), (11, 16), (11, 16), (11, 64), (11, 5), (11, 289), (11, 289), (0, 6), (14, 6), (11, 8), (11, 8), (11, 8), (11, 8), (11, 8), (11, 8), (11, 6), (11, 84), (0, 6), (14, 6), (11, 8), (11, 8), (11, 8), (11, 8), (11, 8), (11, 8), (11, 6), (11, 84), (0, 6), (14, 6), (11, 8), (11, 8), (11, 8), (11, 8), (11, 8), (11, 8), (11, 6), (11, 84), (1, 3), (11, 84), (13, 84), (3, 8), (14, 8), (11, 128), (11, 128), (11, 128), (11, 128), (11, 128), (11, 128), (11, 128), (11, 128), (15, 8), (12, 128), (12, 128), (12, 128), (12, 128), (12, 128), (12, 128), (12, 128), (12, 128), (11, 8), (7, 12), (11, 8), (14, 8), (11, 16), (11, 16), (11, 16), (11, 16), (11, 16), (11, 16), (11, 16), (11, 16), (14, 8), (11, 16), (11, 16), (11, 16), (11, 16), (11, 16), (11, 16), (11, 16), (11, 16), (14, 8), (11, 16), (11, 16), (11, 16), (11, 16), (11, 16), (11, 16), (11, 16), (11, 16), (14, 8), (11, 16), (11, 16), (11, 16), (11, 16), (11, 16), (11, 16), (11, 16), (11, 16), (14, 8), (11, 16), (11, 16), (11, 16), (11, 16), (11, 16), (11, 16), (11, 16), (11, 16), (11, 8), (14, 8), (11, 3), (11, 3), (11, 3), (11, 3), (11, 3), (11, 3), (11, 3), (11, 3), (14, 8), (11, 3), (11, 3), (11, 3), (11, 3), (11, 3), (11, 3), (11, 3), (11, 3), (14, 8), (11, 3), (11, 3), (11, 3), (11, 3), (11, 3), (11, 3), (11, 3), (11, 3), (11, 3), (5, 5), (11, 20), (11, 20), (11, 20), (11, 20), (2, 5), (13, 16), (11, 16), (11, 16), (11, 16), (11, 8), (11, 32), (9, 32), (11, 300), (11, 2), (11, 96), (11, 128), (11, 10), (11, 18), (11, 144), (11, 3), (11, 3), (11, 3), (11, 252), (11, 60), (11, 64), (11, 4), (11, 168), (11, 168), (11, 168), (11, 8), (11, 168), (11, 8), (11, 168), (11, 2304), (12, 2304), (12, 2304), (11, 20)]
def SH (q : Nat) : Nat × Nat := SHL.getD q (99, 0)
def FKL : List (List Nat) := [[2, 2, 2, 0, 0, 0], [0, 2, 2], [0, 2, 2, 2, 2], [2, 0, 1, 0, 0, 2, 2, 2], [2, 0, 0, 2], [0, 2, 2, 2, 2], [0, 2, 2, 2, 2, 2, 2, 2], [2, 2, 2, 2, 2, 2, 2, 2, 2, 2, 2, 2], [2, 2, 2, 2, 2, 2, 0, 2, 2, 2, 2, 2, 2], [0, 2, 2, 2, 2, 2, 2, 2, 2, 2, 2, 2, 0, 0, 2, 0, 2, 0, 2, 0, 2, 2, 2, 0, 2, 2, 2, 2, 2, 2, 2, 2]]
def fkinds (c : Nat) : List Nat := FKL.getD c []
/-- what final references hold -/
def CR (q : Nat) : List (Nat × Nat) := match q with
  | 0 => [(0, 1), (3, 20), (4, 30), (5, 40), (7, 50), (8, 53), (9, 149), (10, 154), (11, 159), (12, 160)]
  | 1 => [(0, 2), (3, 3)]
  | 4 => [(1, 5), (2, 6), (3, 7), (4, 8), (5, 9), (6, 10), (7, 11)]
  | 12 => [(1, 13), (2, 14), (3, 15), (4, 16), (5, 17), (6, 18), (7, 19)]
  | 20 => [(0, 21), (1, 28), (2, 29)]
  | 30 => [(0, 31), (1, 38), (2, 39)]
  | 40 => [(0, 41), (1, 48), (2, 49)]
  | 50 => [(1, 51), (2, 52)]
  | 53 => [(0, 73), (5, 54), (6, 63), (7, 72)]
  | 73 => [(1, 74), (2, 75), (3, 84), (4, 93), (5, 102), (6, 111), (7, 120), (8, 121), (9, 130), (10, 139), (11, 148)]
  | 149 => [(1, 150), (2, 151), (3, 152), (4, 153)]
  | 154 => [(1, 155), (2, 156), (3, 157), (4, 158)]
  | 161 => [(1, 162), (2, 163), (3, 164), (4, 165), (5, 166), (6, 167), (7, 168), (8, 169), (9, 170), (10, 171), (11, 172), (14, 173), (16, 174), (18, 175), (20, 176), (21, 177), (22, 178), (24, 179), (25, 180), (26, 181), (27, 182), (28, 183), (29, 184), (30, 185), (31, 186)]
  | _ => []
def mx (q : Nat) : Nat := match q with
  | 0 => 160
  | 1 => 3
  | 4 => 11
  | 12 => 19
  | 20 => 29
  | 30 => 39
  | 40 => 49
  | 50 => 52
  | 53 => 148
  | 73 => 148
  | 149 => 153
  | 154 => 158
  | 161 => 186
  | _ => 186
def Whl (w : Wd) (q : Nat) : Prop := q < gn w ∧ mx q < gn w ∧ ∀ p ∈ CR q, gr w q p.1 = p.2 + 1
def va_rn (ad : Nat → Nat) (r : Nat) : Value := if r = 0 then .null else .ref (ad (r - 1))
def fv (ad : Nat → Nat) (w : Wd) (q k t : Nat) : Value := if t = 0 then .int (gi w q k) else if t = 1 then .long (gl w q k) else va_rn ad (gr w q k)
def fvl (ad : Nat → Nat) (w : Wd) (q : Nat) : Nat → List Nat → List Value
  | _, [] => []
  | k, t :: ts => fv ad w q k t :: fvl ad w q (k + 1) ts
def cellOf (ad : Nat → Nat) (cy : Nat → ClassId) (w : Wd) (q : Nat) : va_E :=
  if (SH q).1 < 10 then .inr ((SH q).1, fvl ad w q 0 (fkinds (SH q).1))
  else if (SH q).1 = 12 then .inl (cy 12, (SH q).2, .inr (.inl (gl w q)))
  else if (SH q).1 < 14 then .inl (cy (SH q).1, (SH q).2, .inl (gi w q))
  else .inl (cy (SH q).1, (SH q).2, .inr (.inr (.inr (.inr (fun i => if i < (SH q).2 then some (ad (q + 1 + i)) else none)))))
abbrev Ev : Type := va_G × (Nat → Nat) × (Nat → ClassId) × Nat
def Rel (E : Ev) (G : Nat → Prop) (w : Wd) (H : Heap) : Prop :=
  H.size = E.2.2.2 + gn w ∧ (∀ k, k < gn w → va_at E.1 vwCl (E.2.2.2 + k, cellOf E.2.1 E.2.2.1 w k) H) ∧ ∀ q, G q → Whl w q
abbrev tysOf (cy : Nat → ClassId) : List (ClassId × FieldType) := [(cy 10, .byte), (cy 11, .int), (cy 12, .long), (cy 13, .boolean), (cy 14, .array .int), (cy 15, .array .long)]
def stN (j : Nat) : String := if j = 0 then "ROW" else if j = 1 then "BRAID" else "THREES"
def stV (j : Nat) : List Int32 := if j = 0 then [0, 1, 2, 3, 4, 5, 6, 7] else if j = 1 then [0, 1, 1, 0, 0, 1] else [0, 1, 1, 0, 0, 1, 2, 2, 1, 0, 0, 1, 2]
def stL (j : Nat) : Nat := (stV j).length
def stG (j i : Nat) : Int32 := (stV j).getD i 0
def NW : List Cond := [.methodLinkNest RX8 11 yX4_init "SaidWoven", .methodLinkNest RX8 28 yX0_init "SaidWoven", .methodLinkNest RX8 41 yX1_init "SaidWoven", .methodLinkNest RX8 57 yX5_init "SaidWoven", .methodLinkNest RX8 64 yX2_init "SaidWoven", .methodLinkNest RX2 29 yX8_isBelow "SaidWoven"]
def KS (E : Ev) (U : State) : Prop :=
  va_K E.1 vwCl (tysOf E.2.2.1) U ∧ (∀ k, k < 1000 → E.2.1 k = E.2.2.2 + k) ∧
  (∀ j, j < 3 → va_Z "SaidWoven$Course" (stN j) "[I" (.ref (E.2.1 (1000 + j))) (fun q => E.2.2.2 ≤ q) U U.heap ∧ va_T .int (E.2.1 (1000 + j)) (stL j) (fun i => .int (stG j i)) (fun q => E.2.2.2 ≤ q) U U.heap) ∧
  (∀ w ∈ NW, va_Nw w U) ∧ ∀ t : FieldType, (t = .int ∨ t = .long) → (Cond.arrayOver (.array t)).before #[] U = true

abbrev Cx : Type := (Program × Launch × Env × Room) × (State × MethodId × Array Value × List Frame) × (Method × Code) × Ev × ((Nat → Prop) × Nat × Nat × Nat × (Option Value → Wd → State → Prop))
abbrev cxP (X : Cx) : Program := X.1.1
abbrev cxL (X : Cx) : Launch := X.1.2.1
abbrev cxE (X : Cx) : Env := X.1.2.2.1
abbrev cxR (X : Cx) : Room := X.1.2.2.2
abbrev cxS (X : Cx) : State := X.2.1.1
abbrev cxM (X : Cx) : MethodId := X.2.1.2.1
abbrev cxA (X : Cx) : Array Value := X.2.1.2.2.1
abbrev cxB (X : Cx) : List Frame := X.2.1.2.2.2
abbrev cxMe (X : Cx) : Method := X.2.2.1.1
abbrev cxC (X : Cx) : Code := X.2.2.1.2
abbrev cxV (X : Cx) : Ev := X.2.2.2.1
abbrev cxAd (X : Cx) : Nat → Nat := X.2.2.2.1.2.1
abbrev cxBs (X : Cx) : Nat := X.2.2.2.1.2.2.2
abbrev cxG (X : Cx) : Nat → Prop := X.2.2.2.2.1
abbrev cxN (X : Cx) : Nat := X.2.2.2.2.2.1
abbrev cxMc (X : Cx) : Nat := X.2.2.2.2.2.2.1
abbrev cxMs (X : Cx) : Nat := X.2.2.2.2.2.2.2.1
abbrev cxQ (X : Cx) : Option Value → Wd → State → Prop := X.2.2.2.2.2.2.2.2
def Good (X : Cx) (own : String) (cc : ByteArray) (ret : Option FieldType) : Prop :=
  (cxP X).tables.exec = Jvm.exec ∧ (cxC X).code = cc ∧ (cxC X).maxLocals = cxN X ∧ (cxS X).vm.findClass own = some (cxM X).cls ∧ (∀ w ∈ wsL_law, w.before (cxA X) (cxS X) = true) ∧ (cxMe X).sig.returnType = ret ∧ (cxMe X).locks = false ∧ KS (cxV X) (cxS X)
def Qr (E : Ev) (G : Nat → Prop) (r : Option Value) (w : Wd) : Array Value → State → Outcome → State → Prop := fun _ st o t => o = .returned r ∧ Rel E G w t.heap ∧ va_F (fun q => E.2.2.2 ≤ q) st t
def stdQ (X : Cx) : Option Value → Wd → State → Prop := fun r w' => MQ (cxB X) (Qr (cxV X) (cxG X) r w') (cxA X) (cxS X) (cxMc X) (cxMs X) (fun q => cxBs X ≤ q)
/-- running on from here, the method does what k says -/
def Tr (X : Cx) {R : Type} (enc : R → Option Value) (cu su pc : Nat) (lv : List (Nat × Value)) (st : List Value) (k : M R) : Prop :=
  ∀ (H : Heap) (locs : List Loc) (ls : Array Slot) (w : Wd) (r : R) (w' : Wd), lv_has ls (cxN X) lv → Rel (cxV X) (cxG X) w H → va_S (fun q => cxBs X ≤ q) (cxS X).heap H locs → k w = some (r, w') →
    W (cxP X) (cxL X) (cxE X) (cxR X) (cxS X) (cxM X) (cxA X) (cxB X) (cxMe X) (cxC X) H locs cu su (cxQ X (enc r) w') (F0 (cxM X) pc ls st)
/-- a method's contract: what f says, the method does -/
def Ok (l : Launch) (E : Ev) (G : Nat → Prop) (y : MethodName) (cc : ByteArray) (maxL : Nat) (ret : Option FieldType) (rm : Room) {R : Type} (enc : R → Option Value) (av : List Value) (f : M R) : Prop :=
  ∀ (w : Wd) (r : R) (w' : Wd), f w = some (r, w') → Met l y (Cond.code y cc maxL ret :: wsL_law) rm (va_Pc av (fun U => Rel E G w U.heap ∧ KS E U)) (Qr E G (enc r) w') rm.cells rm.slots (fun q => E.2.2.2 ≤ q)
-- the words of the programs: reads, writes, guards, calls, loops
def rI {R : Type} (q k : Nat) (K : Int32 → M R) : M R := fun w => K (gi w q k) w
def rL {R : Type} (q k : Nat) (K : Int64 → M R) : M R := fun w => K (gl w q k) w
def wI {R : Type} (q k : Nat) (v : Int32) (K : M R) : M R := fun w => K (si w q k v)
def wL {R : Type} (q k : Nat) (v : Int64) (K : M R) : M R := fun w => K (sl w q k v)
def wR {R : Type} (q k t : Nat) (K : M R) : M R := fun w => K (sr w q k (t + 1))
abbrev isT (t : Nat) : Prop := t = 4 ∨ t = 12
abbrev isB (b : Nat) : Prop := b = 20 ∨ b = 30 ∨ b = 40
abbrev isP (p : Nat) : Prop := p = 1000 ∨ p = 1001 ∨ p = 1002
/-- a reference to a Tongue is read -/
def rT {R : Type} (q k : Nat) (K : Nat → M R) : M R := fun w => if gr w q k = 5 ∨ gr w q k = 13 then K (gr w q k - 1) w else none
def gd {R : Type} (P : Prop) [Decidable P] (K : M R) : M R := fun w => if P then K w else none
def rt {R : Type} (r : R) : M R := fun w => some (r, w)
def bnd {A R : Type} (f : M A) (K : A → M R) : M R := fun w => match f w with
  | some (a, w') => K a w'
  | none => none
def nm {A R : Type} (e : A) (K : A → M R) : M R := K e
def cp {R : Type} (a p b o n : Nat) (K : M R) : M R := fun w => K (cpi w a p b o n)
def al {R : Type} (n c : Nat) (K : M R) : M R := fun w => if gn w = n then K (aw w c) else none
/-- an index that is in range -/
abbrev inb (i : Int32) (n : Nat) : Prop := ¬ (i < 0 ∨ n ≤ i.toNatClampNeg)
def aI {R : Type} (q n : Nat) (i : Int32) (K : Int32 → M R) : M R := gd (inb i n) (rI q i.toNatClampNeg K)
def aL {R : Type} (q n : Nat) (i : Int32) (K : Int64 → M R) : M R := gd (inb i n) (rL q i.toNatClampNeg K)
def sI {R : Type} (q n : Nat) (i v : Int32) (K : M R) : M R := gd (inb i n) (wI q i.toNatClampNeg v K)
def sL {R : Type} (q n : Nat) (i : Int32) (v : Int64) (K : M R) : M R := gd (inb i n) (wL q i.toNatClampNeg v K)
def FU : Nat := 1000000
def fix1 {A R : Type} : Nat → ((A → M R) → A → M R) → A → M R
  | 0, _ => fun _ _ => none
  | n + 1, F => F (fix1 n F)
def fix2 {A B R : Type} : Nat → ((A → B → M R) → A → B → M R) → A → B → M R
  | 0, _ => fun _ _ _ => none
  | n + 1, F => F (fix2 n F)
def fix3 {A B C R : Type} : Nat → ((A → B → C → M R) → A → B → C → M R) → A → B → C → M R
  | 0, _ => fun _ _ _ _ => none
  | n + 1, F => F (fix3 n F)
def fix4 {A B C D R : Type} : Nat → ((A → B → C → D → M R) → A → B → C → D → M R) → A → B → C → D → M R
  | 0, _ => fun _ _ _ _ _ => none
  | n + 1, F => F (fix4 n F)
def fix5 {A B C D E R : Type} : Nat → ((A → B → C → D → E → M R) → A → B → C → D → E → M R) → A → B → C → D → E → M R
  | 0, _ => fun _ _ _ _ _ _ => none
  | n + 1, F => F (fix5 n F)
def fix6 {A B C D E G R : Type} : Nat → ((A → B → C → D → E → G → M R) → A → B → C → D → E → G → M R) → A → B → C → D → E → G → M R
  | 0, _ => fun _ _ _ _ _ _ _ => none
  | n + 1, F => F (fix6 n F)
def fix0 {R : Type} : Nat → (M R → M R) → M R
  | 0, _ => fun _ => none
  | n + 1, F => F (fix0 n F)
abbrev eI (v : Int32) : Option Value := some (.int v)
abbrev eL (v : Int64) : Option Value := some (.long v)
abbrev eU (_ : Unit) : Option Value := none
abbrev eR (ad : Nat → Nat) (q : Nat) : Option Value := some (.ref (ad q))
def Gall : Nat → Prop := fun q => q ≤ 186
