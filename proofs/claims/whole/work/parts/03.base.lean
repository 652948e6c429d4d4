/-! The picture of the heap: a memory of whole numbers over owners (objects) and their rows; what runs and where a run stands. -/
abbrev sl_M : Type := Nat → Nat → Int → Int
abbrev sl_V : Type := Int ⊕ (Int64 ⊕ Option (Nat × Nat))
abbrev sl_rg (z : Int) : Prop := -2147483648 ≤ z ∧ z < 2147483648
abbrev vI (z : Int) : sl_V := Sum.inl z
abbrev vL (x : Int64) : sl_V := Sum.inr (Sum.inl x)
abbrev vR (o i : Nat) : sl_V := Sum.inr (Sum.inr (some (o, i)))
abbrev vN : sl_V := Sum.inr (Sum.inr none)
/-- which object an owner is -/
def sl_cls (o : Nat) : Nat := if o = 0 then 9 else if o = 1 then 10 else if o = 2 then 4 else if o = 3 then 3 else if o = 4 then 2 else if o = 5 then 2 else if o = 6 then 1 else if o = 7 then 6 else if o = 8 then 8 else if o = 9 then 6 else if o < 18 then 7 else if o < 20 then 99 else if o < 28 then 0 else if o < 30 then 99 else if o < 54 then 5 else if o < 60 then 99 else if o < 84 then 0 else 99
/-- the rows of an object: kind (0 ints, 1 booleans, 2 states, 3 routines) and length -/
def sl_ar (ci i : Nat) : Option (Nat × Nat) := match ci with
  | 0 => if i = 0 then none else if i ≤ 10 then some (0, 40) else if i = 11 then some (0, 160) else none
  | 1 => if i = 3 ∨ i = 4 ∨ i = 5 then some (0, 40) else if i = 6 then some (0, 9) else none
  | 2 => if i = 1 then some (0, 8) else none
  | 3 => if i = 5 then some (0, 400) else if i = 8 ∨ i = 9 then some (0, 12) else if i = 10 then some (1, 12) else none
  | 5 => if i = 5 then some (0, 9) else none
  | 6 => if i = 8 ∨ i = 9 then some (0, 9) else none
  | 7 => if i = 2 then some (3, 3) else if i = 4 then some (0, 40) else none
  | 8 => if i = 2 then some (0, 8) else if i = 4 ∨ i = 5 then some (0, 40) else none
  | 9 => if i = 1 then some (0, 160) else if i = 3 then some (0, 3) else if i = 4 then some (2, 8) else none
  | 10 => if i = 1 ∨ i = 12 then some (0, 990) else if i = 2 then some (0, 5940) else if i = 9 then some (0, 160) else if i = 14 ∨ i = 15 ∨ i = 42 then some (0, 41) else if i = 16 then some (0, 2) else if 17 ≤ i ∧ i ≤ 25 then some (0, 82) else if 26 ≤ i ∧ i ≤ 29 then some (0, 328) else if i = 30 ∨ i = 31 then some (0, 82) else if i = 39 ∨ i = 40 then some (0, 4) else if i = 41 then some (1, 41) else if i = 47 ∨ i = 48 then some (0, 40) else if i = 49 then some (0, 320) else if i = 50 ∨ i = 51 ∨ i = 53 then some (0, 8) else if i = 58 then some (0, 400) else if 62 ≤ i ∧ i ≤ 64 then some (0, 12) else none
  | _ => none
def sl_nf (ci : Nat) : Nat := match ci with
  | 0 => 13 | 1 => 6 | 2 => 2 | 3 => 10 | 4 => 5 | 5 => 5 | 6 => 9 | 7 => 4 | 8 => 7 | 9 => 11 | 10 => 64 | _ => 0
/-- fields that hold references -/
def sl_isr (ci k : Nat) : Bool := match ci with
  | 0 => decide (k ≤ 10)
  | 1 => decide (k ≠ 1)
  | 2 => decide (k = 0)
  | 3 => decide (k = 0 ∨ k = 1 ∨ k = 4 ∨ k = 7 ∨ k = 8 ∨ k = 9)
  | 4 => decide (k = 0 ∨ k = 2)
  | 5 => decide (k = 0 ∨ k = 4)
  | 6 => decide (k = 7 ∨ k = 8)
  | 7 => decide (k ≠ 2)
  | 8 => decide (k = 0 ∨ k = 1 ∨ k = 3 ∨ k = 4)
  | 9 => decide (k ≠ 1 ∧ k ≠ 4 ∧ k ≠ 5)
  | 10 => (sl_ar 10 (k + 1)).isSome
  | _ => false
def sl_dec (z : Int) : Option (Nat × Nat) := if z = 0 then none else some ((z - 1).toNat, 0)
/-- what a field that holds a reference holds -/
def sl_rf (M : sl_M) (ci o k : Nat) : Option (Nat × Nat) := match ci with
  | 1 => if k = 0 then sl_dec (M o 0 0) else some (o, k + 1)
  | 3 => if k = 0 then some (4, 0) else if k = 1 then some (5, 0) else some (o, k + 1)
  | 4 => if k = 0 then (if M o 0 0 = 0 then none else some (0, 1)) else sl_dec (M o 0 k)
  | 5 => if k = 0 then some (o + 30, 0) else some (o, k + 1)
  | 7 => if k = 0 then some (o + 10, 0) else some (o, k + 1)
  | 8 => if k = 0 then some (9, 0) else some (o, k + 1)
  | 9 => if k = 6 then some (2, 0) else if k = 7 then some (3, 0) else if k = 8 then some (6, 0) else if k = 9 then some (7, 0) else if k = 10 then some (8, 0) else some (o, k + 1)
  | _ => some (o, k + 1)
/-- what a row of references holds -/
def sl_ra (o j : Nat) : Nat × Nat := if o = 0 then (10 + j, 0) else (3 * o + j, 0)
def sl_fv (ad : Nat → Nat → Nat) (M : sl_M) (o k : Nat) : Value := if sl_isr (sl_cls o) k then va_rf ((sl_rf M (sl_cls o) o k).map (fun q => ad q.1 q.2)) else .int (Int32.ofInt (M o 0 k))
def sl_cell (cA : Nat → ClassId) (ad : Nat → Nat → Nat) (M : sl_M) (q : Nat × Nat) : va_E :=
  if q.2 = 0 then .inr (sl_cls q.1, (List.range (sl_nf (sl_cls q.1))).map (fun k => sl_fv ad M q.1 k))
  else match sl_ar (sl_cls q.1) q.2 with
    | some (t, n) => if t < 2 then .inl (cA t, n, .inl (fun j => Int32.ofInt (M q.1 q.2 (j : Nat)))) else .inl (cA t, n, .inr (.inr (.inr (.inr (fun j => some (ad (sl_ra q.1 j).1 (sl_ra q.1 j).2))))))
    | none => .inr (99, [])
/-- the places of the two worlds: 0 the system's, 1 the reference's -/
def sl_wof (ci : Nat) : Nat := if ci = 10 then 1 else 0
def sl_pl (w : Nat) : List (Nat × Nat) := (List.range 90).flatMap fun o => (List.range 66).filterMap fun i => if (sl_cls o < 11 ∧ sl_wof (sl_cls o) = w) ∧ (i = 0 ∨ (sl_ar (sl_cls o) i).isSome) then some (o, i) else none
abbrev sl_G : Type := va_G × (Nat → ClassId) × (Nat → Nat → Nat)
def sl_ws (G : sl_G) (w : Nat) (M : sl_M) : va_W := (sl_pl w).map fun q => (G.2.2 q.1 q.2, sl_cell G.2.1 G.2.2 M q)
def sl_tys (G : sl_G) : List (ClassId × FieldType) := [(G.2.1 0, .int), (G.2.1 1, .boolean), (G.2.1 2, .object RX7), (G.2.1 3, .object RX5)]
/-- the words of the tables that every method of the system takes -/
def sl_GL : List Cond := lw_tbl.filter goodWord
def sl_isN (w : Cond) : Bool := match w with | .methodLinkNest _ _ _ _ => true | _ => false
def sl_NT : List Cond := lw_tbl.filter sl_isN
def sl_K (G : sl_G) (U : State) : Prop := va_K G.1 vwCl (sl_tys G) U ∧ ∀ w ∈ sl_NT, va_Nw w U
def sl_inj (G : sl_G) (w : Nat) : Prop := ∀ p ∈ sl_pl w, ∀ q ∈ sl_pl w, G.2.2 p.1 p.2 = G.2.2 q.1 q.2 → p = q
def sl_W (G : sl_G) (w : Nat) (M : sl_M) (H : Heap) : Prop := va_P G.1 vwCl (sl_ws G w M) H
def sl_A (G : sl_G) (w : Nat) : Nat → Prop := fun a => ∃ p ∈ sl_pl w, a = G.2.2 p.1 p.2
def sl_cv (G : sl_G) (v : sl_V) : Value := match v with
  | .inl z => .int (Int32.ofInt z)
  | .inr (.inl x) => .long x
  | .inr (.inr none) => .null
  | .inr (.inr (some q)) => .ref (G.2.2 q.1 q.2)
def sl_RM (M : sl_M) : Prop := ∀ o i j, sl_rg (M o i j)
def sl_ok (v : sl_V) : Prop := match v with | .inl z => sl_rg z | _ => True
/-- a method: the world, the own name, the method's name, its code, its locals, what it returns, its frames, its locals' words -/
abbrev sl_F : Type := Nat × String × MethodName × ByteArray × Nat × Option FieldType × Nat × Nat
abbrev sl_F.wd (f : sl_F) : Nat := f.1
abbrev sl_F.own (f : sl_F) : String := f.2.1
abbrev sl_F.nm (f : sl_F) : MethodName := f.2.2.1
abbrev sl_F.cd (f : sl_F) : ByteArray := f.2.2.2.1
abbrev sl_F.nL (f : sl_F) : Nat := f.2.2.2.2.1
abbrev sl_F.rt (f : sl_F) : Option FieldType := f.2.2.2.2.2.1
abbrev sl_F.rm (f : sl_F) : Room := { frames := f.2.2.2.2.2.2.1, cells := 0, slots := 0, locals := f.2.2.2.2.2.2.2 }
def sl_wd (f : sl_F) : List Cond := Cond.code f.nm f.cd f.nL f.rt :: sl_GL
abbrev sl_R : Type := Option sl_V → sl_M → Prop
def sl_Q (G : sl_G) (w : Nat) (Q : sl_R) : Array Value → State → Outcome → State → Prop := fun _ st oc t =>
  (∃ (r : Option sl_V) (N : sl_M), oc = .returned (r.map (sl_cv G)) ∧ (∀ v, r = some v → sl_ok v) ∧ sl_RM N ∧ Q r N ∧ sl_W G w N t.heap ∧ sl_K G t) ∧ va_F (sl_A G w) st t
/-- the method, called with these, ends with Q -/
def sl_Runs (l : Launch) (f : sl_F) (as : List sl_V) (M : sl_M) (Q : sl_R) : Prop := sl_RM M → (∀ v ∈ as, sl_ok v) → ∀ G : sl_G, sl_inj G f.wd →
  Met l f.nm (sl_wd f) f.rm (va_Pc (as.map (sl_cv G)) (fun U => sl_W G f.wd M U.heap ∧ sl_K G U)) (sl_Q G f.wd Q) 0 0 (sl_A G f.wd)
/-- what holds all along in a method's body -/
def sl_C (l : Launch) (f : sl_F) (G : sl_G) (p : Program) (s : State) (m : MethodId) (args : Array Value) (meth : Method) (c : Code) : Prop :=
  p.tables.exec = Jvm.exec ∧ c.code = f.cd ∧ c.maxLocals = f.nL ∧ s.vm.findClass f.own = some m.cls ∧ (∀ w ∈ sl_wd f, w.before args s = true) ∧ meth.sig.returnType = f.rt ∧ meth.locks = false ∧ sl_K G s ∧ sl_inj G f.wd
abbrev sl_L : Type := List (Nat × sl_V)
def sl_lc (G : sl_G) (ls : sl_L) : List (Nat × Value) := ls.map fun q => (q.1, sl_cv G q.2)
/-- the method, standing at pc with these locals, this stack, this memory, ends with Q -/
def sl_At (l : Launch) (f : sl_F) (pc : Nat) (ls : sl_L) (st : List sl_V) (M : sl_M) (Q : sl_R) : Prop := sl_RM M → (∀ q ∈ ls, sl_ok q.2) → ∀ (G : sl_G) (p : Program) (e : Env) (s : State) (m : MethodId) (args : Array Value) (below : List Frame) (meth : Method) (c : Code), sl_C l f G p s m args meth c →
  ∀ (H : Heap) (locs : List Loc) (arr : Array Slot), sl_W G f.wd M H → va_S (sl_A G f.wd) s.heap H locs → lv_has arr f.nL (sl_lc G ls) →
    W p l e f.rm s m args below meth c H locs 0 0 (MQ below (sl_Q G f.wd Q) args s 0 0 (sl_A G f.wd)) (F0 m pc arr (st.map (sl_cv G)))
/-- a cell is written -/
def sl_wr (M : sl_M) (o i : Nat) (j v : Int) : sl_M := fun o' i' j' => if o' = o ∧ i' = i ∧ j' = j then v else M o' i' j'
