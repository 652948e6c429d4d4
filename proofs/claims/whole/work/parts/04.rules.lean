/-! Numbers -/
theorem sl_ti {z : Int} (h : sl_rg z) : (Int32.ofInt z).toInt = z := Int32.toInt_ofInt_of_le h.1 h.2
theorem sl_inj32 {a b : Int} (ha : sl_rg a) (hb : sl_rg b) : Int32.ofInt a = Int32.ofInt b ↔ a = b := ⟨fun h => by rw [← sl_ti ha, ← sl_ti hb, h], fun h => by rw [h]⟩
theorem sl_lt32 {a b : Int} (ha : sl_rg a) (hb : sl_rg b) : Int32.ofInt a < Int32.ofInt b ↔ a < b := by rw [Int32.lt_iff_toInt_lt, sl_ti ha, sl_ti hb]
theorem sl_le32 {a b : Int} (ha : sl_rg a) (hb : sl_rg b) : Int32.ofInt a ≤ Int32.ofInt b ↔ a ≤ b := by rw [Int32.le_iff_toInt_le, sl_ti ha, sl_ti hb]
theorem sl_rgT (x : Int32) : sl_rg x.toInt := ⟨x.le_toInt, x.toInt_lt⟩
theorem sl_ofT (x : Int32) : Int32.ofInt x.toInt = x := Int32.ofInt_toInt x
theorem sl_rg0 : sl_rg 0 := ⟨by decide, by decide⟩
/-- the operations that aren't sums, on numbers in the range -/
def iand (a b : Int) : Int := (Int32.ofInt a &&& Int32.ofInt b).toInt
def ior (a b : Int) : Int := (Int32.ofInt a ||| Int32.ofInt b).toInt
def ixor (a b : Int) : Int := (Int32.ofInt a ^^^ Int32.ofInt b).toInt
def ishl (a b : Int) : Int := (Int32.ofInt a <<< (Int32.ofInt b &&& 31)).toInt
def ishr (a b : Int) : Int := (Int32.ofInt a >>> (Int32.ofInt b &&& 31)).toInt
def idiv (a b : Int) : Int := (Int32.ofInt a / Int32.ofInt b).toInt
def irem (a b : Int) : Int := (Int32.ofInt a - Int32.ofInt a / Int32.ofInt b * Int32.ofInt b).toInt
def iwrap (a : Int) : Int := (Int32.ofInt a).toInt
theorem rg_iand (a b : Int) : sl_rg (iand a b) := sl_rgT _
theorem rg_ior (a b : Int) : sl_rg (ior a b) := sl_rgT _
theorem rg_ixor (a b : Int) : sl_rg (ixor a b) := sl_rgT _
theorem rg_ishl (a b : Int) : sl_rg (ishl a b) := sl_rgT _
theorem rg_ishr (a b : Int) : sl_rg (ishr a b) := sl_rgT _
theorem rg_idiv (a b : Int) : sl_rg (idiv a b) := sl_rgT _
theorem rg_irem (a b : Int) : sl_rg (irem a b) := sl_rgT _
theorem rg_iwrap (a : Int) : sl_rg (iwrap a) := sl_rgT _
theorem iwrap_eq {a : Int} (h : sl_rg a) : iwrap a = a := sl_ti h
section R
variable {l : Launch} {f : sl_F} {pc : Nat} {ls : sl_L} {st : List sl_V} {M : sl_M} {Q : sl_R}
theorem sl_At.in (k : sl_RM M → (∀ q ∈ ls, sl_ok q.2) → sl_At l f pc ls st M Q) : sl_At l f pc ls st M Q := fun hM hl => k hM hl hM hl
theorem sl_At.sub {ls' : sl_L} (is : List Nat) (h : is.map (fun i => ls[i]?) = ls'.map some) (k : sl_At l f pc ls' st M Q) : sl_At l f pc ls st M Q := by
  intro hM hl G p e s m args below meth c C H locs arr hW hS hv
  have hs : ∀ q ∈ ls', q ∈ ls := by
    intro q hq
    have h1 : some q ∈ ls'.map some := List.mem_map.mpr ⟨q, hq, rfl⟩
    rw [← h] at h1
    obtain ⟨i, -, hi⟩ := List.mem_map.mp h1
    exact List.mem_of_getElem? hi
  refine k hM (fun q hq => hl q (hs q hq)) G p e s m args below meth c C H locs arr hW hS ⟨hv.1, hv.2.1, fun q hq => ?_⟩
  obtain ⟨x, hx, rfl⟩ := List.mem_map.mp hq
  exact hv.2.2 _ (List.mem_map.mpr ⟨x, hs x hx, rfl⟩)
theorem sl_Q.mono {G : sl_G} {w : Nat} {Q' : sl_R} (h : ∀ r N, Q r N → Q' r N) {a : Array Value} {s : State} {o : Outcome} {t : State} (q : sl_Q G w Q a s o t) : sl_Q G w Q' a s o t := by
  obtain ⟨⟨r, N, h1, h2, h3, h4, h5⟩, h6⟩ := q
  exact ⟨⟨r, N, h1, h2, h3, h _ _ h4, h5⟩, h6⟩
theorem sl_At.mono {Q' : sl_R} (h : ∀ r N, Q r N → Q' r N) (k : sl_At l f pc ls st M Q) : sl_At l f pc ls st M Q' := by
  intro hM hl G p e s m args below meth c C H locs arr hW hS hv T hT X
  obtain ⟨t, a1, o, b1, b2, b3, b4⟩ := k hM hl G p e s m args below meth c C H locs arr hW hS hv T hT X
  exact ⟨t, a1, o, b1, b2, b3.mono h, b4⟩
theorem r_iconst {n : Int} (hd : decode f.cd pc = .ok (.iconst n, 1)) (k : sl_At l f (pc + 1) ls (vI n :: st) M Q) : sl_At l f pc ls st M Q := by
  intro hM hl G p e s m args below meth c C H locs arr hW hS hv
  exact lv_iconst C.1 C.2.1 hd rfl (k hM hl G p e s m args below meth c C H locs arr hW hS hv)
theorem r_bipush {n : Int} (hd : decode f.cd pc = .ok (.bipush n, 2)) (hn : (Int8.ofInt n).toInt32 = Int32.ofInt n) (k : sl_At l f (pc + 2) ls (vI n :: st) M Q) : sl_At l f pc ls st M Q := by
  intro hM hl G p e s m args below meth c C H locs arr hW hS hv
  exact lv_bipush C.1 C.2.1 hd hn (k hM hl G p e s m args below meth c C H locs arr hW hS hv)
theorem r_sipush {n : Int} (hd : decode f.cd pc = .ok (.sipush n, 3)) (hn : (Int16.ofInt n).toInt32 = Int32.ofInt n) (k : sl_At l f (pc + 3) ls (vI n :: st) M Q) : sl_At l f pc ls st M Q := by
  intro hM hl G p e s m args below meth c C H locs arr hW hS hv
  exact lv_sipush C.1 C.2.1 hd hn (k hM hl G p e s m args below meth c C H locs arr hW hS hv)
theorem sl_gl {G : sl_G} {p : Program} {s : State} {m : MethodId} {args : Array Value} {meth : Method} {c : Code} (C : sl_C l f G p s m args meth c) {w : Cond} (h : w ∈ sl_GL) : w.before args s = true := C.2.2.2.2.1 w (List.mem_cons_of_mem _ h)
theorem r_ldc {index : Nat} {n : Int} (hw : Cond.constant f.own index (Int32.ofInt n) ∈ sl_GL) (hd : decode f.cd pc = .ok (.ldc index, 2)) (k : sl_At l f (pc + 2) ls (vI n :: st) M Q) : sl_At l f pc ls st M Q := by
  intro hM hl G p e s m args below meth c C H locs arr hW hS hv
  exact lv_ldc C.1 C.2.1 C.2.2.2.1 (sl_gl C hw) hd (k hM hl G p e s m args below meth c C H locs arr hW hS hv)
theorem r_ldcw {index : Nat} {n : Int} (hw : Cond.constant f.own index (Int32.ofInt n) ∈ sl_GL) (hd : decode f.cd pc = .ok (.ldc_w index, 3)) (k : sl_At l f (pc + 3) ls (vI n :: st) M Q) : sl_At l f pc ls st M Q := by
  intro hM hl G p e s m args below meth c C H locs arr hW hS hv
  exact lv_ldcw C.1 C.2.1 C.2.2.2.1 (sl_gl C hw) hd (k hM hl G p e s m args below meth c C H locs arr hW hS hv)
theorem r_ldc2 {index : Nat} {n : Int64} (hw : Cond.constantLong f.own index n ∈ sl_GL) (hd : decode f.cd pc = .ok (.ldc2_w index, 3)) (k : sl_At l f (pc + 3) ls (vL n :: st) M Q) : sl_At l f pc ls st M Q := by
  intro hM hl G p e s m args below meth c C H locs arr hW hS hv
  exact lv_ldc2 C.1 C.2.1 C.2.2.2.1 (sl_gl C hw) hd (k hM hl G p e s m args below meth c C H locs arr hW hS hv)
theorem sl_lk {G : sl_G} {arr : Array Slot} (hv : lv_has arr f.nL (sl_lc G ls)) {k i : Nat} {v : sl_V} (hk : ls[k]? = some (i, v)) : arr[i]? = some (.val (sl_cv G v)) := lv_at hv k (by rw [sl_lc, List.getElem?_map, hk]; rfl)
theorem r_iload_n {n : Fin 4} {i k : Nat} {x : Int} (hk : ls[k]? = some (i, vI x)) (hi : (n : Nat) = i) (hd : decode f.cd pc = .ok (.iload_n n, 1)) (kk : sl_At l f (pc + 1) ls (vI x :: st) M Q) : sl_At l f pc ls st M Q := by
  intro hM hl G p e s m args below meth c C H locs arr hW hS hv
  exact lv_iload_n C.1 C.2.1 hd hi (sl_lk hv hk) (kk hM hl G p e s m args below meth c C H locs arr hW hS hv)
theorem r_iload {i k : Nat} {x : Int} (hk : ls[k]? = some (i, vI x)) (hd : decode f.cd pc = .ok (.iload i, 2)) (kk : sl_At l f (pc + 2) ls (vI x :: st) M Q) : sl_At l f pc ls st M Q := by
  intro hM hl G p e s m args below meth c C H locs arr hW hS hv
  exact lv_iload C.1 C.2.1 hd (sl_lk hv hk) (kk hM hl G p e s m args below meth c C H locs arr hW hS hv)
theorem r_aload_n {n : Fin 4} {i k o j : Nat} (hk : ls[k]? = some (i, vR o j)) (hi : (n : Nat) = i) (hd : decode f.cd pc = .ok (.aload_n n, 1)) (kk : sl_At l f (pc + 1) ls (vR o j :: st) M Q) : sl_At l f pc ls st M Q := by
  intro hM hl G p e s m args below meth c C H locs arr hW hS hv
  exact lv_aload_n C.1 C.2.1 hd hi (sl_lk hv hk) (kk hM hl G p e s m args below meth c C H locs arr hW hS hv)
theorem r_aload {i k o j : Nat} (hk : ls[k]? = some (i, vR o j)) (hd : decode f.cd pc = .ok (.aload i, 2)) (kk : sl_At l f (pc + 2) ls (vR o j :: st) M Q) : sl_At l f pc ls st M Q := by
  intro hM hl G p e s m args below meth c C H locs arr hW hS hv
  exact lv_aload C.1 C.2.1 hd (sl_lk hv hk) (kk hM hl G p e s m args below meth c C H locs arr hW hS hv)
theorem r_lload_n {n : Fin 4} {i k : Nat} {x : Int64} (hk : ls[k]? = some (i, vL x)) (hi : (n : Nat) = i) (hd : decode f.cd pc = .ok (.lload_n n, 1)) (kk : sl_At l f (pc + 1) ls (vL x :: st) M Q) : sl_At l f pc ls st M Q := by
  intro hM hl G p e s m args below meth c C H locs arr hW hS hv
  exact lv_lload_n C.1 C.2.1 hd hi (sl_lk hv hk) (kk hM hl G p e s m args below meth c C H locs arr hW hS hv)
/-- a local is stored -/
def sl_c2 (v : sl_V) : Bool := match v with | .inr (.inl _) => true | _ => false
def sl_st (ls : sl_L) (i : Nat) (v : sl_V) : sl_L := (i, v) :: ls.filter (fun q => !(q.1 == i) && !(q.1 + 1 == i && sl_c2 q.2))
def sl_st2 (ls : sl_L) (i : Nat) (v : sl_V) : sl_L := (i, v) :: ls.filter (fun q => !(q.1 == i) && (!(q.1 == i + 1) && !(q.1 + 1 == i && sl_c2 q.2)))
theorem sl_c2_cv (G : sl_G) (v : sl_V) : ((sl_cv G v).category == 2) = sl_c2 v := by
  rcases v with z | x | _ | q <;> rfl
theorem sl_lc_st (G : sl_G) (ls : sl_L) (i : Nat) (v : sl_V) : (i, sl_cv G v) :: (sl_lc G ls).filter (fun q => !(q.1 == i) && !(q.1 + 1 == i && q.2.category == 2)) = sl_lc G (sl_st ls i v) := by
  unfold sl_st sl_lc
  rw [List.map_cons, List.filter_map]
  congr 3
  funext q
  simp only [Function.comp, sl_c2_cv]
theorem sl_lc_st2 (G : sl_G) (ls : sl_L) (i : Nat) (v : sl_V) : (i, sl_cv G v) :: (sl_lc G ls).filter (fun q => !(q.1 == i) && (!(q.1 == i + 1) && !(q.1 + 1 == i && q.2.category == 2))) = sl_lc G (sl_st2 ls i v) := by
  unfold sl_st2 sl_lc
  rw [List.map_cons, List.filter_map]
  congr 3
  funext q
  simp only [Function.comp, sl_c2_cv]
theorem sl_ok_st {ls : sl_L} {i : Nat} {v : sl_V} (h : ∀ q ∈ ls, sl_ok q.2) (hv : sl_ok v) : ∀ q ∈ sl_st ls i v, sl_ok q.2 := by
  intro q hq
  rcases List.mem_cons.mp hq with rfl | hq
  · exact hv
  · exact h q (List.mem_filter.mp hq).1
theorem sl_ok_st2 {ls : sl_L} {i : Nat} {v : sl_V} (h : ∀ q ∈ ls, sl_ok q.2) (hv : sl_ok v) : ∀ q ∈ sl_st2 ls i v, sl_ok q.2 := by
  intro q hq
  rcases List.mem_cons.mp hq with rfl | hq
  · exact hv
  · exact h q (List.mem_filter.mp hq).1
theorem r_istore_n {n : Fin 4} {i : Nat} {x : Int} {ls' : sl_L} (hx : sl_rg x) (hi : (n : Nat) = i) (hn : i < f.nL) (he : sl_st ls i (vI x) = ls') (hd : decode f.cd pc = .ok (.istore_n n, 1)) (kk : sl_At l f (pc + 1) ls' st M Q) : sl_At l f pc ls (vI x :: st) M Q := by
  intro hM hl G p e s m args below meth c C H locs arr hW hS hv
  subst he
  exact lv_istore_n C.1 C.2.1 hd hi hv hn (sl_lc_st G ls i (vI x)) (fun arr' h' => kk hM (sl_ok_st hl hx) G p e s m args below meth c C H locs arr' hW hS h')
theorem r_istore {i : Nat} {x : Int} {ls' : sl_L} (hx : sl_rg x) (hn : i < f.nL) (he : sl_st ls i (vI x) = ls') (hd : decode f.cd pc = .ok (.istore i, 2)) (kk : sl_At l f (pc + 2) ls' st M Q) : sl_At l f pc ls (vI x :: st) M Q := by
  intro hM hl G p e s m args below meth c C H locs arr hW hS hv
  subst he
  exact lv_istore C.1 C.2.1 hd hv hn (sl_lc_st G ls i (vI x)) (fun arr' h' => kk hM (sl_ok_st hl hx) G p e s m args below meth c C H locs arr' hW hS h')
theorem r_astore_n {n : Fin 4} {i o j : Nat} {ls' : sl_L} (hi : (n : Nat) = i) (hn : i < f.nL) (he : sl_st ls i (vR o j) = ls') (hd : decode f.cd pc = .ok (.astore_n n, 1)) (kk : sl_At l f (pc + 1) ls' st M Q) : sl_At l f pc ls (vR o j :: st) M Q := by
  intro hM hl G p e s m args below meth c C H locs arr hW hS hv
  subst he
  exact lv_astore_n C.1 C.2.1 hd hi hv hn (sl_lc_st G ls i (vR o j)) (fun arr' h' => kk hM (sl_ok_st hl trivial) G p e s m args below meth c C H locs arr' hW hS h')
theorem r_astore {i o j : Nat} {ls' : sl_L} (hn : i < f.nL) (he : sl_st ls i (vR o j) = ls') (hd : decode f.cd pc = .ok (.astore i, 2)) (kk : sl_At l f (pc + 2) ls' st M Q) : sl_At l f pc ls (vR o j :: st) M Q := by
  intro hM hl G p e s m args below meth c C H locs arr hW hS hv
  subst he
  exact lv_astore C.1 C.2.1 hd hv hn (sl_lc_st G ls i (vR o j)) (fun arr' h' => kk hM (sl_ok_st hl trivial) G p e s m args below meth c C H locs arr' hW hS h')
theorem r_lstore_n {n : Fin 4} {i : Nat} {x : Int64} {ls' : sl_L} (hi : (n : Nat) = i) (hn : i + 1 < f.nL) (he : sl_st2 ls i (vL x) = ls') (hd : decode f.cd pc = .ok (.lstore_n n, 1)) (kk : sl_At l f (pc + 1) ls' st M Q) : sl_At l f pc ls (vL x :: st) M Q := by
  intro hM hl G p e s m args below meth c C H locs arr hW hS hv
  subst he
  exact lv_lstore_n C.1 C.2.1 hd hi hv hn (sl_lc_st2 G ls i (vL x)) (fun arr' h' => kk hM (sl_ok_st2 hl trivial) G p e s m args below meth c C H locs arr' hW hS h')
theorem r_iinc {i k : Nat} {n x : Int} {ls' : sl_L} (hk : ls[k]? = some (i, vI x)) (hx : sl_rg (x + n)) (hn : i < f.nL) (he : sl_st ls i (vI (x + n)) = ls') (hd : decode f.cd pc = .ok (.iinc i n, 3)) (kk : sl_At l f (pc + 3) ls' st M Q) : sl_At l f pc ls st M Q := by
  intro hM hl G p e s m args below meth c C H locs arr hW hS hv
  subst he
  exact lv_iinc C.1 C.2.1 hd hv (k := k) (by rw [sl_lc, List.getElem?_map, hk]; rfl) (Int32.ofInt_add x n).symm hn (sl_lc_st G ls i (vI (x + n))) (fun arr' h' => kk hM (sl_ok_st hl hx) G p e s m args below meth c C H locs arr' hW hS h')
end R
