/-! The law: its rules -/
def R_law : String := "SpanLiftsLaw"
def lw_P (b : Addr) (xs : List Int32) (args : Array Value) (s : State) : Prop := args = #[.ref b] ∧ s.IntsAt b xs ∧ xs.length ≤ 2560 ∧ (Jvm.Cond.and given_1 narrow_1).before args s = true
def lw_Q (_ : Array Value) (s : State) (o : Outcome) (t : State) : Prop := o = .returned (some (.int 1)) ∧ Framed s o t [] 600000 7302250
def lw_Z (below : List Frame) (a : Array Value) (s : State) : State → Prop := fun t => ∃ o, t.status = .running ∧ Ended t below o ∧ lw_Q a s o t
theorem lw_ret {p : Program} {l : Launch} {e : Env} {s : State} {m : MethodId} {below : List Frame} {meth : Method} {c : Code} {b : Nat} (hx : p.tables.exec = Jvm.exec) (hb : c.code = code) (hr : meth.sig.returnType = ret) (hlocks : meth.locks = false) {pc : Nat} {H : Heap} {ls : Array Slot} (hdg : decode code pc = .ok (.ireturn, 1)) : W p l e room_1 s m #[Value.ref b] below meth c H [] 600000 7302250 (lw_Z below #[Value.ref b] s) (F0 m pc ls [.int 1]) := by
  intro T hT X
  obtain ⟨fs, hret, hrun, hended, hW, hframe⟩ := X.leave (v := some (.int 1)) (hlocks := hlocks) (fun h => by rw [hr] at h; cases h)
  have hmeth' : T.vm.method? m = some meth := X.method'
  refine ⟨T.setFrames fs, ?_, .returned (some (.int 1)), hrun, hended, rfl, ⟨_, rfl⟩, hW, hframe⟩
  jvm_step X.here [X.here.top, hx, hb, hdg, hmeth', hr, ret, narrow_b1]
  (try refine ⟨rfl, ?_⟩); (try refine ⟨rfl, ?_⟩)
  first | (intro acts; rw [hret _ acts rfl rfl rfl]) | rw [hret _ _ rfl rfl rfl]
  exact Steps.refl _
def lw_At (p : Program) (s : State) (m : MethodId) (meth : Method) (c : Code) (b L : Nat) (xs : Nat → Int32) : Prop :=
  p.tables.exec = Jvm.exec ∧ c.code = code ∧ meth.sig.returnType = ret ∧ c.maxLocals = 4 ∧ s.vm.findClass R_law = some m.cls ∧ (∀ w ∈ lw_tbl, w.before #[Value.ref b] s = true) ∧ va_X b L xs s s.heap ∧ b < s.heap.size ∧ meth.locks = false ∧ (Jvm.Cond.and given_1 narrow_1).before #[Value.ref b] s = true
/-- the worlds' places: each by itself, behind what was there, apart -/
def lwG (G : sl_G) (z : Nat) : Prop := (sl_inj G 0 ∧ sl_inj G 1) ∧ (∀ a, sl_A G 0 a → z ≤ a) ∧ (∀ a, sl_A G 1 a → z ≤ a) ∧ ∀ a, sl_A G 0 a → sl_A G 1 a → False
/-- the heap holds both worlds -/
def lwH (G : sl_G) (s : State) (Mc Mr : sl_M) (H : Heap) (locs : List Loc) : Prop := (sl_RM Mc ∧ sl_W G 0 Mc H) ∧ (sl_RM Mr ∧ sl_W G 1 Mr H) ∧ va_S (fun q => s.heap.size ≤ q) s.heap H locs
theorem sl_W.kept {G : sl_G} {w : Nat} {M : sl_M} {H H1 : Heap} (h : sl_W G w M H) (hk : ∀ a, sl_A G w a → H1[a]? = H[a]?) : sl_W G w M H1 := by
  intro k q hq
  refine (h k q hq).kept (hk _ ?_)
  have hm := List.mem_of_getElem? hq
  obtain ⟨z, hz, rfl⟩ := List.mem_map.mp hm
  exact ⟨z, hz, rfl⟩
theorem sl_W.lt {G : sl_G} {w : Nat} {M : sl_M} {H : Heap} (h : sl_W G w M H) {a : Nat} (ha : sl_A G w a) : a < H.size := by
  obtain ⟨z, hz, rfl⟩ := ha
  obtain ⟨n, hn⟩ := List.getElem?_of_mem hz
  have h1 : (sl_ws G w M)[n]? = some (G.2.2 z.1 z.2, sl_cell G.2.1 G.2.2 M z) := by unfold sl_ws; rw [List.getElem?_map, hn]; rfl
  have h2 := h n _ h1
  generalize sl_cell G.2.1 G.2.2 M z = y at h2
  cases y with
  | inl x => exact (Array.getElem?_eq_some_iff.mp h2).1
  | inr o =>
    obtain ⟨r, -, cell, g1, -⟩ := h2
    exact (Array.getElem?_eq_some_iff.mp g1).1
section LW
variable {p : Program} {l : Launch} {e : Env} {s : State} {m : MethodId} {below : List Frame} {meth : Method} {c : Code} {b L : Nat} {xs : Nat → Int32} {G : sl_G} {H : Heap} {locs : List Loc} {k w pc : Nat} {arr : Array Slot} {Qz : State → Prop}
theorem lw_good {w : Cond} (h : w ∈ sl_GL) : w ∈ lw_tbl ∧ ((w.onTables && w.keeps) = true ∨ ∃ ty, w = .arrayClass ty) := ⟨(List.mem_filter.mp h).1, good_of_word (List.mem_filter.mp h).2⟩
/-- a call in the law -/
theorem lw_run {g : sl_F} {ci o n idx N : Nat} {C : String} {T : u_T} {ty : Nat → FieldType} {As : List sl_V} {rest : List Value} {M : sl_M} {Q' : sl_R} (C0 : lw_At p s m meth c b L xs) (hK : sl_K G s) (hG : sl_inj G g.wd) (ck : sl_CK ci C T N ty) (ho : sl_cls o = ci) (hw : sl_wof ci = g.wd) (hC : g.nm.cls = C) (mk : sl_MK g n) (mv : sl_MV g) (hl : Cond.methodLink R_law idx g.nm ∈ sl_GL) (hR : g.rm.frames + 1 ≤ room_1.frames ∧ 8 + (g.nL + 11) + g.rm.locals ≤ room_1.locals) (hn : As.length = n) (hs : (rest.map fun v => v.category).sum ≤ 8) (ha : ∀ v ∈ As, sl_ok v) (hM : sl_RM M) (hW : sl_W G g.wd M H) (harr : arr.size = 4) (hk : k ≤ room_1.cells ∧ w ≤ room_1.slots) (hd : decode code pc = .ok (.invokevirtual idx, 3)) (kr : sl_Runs l g (vR o 0 :: As) M Q') : va_Run p l e room_1 s m #[Value.ref b] below meth c H locs k w 0 0 (F0 m pc arr ((As.map (sl_cv G)).reverse ++ .ref (G.2.2 o 0) :: rest)) rest (sl_Q G g.wd Q' (Value.ref (G.2.2 o 0) :: As.map (sl_cv G)).toArray) (sl_A G g.wd) := by
  obtain ⟨hx, hb, hr, hml, hown, hts, hX, hbl, hlocks, hgv⟩ := id C0
  obtain ⟨q, -, hq⟩ := sl_ix (G := G) (M := M) (sl_mem ho ck.2.2.2.2.2 (Or.inl rfl) hw)
  rw [sl_cell_obj ho] at hq
  have hMet := kr hM (fun v hv => by rcases List.mem_cons.mp hv with rfl | hv; exact trivial; exact ha v hv) G hG
  refine va_runV (As := As.map (sl_cv G)) (rest := rest) (b := G.2.2 o 0) (C := C) ⟨hx, hb, hml, hown, hts⟩ hMet (cwV n hts ?_ rfl rfl rfl ⟨hC, mk.2.2⟩ hR) ⟨sl_blind, va_recv (cl := vwCl) hK.1 hW (ci := ci) (q0 := q) ck.1 hq, fun U hU hWa => ⟨rfl, by rw [hU]; exact hW, hK.warm hWa⟩⟩ rfl (by rw [List.length_map]; exact hn) harr rfl (lv_room hs) hd hk
  intro w hw
  unfold wsV at hw
  rcases List.mem_append.mp hw with hw | hw
  · simp only [List.mem_cons, List.not_mem_nil, or_false] at hw
    rcases hw with rfl | rfl | rfl | rfl
    · exact lw_good hl
    · exact lw_good mv.1
    · rw [← hC]; exact lw_good mv.2
    · rw [← hC]; exact lw_good mk.2.1
  · rcases List.mem_cons.mp hw with rfl | hw
    · exact lw_good mk.1
    · exact lw_good hw
/-- behind it -/
theorem lw_after {wd : Nat} {st0 rest : List Value} {a : Array Value} {Q' : sl_R} (hr : va_Run p l e room_1 s m #[Value.ref b] below meth c H locs k w 0 0 (F0 m pc arr st0) rest (sl_Q G wd Q' a) (sl_A G wd)) (hA : ∀ a, sl_A G wd a → s.heap.size ≤ a) (hS : va_S (fun q => s.heap.size ≤ q) s.heap H locs)
    (kk : ∀ (r : Option sl_V) (N : sl_M) (H1 : Heap) (locs1 : List Loc), (∀ v, r = some v → sl_ok v) → sl_RM N → Q' r N → sl_W G wd N H1 → (∀ q, q < H.size → ¬ sl_A G wd q → H1[q]? = H[q]?) → va_S (fun q => s.heap.size ≤ q) s.heap H1 locs1 → W p l e room_1 s m #[Value.ref b] below meth c H1 locs1 k w Qz (F0 m (pc + 3) arr ((r.map (sl_cv G)).toList ++ rest))) : W p l e room_1 s m #[Value.ref b] below meth c H locs k w Qz (F0 m pc arr st0) := by
  intro T hT X
  obtain ⟨v, st₀, t, T', Lo, h0, X', hL, e1, e2, ⟨⟨r, N, hv, b2, b3, b4, b5, b6⟩, hz, hk⟩, st⟩ := hr T hT X
  cases hv
  rw [h0] at hz hk
  obtain ⟨t2, a1, b1⟩ := kk r N T'.heap (locs ++ Lo) b2 b3 b4 (by rw [e1]; exact b5) (fun q h1 h2 => by rw [e1]; exact hk q h1 h2)
    ⟨Nat.le_trans hS.1 (by rw [e1]; exact hz), fun q h1 h2 => by rw [e1, hk q (Nat.lt_of_lt_of_le h1 hS.1) (fun z => h2 (hA _ z))]; exact hS.2.1 q h1 h2, fun q hq => by
      rcases List.mem_append.mp hq with h | h
      · exact hS.2.2 q h
      · exact hA _ (hL q h)⟩ T' rfl X'
  exact ⟨t2, st t2 a1, b1⟩
/-- what a call would say -/
theorem lw_peek {wd pc2 : Nat} {st0 rest : List Value} {a : Array Value} {Q' : sl_R} {g : JFrame} (hr : va_Run p l e room_1 s m #[Value.ref b] below meth c H locs k w 0 0 (F0 m pc2 arr st0) rest (sl_Q G wd Q' a) (sl_A G wd))
    (kk : ∀ (r : Option sl_V) (N : sl_M), Q' r N → W p l e room_1 s m #[Value.ref b] below meth c H locs k w Qz g) : W p l e room_1 s m #[Value.ref b] below meth c H locs k w Qz g := by
  intro T hT X
  obtain ⟨v, st₀, t, T', Lo, h0, X', hL, e1, e2, ⟨⟨r, N, hv, b2, b3, b4, b5, b6⟩, hz, hk⟩, st⟩ := hr T hT X
  exact kk r N b4 T hT X
theorem sl_cvC (v : sl_V) : (sl_cv G v).category ≤ 2 := by rcases v with z | x | _ | q <;> exact nle
/-- what the two calls of a pair are -/
def lwM (g : sl_F) (wd : Nat) (C : String) (n idx pc : Nat) : Prop := g.wd = wd ∧ g.nm.cls = C ∧ sl_MK g n ∧ sl_MV g ∧ Cond.methodLink R_law idx g.nm ∈ sl_GL ∧ (g.rm.frames + 1 ≤ room_1.frames ∧ 8 + (g.nL + 11) + g.rm.locals ≤ room_1.locals) ∧ decode code pc = .ok (.invokevirtual idx, 3)
theorem lw_pair {gC gR : sl_F} {n iC iR pcC pcR : Nat} {As : List sl_V} {Mc Mr : sl_M} {J' : sl_M → sl_M → Prop} (C0 : lw_At p s m meth c b L xs) (hK : sl_K G s) (hG : lwG G s.heap.size) (mC : lwM gC 0 RX9 n iC pcC) (mR : lwM gR 1 RX10 n iR pcR) (hn : As.length = n) (ha : ∀ v ∈ As, sl_ok v) (hk : k ≤ room_1.cells ∧ w ≤ room_1.slots) (hpr : Prs l gC gR As Mc Mr J') (hH : lwH G s Mc Mr H locs) (harr : arr.size = 4)
    (mid : ∀ (v : Value) (H1 : Heap) (locs1 : List Loc), va_S (fun q => s.heap.size ≤ q) s.heap H1 locs1 → W p l e room_1 s m #[Value.ref b] below meth c H1 locs1 k w Qz (F0 m pcR arr ((As.map (sl_cv G)).reverse ++ [.ref (G.2.2 1 0), v])) → W p l e room_1 s m #[Value.ref b] below meth c H1 locs1 k w Qz (F0 m (pcC + 3) arr [v]))
    (fin : ∀ (v : sl_V) (Nc Nr : sl_M) (H2 : Heap) (locs2 : List Loc), pkd gC.rt v → J' Nc Nr → lwH G s Nc Nr H2 locs2 → W p l e room_1 s m #[Value.ref b] below meth c H2 locs2 k w Qz (F0 m (pcR + 3) arr [sl_cv G v, sl_cv G v])) : W p l e room_1 s m #[Value.ref b] below meth c H locs k w Qz (F0 m pcC arr ((As.map (sl_cv G)).reverse ++ [.ref (G.2.2 0 0)])) := by
  obtain ⟨c1, c2, c3, c4, c5, c6, c7⟩ := mC
  obtain ⟨d1, d2, d3, d4, d5, d6, d7⟩ := mR
  obtain ⟨⟨i0, i1⟩, a0, a1, ap⟩ := hG
  obtain ⟨⟨hMc, hWc⟩, ⟨hMr, hWr⟩, hS⟩ := hH
  have key : PrA l gC gR As Mc Mr J' → W p l e room_1 s m #[Value.ref b] below meth c H locs k w Qz (F0 m pcC arr ((As.map (sl_cv G)).reverse ++ [.ref (G.2.2 0 0)])) := by
    rintro ⟨v, C, k1, k2, k3⟩
    have r1 := lw_run (p := p) (e := e) (below := below) (meth := meth) (c := c) (locs := locs) (arr := arr) (rest := []) (o := 0) (M := Mc) (H := H) (k := k) (w := w) C0 hK (by rw [c1]; exact i0) ckX9 rfl (by rw [c1]; rfl) c2 c3 c4 c5 c6 hn nle ha hMc (by rw [c1]; exact hWc) harr hk c7 k1
    rw [c1] at r1
    refine lw_after r1 a0 hS (fun r Nc H1 locs1 g1 g2 g3 g4 g5 g6 => ?_)
    obtain ⟨rfl, hC⟩ := g3
    have hWr1 : sl_W G 1 Mr H1 := hWr.kept (fun a ha => g5 a (hWr.lt ha) (fun z => ap a z ha))
    refine mid _ H1 locs1 g6 ?_
    have r2 := lw_run (p := p) (e := e) (below := below) (meth := meth) (c := c) (locs := locs1) (arr := arr) (rest := [sl_cv G v]) (o := 1) (M := Mr) (H := H1) (k := k) (w := w) C0 hK (by rw [d1]; exact i1) ckX10 rfl (by rw [d1]; rfl) d2 d3 d4 d5 d6 hn (by have := sl_cvC (G := G) v; show (sl_cv G v).category + 0 ≤ 8; omega) ha hMr (by rw [d1]; exact hWr1) harr hk d7 (k2 Nc hC)
    rw [d1] at r2
    refine lw_after r2 a1 g6 (fun r Nr H2 locs2 f1 f2 f3 f4 f5 f6 => ?_)
    obtain ⟨rfl, hJ⟩ := f3
    exact fin v Nc Nr H2 locs2 k3 hJ ⟨⟨g2, g4.kept (fun a ha => f5 a (g4.lt ha) (fun z => ap a ha z))⟩, ⟨f2, f4⟩, f6⟩
  rcases hpr with h | ⟨X, hX, h⟩
  · exact key h
  · have r2 := lw_run (p := p) (e := e) (below := below) (meth := meth) (c := c) (locs := locs) (arr := arr) (rest := []) (o := 1) (M := Mr) (H := H) (k := k) (w := w) C0 hK (by rw [d1]; exact i1) ckX10 rfl (by rw [d1]; rfl) d2 d3 d4 d5 d6 hn nle ha hMr (by rw [d1]; exact hWr) harr hk d7 hX
    exact lw_peek r2 (fun r N hN => key (h r N hN))
/-- a word of the script comes onto the stack -/
theorem lw_arg {i j : Nat} {z : Int} {rest : List Value} {lv : List (Nat × Value)} (C0 : lw_At p s m meth c b L xs) (hS : va_S (fun q => s.heap.size ≤ q) s.heap H locs) (hL : L ≤ 2560) (hv : lv_has arr 4 lv) (h0 : lv[3]? = some (0, .ref b)) (h3 : lv[0]? = some (3, .int (Int32.ofInt (i : Int)))) (hj : z = (j : Int)) (hi : i + j < L) (d0 : decode code pc = .ok (.aload_n 0, 1)) (d1 : decode code (pc + 1) = .ok (.iload_n 3, 1)) (d2 : decode code (pc + 2) = .ok (.iconst z, 1)) (d3 : decode code (pc + 3) = .ok (.iadd, 1)) (d4 : decode code (pc + 4) = .ok (.iaload, 1)) (kk : W p l e room_1 s m #[Value.ref b] below meth c H locs k w Qz (F0 m (pc + 5) arr (sl_cv G (vI (xs (i + j)).toInt) :: rest))) : W p l e room_1 s m #[Value.ref b] below meth c H locs k w Qz (F0 m pc arr rest) := by
  obtain ⟨hx, hb, hr, hml, hown, hts, hX, hbl, hlocks, hgv⟩ := id C0
  have hbA : ¬ (fun q : Nat => s.heap.size ≤ q) b := Nat.not_le.mpr hbl
  subst hj
  refine lv_aload_n hx hb d0 rfl (lv_at hv 3 h0) ?_
  refine lv_iload_n hx hb d1 rfl (lv_at hv 0 h3) ?_
  refine lv_iconst hx hb d2 rfl ?_
  refine lv_iadd hx hb d3 ?_
  have e1 : Int32.ofInt (i : Int) + Int32.ofInt (j : Int) = Int32.ofInt ((i + j : Nat) : Int) := by rw [← Int32.ofInt_add]; rfl
  rw [e1]
  have e2 : (Int32.ofInt ((i + j : Nat) : Int)).toInt = ((i + j : Nat) : Int) := sl_ti ⟨by omega, by omega⟩
  have e3 : (Int32.ofInt ((i + j : Nat) : Int)).toNatClampNeg = i + j := by
    rw [show (Int32.ofInt ((i + j : Nat) : Int)).toNatClampNeg = (Int32.ofInt ((i + j : Nat) : Int)).toInt.toNat from rfl, e2]; rfl
  refine va_sld (A := fun q => s.heap.size ≤ q) hx hb hX hbl hbA hS (i := Int32.ofInt ((i + j : Nat) : Int)) ?_ d4 ?_
  · intro z
    rcases z with z | z
    · have := Int32.lt_iff_toInt_lt.mp z
      rw [e2] at this
      have h0 : (0 : Int32).toInt = 0 := rfl
      omega
    · rw [e3] at z; omega
  · rw [e3]
    have : Value.int (xs (i + j)) = sl_cv G (vI (xs (i + j)).toInt) := by show _ = Value.int (Int32.ofInt _); rw [sl_ofT]
    rw [this]; exact kk
end LW
