/-! Constructors: the new cells lie one behind the other, from a base on -/
/-- an array (its type, its length, its references), or an object (its make, its references); 0: none, r + 1: the r-th cell -/
abbrev Sh : Type := (Nat × Nat × List Nat) ⊕ (Nat × List Nat)
def shV (base : Nat) (b : Bool) (x : Nat) : Value := if x = 0 then (if b then .null else .int 0) else .ref (base + (x - 1))
def shQ (base x : Nat) : Option Nat := if x = 0 then none else some (base + (x - 1))
def shE (cA : Nat → ClassId) (base : Nat) (x : Sh) : va_E := match x with
  | .inl q => .inl (cA q.1, q.2.1, if q.1 < 2 then .inl (fun _ => 0) else .inr (.inr (.inr (.inr (fun j => shQ base (q.2.2.getD j 0))))))
  | .inr q => .inr (q.1, (List.range (sl_nf q.1)).map (fun k => shV base (sl_isr q.1 k) (q.2.getD k 0)))
/-- n cells from the base on, as S says -/
def ctW (G : sl_G) (base n : Nat) (S : Nat → Sh) (H : Heap) : Prop := H.size = base + n ∧ ∀ j, j < n → va_at G.1 vwCl (base + j, shE G.2.1 base (S j)) H
theorem ctW.to {G : sl_G} {base n : Nat} {S S2 : Nat → Sh} {H : Heap} (h : ctW G base n S H) (e : ∀ j, j < n → S2 j = S j) : ctW G base n S2 H := ⟨h.1, fun j hj => by rw [e j hj]; exact h.2 j hj⟩
def ctK (G : sl_G) (U : State) : Prop := sl_K G U ∧ va_AO RX7 U ∧ va_AO RX5 U
theorem ctK.warm {G : sl_G} {s U : State} (h : ctK G s) (hW : s.WarmedH U.vm) : ctK G U := ⟨h.1.warm hW, h.2.1.moved hW.alike, h.2.2.moved hW.alike⟩
theorem ctK.same {G : sl_G} {s U : State} (h : ctK G s) (e : s.vm = U.vm) : ctK G U := ⟨h.1.same e, h.2.1.moved (by rw [e]; exact Vm.Alike.refl _), h.2.2.moved (by rw [e]; exact Vm.Alike.refl _)⟩
abbrev ct_rm (f : sl_F) (mc ms : Nat) : Room := { frames := f.2.2.2.2.2.2.1, cells := mc, slots := ms, locals := f.2.2.2.2.2.2.2 }
def ctZ (G : sl_G) (base N : Nat) (S : Nat → Sh) : Array Value → State → Outcome → State → Prop := fun _ st oc t => (oc = .returned none ∧ ctW G base N S t.heap ∧ ctK G t) ∧ va_F (fun q => base ≤ q) st t
def ct_C (f : sl_F) (G : sl_G) (p : Program) (s : State) (m : MethodId) (args : Array Value) (meth : Method) (c : Code) : Prop :=
  p.tables.exec = Jvm.exec ∧ c.code = f.cd ∧ c.maxLocals = f.nL ∧ s.vm.findClass f.own = some m.cls ∧ (∀ w ∈ sl_wd f, w.before args s = true) ∧ meth.sig.returnType = none ∧ meth.locks = false ∧ ctK G s ∧ meth.name = "<init>"
def ct_At (l : Launch) (f : sl_F) (mc ms : Nat) (G : sl_G) (base N : Nat) (S' : Nat → Sh) (pc : Nat) (ls : List (Nat × Value)) (st : List Value) (n : Nat) (S : Nat → Sh) (k w : Nat) : Prop :=
  ∀ (p : Program) (e : Env) (s : State) (m : MethodId) (args : Array Value) (below : List Frame) (meth : Method) (c : Code), ct_C f G p s m args meth c → ∀ (H : Heap) (locs : List Loc) (arr : Array Slot), ctW G base n S H → va_S (fun q => base ≤ q) s.heap H locs → lv_has arr f.nL ls →
    W p l e (ct_rm f mc ms) s m args below meth c H locs k w (MQ below (ctZ G base N S') args s mc ms (fun q => base ≤ q)) (F0 m pc arr st)
/-- the constructor of the cell h, where n cells are as S says: mc cells more, then they are as S2 says -/
def CT (l : Launch) (f : sl_F) (mc ms n h : Nat) (S S2 : Nat → Sh) : Prop := ∀ (G : sl_G) (base : Nat), Met l f.nm (sl_wd f) (ct_rm f mc ms) (va_Pc [.ref (base + h)] (fun U => ctW G base n S U.heap ∧ ctK G U)) (ctZ G base (n + mc) S2) mc ms (fun q => base ≤ q)
theorem vpV_map {g : Nat → Value} {N q : Nat} (h : q < N) : vp_V ((List.range N).map g) q = g q := by
  unfold vp_V
  rw [List.getD_eq_getElem?_getD, List.getElem?_map, List.getElem?_range h]; rfl
section T
variable {l : Launch} {f : sl_F} {mc ms : Nat} {G : sl_G} {base N : Nat} {S' : Nat → Sh} {pc : Nat} {ls : List (Nat × Value)} {st : List Value} {n : Nat} {S : Nat → Sh} {k w : Nat}
theorem CT.of {h : Nat} {S2 : Nat → Sh} (hy : plainName f.nm.cls = true) (ho : f.own = f.nm.cls) (hi : f.nm.name = "<init>") (hr : f.rt = none) (hn : 1 ≤ f.nL) (kk : ∀ (G : sl_G) (base : Nat), ct_At l f mc ms G base (n + mc) S2 0 [(0, .ref (base + h))] [] n S 0 0) : CT l f mc ms n h S S2 := by
  intro G base
  refine Met.ofW (cc := f.cd) (maxL := f.nL) (ret := f.rt) hy rfl ?_
  intro p e s m args below meth c s₁ B hml hv
  obtain ⟨rfl, hW, hK⟩ := hv
  have hown : s.vm.findClass f.own = some m.cls := by rw [ho]; exact findClass_of_methodNamed B.named
  rw [lg_entry_eq]
  have hl := lv_entry [Value.ref (base + h)] (n := f.nL) hn
  exact kk G base p e s m _ below meth c ⟨B.exec, B.bytes, hml, hown, atoms_spec (ws := sl_wd f) B.pre, B.returns.trans hr, B.notSynchronized, hK, (name_of_methodNamed B.named B.method).1.trans hi⟩ s.heap [] _ hW va_S.rf hl
theorem tc_aload {x i : Nat} {v : Value} (hl : ls[i]? = some (0, .ref x)) (hd : decode f.cd pc = .ok (.aload_n 0, 1)) (kk : ct_At l f mc ms G base N S' (pc + 1) ls (.ref x :: st) n S k w) : ct_At l f mc ms G base N S' pc ls st n S k w := by
  intro p e s m args below meth c C H locs arr hW hS hv
  exact lv_aload_n C.1 C.2.1 hd rfl (lv_at hv i hl) (kk p e s m args below meth c C H locs arr hW hS hv)
theorem tc_iconst {z : Int} {v : Int32} (hd : decode f.cd pc = .ok (.iconst z, 1)) (hz : Int32.ofInt z = v) (kk : ct_At l f mc ms G base N S' (pc + 1) ls (.int v :: st) n S k w) : ct_At l f mc ms G base N S' pc ls st n S k w := by
  intro p e s m args below meth c C H locs arr hW hS hv
  exact lv_iconst C.1 C.2.1 hd hz (kk p e s m args below meth c C H locs arr hW hS hv)
theorem tc_bipush {z : Int} {v : Int32} (hd : decode f.cd pc = .ok (.bipush z, 2)) (hz : (Int8.ofInt z).toInt32 = v) (kk : ct_At l f mc ms G base N S' (pc + 2) ls (.int v :: st) n S k w) : ct_At l f mc ms G base N S' pc ls st n S k w := by
  intro p e s m args below meth c C H locs arr hW hS hv
  exact lv_bipush C.1 C.2.1 hd hz (kk p e s m args below meth c C H locs arr hW hS hv)
theorem tc_sipush {z : Int} {v : Int32} (hd : decode f.cd pc = .ok (.sipush z, 3)) (hz : (Int16.ofInt z).toInt32 = v) (kk : ct_At l f mc ms G base N S' (pc + 3) ls (.int v :: st) n S k w) : ct_At l f mc ms G base N S' pc ls st n S k w := by
  intro p e s m args below meth c C H locs arr hW hS hv
  exact lv_sipush C.1 C.2.1 hd hz (kk p e s m args below meth c C H locs arr hW hS hv)
theorem tc_dup {x : Nat} (hd : decode f.cd pc = .ok (.dup, 1)) (kk : ct_At l f mc ms G base N S' (pc + 1) ls (.ref x :: .ref x :: st) n S k w) : ct_At l f mc ms G base N S' pc ls (.ref x :: st) n S k w := by
  intro p e s m args below meth c C H locs arr hW hS hv
  exact lv_dup C.1 C.2.1 hd rfl (kk p e s m args below meth c C H locs arr hW hS hv)
theorem tc_objInit {x idx : Nat} (hl : Cond.methodLink f.own idx objectInit ∈ sl_GL) (h1 : Cond.instanceMethod objectInit ∈ sl_GL) (h2 : Cond.code objectInit ⟨#[0xb1]⟩ 1 none ∈ sl_GL) (hf : 1 ≤ f.2.2.2.2.2.2.1) (hw : 12 ≤ f.2.2.2.2.2.2.2) (hd : decode f.cd pc = .ok (.invokespecial idx, 3)) (kk : ct_At l f mc ms G base N S' (pc + 3) ls [] n S k w) : ct_At l f mc ms G base N S' pc ls [.ref x] n S k w := by
  intro p e s m args below meth c C H locs arr hW hS hv
  have gl := fun {w : Cond} (h : w ∈ sl_GL) => C.2.2.2.2.1 w (List.mem_cons_of_mem _ h)
  exact W.objInit C.1 C.2.1 C.2.2.2.1 (gl hl) (gl h1) (gl h2) rfl (hv.1.trans C.2.2.1.symm) rfl hd hf hw (kk p e s m args below meth c C H locs arr hW hS hv)
theorem tc_sz {H H1 : Heap} {s : State} {locs : List Loc} (hS : va_S (fun q => base ≤ q) s.heap H locs) (z1 : H.size ≤ H1.size) (o1 : ∀ q, q < H.size → H1[q]? = H[q]?) : va_S (fun q => base ≤ q) s.heap H1 locs := ⟨Nat.le_trans hS.1 z1, fun q h1 h2 => (o1 q (Nat.lt_of_lt_of_le h1 hS.1)).trans (hS.2.1 q h1 h2), hS.2.2⟩
/-- a row of numbers comes -/
theorem tc_newa {t M : Nat} {z : Int32} {at_ : ArrayType} {ty : FieldType} (ht : newarray.typeOf at_ = ty) (hty : sl_tys G = [(G.2.1 0, .int), (G.2.1 1, .boolean), (G.2.1 2, .object RX7), (G.2.1 3, .object RX5)] → (sl_tys G)[t]? = some (G.2.1 t, ty)) (h2 : t < 2) (hnm : ∀ U cA, va_RA U cA ty → U.vm.findClass ("[" ++ ty.toString) = some cA) (hdv : defaultValue ty = .int 0) (ha : Cond.arrayClass ty ∈ sl_GL) (hz : ¬ z < 0) (hM : z.toNatClampNeg = M) (hby : M * componentBytes ty ≤ 536870912) (hk : k + 1 ≤ mc) (hw : w + M ≤ ms) (hSn : S n = .inl (t, M, [])) (hd : decode f.cd pc = .ok (.newarray at_, 2)) (kk : ct_At l f mc ms G base N S' (pc + 2) ls (.ref (base + n) :: st) (n + 1) S (k + 1) (w + M)) : ct_At l f mc ms G base N S' pc ls (.int z :: st) n S k w := by
  intro p e s m args below meth c C H locs arr hW hS hv
  subst ht
  refine va_newaK C.1 C.2.1 (C.2.2.2.2.1 _ (List.mem_cons_of_mem _ ha)) rfl hd rfl hz hM hby hk hw hW.1 (fun H1 cA e1 z1 o1 hAr hNm => ?_)
  have hc : cA = G.2.1 t := Option.some.inj (hNm.symm.trans (hnm _ _ (C.2.2.2.2.2.2.2.1.1.1.2 t _ (hty rfl)).2))
  refine kk p e s m args below meth c C H1 locs arr ⟨by rw [z1]; omega, fun j hj => ?_⟩ (tc_sz hS (by rw [z1, hW.1]; omega) (fun q hq => o1 q (by rw [← hW.1]; exact hq))) hv
  by_cases ej : j = n
  · subst ej
    rw [hSn]
    show H1[base + j]? = some (vp_cell (G.2.1 t) (M, if t < 2 then .inl (fun _ => 0) else _))
    rw [if_pos h2, e1, hc, hdv]; rfl
  · exact (hW.2 j (by omega)).kept (o1 _ (by show base + j < base + n; omega))
/-- an object comes -/
theorem tc_new {ci idx M : Nat} {C0 : String} {T : u_T} {ty : Nat → FieldType} (ck : sl_CK ci C0 T M ty) (hl : Cond.classLink f.own idx C0 ∈ sl_GL) (hi : Cond.instantiable C0 M ∈ sl_GL) (hj : Cond.initialized C0 ∈ sl_GL) (hdf : ∀ j, j < M → defaultValue (ty j) = shV 0 (sl_isr ci j) 0) (hk : k + 1 ≤ mc) (hw : w + M ≤ ms) (hSn : S n = .inr (ci, [])) (hd : decode f.cd pc = .ok (.new idx, 3)) (kk : ct_At l f mc ms G base N S' (pc + 3) ls (.ref (base + n) :: st) (n + 1) S (k + 1) (w + M)) : ct_At l f mc ms G base N S' pc ls st n S k w := by
  intro p e s m args below meth c C H locs arr hW hS hv
  have gl := fun {w : Cond} (h : w ∈ sl_GL) => C.2.2.2.2.1 w (List.mem_cons_of_mem _ h)
  have hKn := C.2.2.2.2.2.2.2.1.1.1.1 ci _ ck.1
  refine W.newcK C.1 C.2.1 C.2.2.2.1 (gl hl) (gl hi) (gl hj) rfl hd hk hw hKn.2.1 hW.1 (fun H1 kC hkC e1 z1 o1 => ?_)
  refine kk p e s m args below meth c C H1 locs arr ⟨by rw [z1]; omega, fun j hj => ?_⟩ (tc_sz hS (by rw [z1, hW.1]; omega) (fun q hq => o1 q (by rw [← hW.1]; exact hq))) hv
  by_cases ej : j = n
  · subst ej
    rw [hSn]
    refine ⟨_, ck.1, (u_born ty C.2.2.2.2.1 (fun w h => sl_wd_GL (ck.2.1 w h)) hKn hkC e1 ck.2.2.1).to (fun q hq => ?_)⟩
    rw [hdf q hq]
    show _ = vp_V ((List.range (sl_nf ci)).map (fun k => shV base (sl_isr ci k) (([] : List Nat).getD k 0))) q
    have hq5 : q < sl_nf ci := by rw [← ck.2.2.2.2.1]; exact hq
    rw [vpV_map hq5]
    simp [shV]
  · exact (hW.2 j (by omega)).kept (o1 _ (by show base + j < base + n; omega))
/-- a reference is put into a final field -/
theorem tc_putF {ci h v idx kf M : Nat} {C0 : String} {T : u_T} {ty : Nat → FieldType} {fs fs2 : List Nat} {S2 : Nat → Sh} (ck : sl_CK ci C0 T M ty) (hkf : kf < M) (hT : (T kf).1 = C0) (hfin : (T kf).2.2.2 = true) (hdec : (T kf).1 = f.own) (hl : Cond.fieldLink f.own idx C0 (T kf).2.1 (T kf).2.2.1 ∈ sl_GL) (hn : ∀ x : Nat, narrow (ty kf) (.ref x) = .ref x) (hfit : ∀ x : Nat, fits (ty kf) (.ref x) = true) (hh : h < n) (hSh : S h = .inr (ci, fs)) (h2 : S2 h = .inr (ci, fs2)) (ho : ∀ j, j < n → j ≠ h → S2 j = S j) (hfs : ∀ q, q < sl_nf ci → fs2.getD q 0 = if q = kf then v + 1 else fs.getD q 0) (hd : decode f.cd pc = .ok (.putfield idx, 3)) (kk : ct_At l f mc ms G base N S' (pc + 3) ls st n S2 k w) : ct_At l f mc ms G base N S' pc ls (.ref (base + v) :: .ref (base + h) :: st) n S k w := by
  intro p e s m args below meth c C H locs arr hW hS hv
  have hK := C.2.2.2.2.2.2.2.1.1.1
  have hin : ∀ w ∈ u_ws C0 T M, w ∈ sl_wd f := fun w h => sl_wd_GL (ck.2.1 w h)
  have hap := va_apart (own := f.own) C.2.2.2.2.1 hin ty ck.2.2.1 ck.2.2.2.1 hK ck.1
  have hat := hW.2 h hh
  rw [hSh] at hat
  obtain ⟨r, r1, cell, q1, q2, q3, q4⟩ := hat
  have hr : r = (C0, T, M) := Option.some.inj (r1.symm.trans ck.1)
  subst hr
  obtain ⟨hSl, hfc, kC, hkC, hkind⟩ := hK.1 ci _ ck.1
  obtain ⟨cf, kk0, fi, fd, hi, hsl⟩ := hSl kf hkf
  have hlay := C.2.2.2.2.1 _ (hin _ (u_in_lay hkf))
  unfold u_lay at hlay
  rw [if_pos hfin] at hlay
  have hst := (u_facts hfc hkC (u_lays C.2.2.2.2.1 hin hkf) hi).1
  have hcf : m.cls = cf := by
    obtain ⟨_, _, c', _, _, _, -, -, hf', -, -, -, hown2, -⟩ := Cond.laysFinal_spec hlay
    have e1 : c' = cf := by have := hi.symm.trans hf'; simp at this; exact this.1.symm
    rw [hdec] at hown2
    rw [← e1]; exact Option.some.inj (C.2.2.2.1.symm.trans hown2)
  have h6 := u_fits hfc hkC hkind (Or.inr hlay) hi (ck.2.2.1 kf hkf) (hn (base + v)) (hfit (base + v))
  refine W.putFinK C.1 C.2.1 C.2.2.2.1 (C.2.2.2.2.1 _ (List.mem_cons_of_mem _ hl)) (by rw [← hT]; exact hi) hst hcf C.2.2.2.2.2.2.2.2 (by rw [q2]; exact h6) q1 q3 (by rw [hsl]; exact k2_hasslot (q4 kf hkf)) rfl rfl hd (fun H1 e1 e2 e3 => ?_)
  rw [hsl] at e1 ⊢
  refine kk p e s m args below meth c C H1 _ arr ⟨by rw [e2]; exact hW.1, fun j hj => ?_⟩ (hS.put e2 e3 (Nat.le_add_right _ _)) hv
  by_cases ej : j = h
  · subst ej
    rw [h2]
    refine ⟨_, ck.1, t_OB.to (V := updV (vp_V ((List.range (sl_nf ci)).map (fun k => shV base (sl_isr ci k) (fs.getD k 0)))) kf (.ref (base + v))) ⟨_, e1, q2, q3, t_set q4 hap hkf _⟩ (fun q hq => ?_)⟩
    have hq5 : q < sl_nf ci := by rw [← ck.2.2.2.2.1]; exact hq
    show updV _ kf (.ref (base + v)) q = vp_V ((List.range (sl_nf ci)).map (fun k => shV base (sl_isr ci k) (fs2.getD k 0))) q
    rw [vpV_map hq5]
    unfold updV
    rw [vpV_map hq5, hfs q hq5]
    by_cases eq : q = kf
    · rw [if_pos eq, if_pos eq]; unfold shV; rw [if_neg (by omega), show v + 1 - 1 = v by omega]
    · rw [if_neg eq, if_neg eq]
  · rw [ho j hj ej]
    exact (hW.2 j hj).kept (e3 _ (by show base + j ≠ base + h; omega))
theorem tc_ret (hk : k = mc) (hw : w = ms) (hn : n = N) (hS2 : ∀ j, j < N → S' j = S j) (hd : decode f.cd pc = .ok (.return_, 1)) : ct_At l f mc ms G base N S' pc ls [] n S k w := by
  intro p e s m args below meth c C H locs arr hW hS hv
  subst hk; subst hw; subst hn
  exact W.vret C.1 C.2.1 C.2.2.2.2.2.1 (fun t ht hWa => ⟨⟨rfl, by rw [ht]; exact hW.to hS2, C.2.2.2.2.2.2.2.1.warm hWa⟩, hS.F ht⟩) hS.2.2 hd C.2.2.2.2.2.2.1
theorem tc_blind {av : List Value} : FrameBlind (va_Pc av (fun U => ctW G base n S U.heap ∧ ctK G U)) := fun _ _ _ _ q => ⟨q.1, q.2.1, q.2.2.same rfl⟩
/-- behind a constructor -/
theorem tc_after {p : Program} {e : Env} {R : Room} {s : State} {m : MethodId} {args : Array Value} {below : List Frame} {meth : Method} {c : Code} {H : Heap} {locs : List Loc} {arr : Array Slot} {st0 rest : List Value} {a : Array Value} {M mg sg : Nat} {S2 : Nat → Sh} {Qz : State → Prop}
    (hr : va_Run p l e R s m args below meth c H locs k w mg sg (F0 m pc arr st0) rest (ctZ G base M S2 a) (fun q => base ≤ q)) (hS : va_S (fun q => base ≤ q) s.heap H locs)
    (kk : ∀ (H1 : Heap) (locs1 : List Loc), ctW G base M S2 H1 → va_S (fun q => base ≤ q) s.heap H1 locs1 → W p l e R s m args below meth c H1 locs1 (k + mg) (w + sg) Qz (F0 m (pc + 3) arr rest)) : W p l e R s m args below meth c H locs k w Qz (F0 m pc arr st0) := by
  intro T hT X
  obtain ⟨v, st₀, t, T', L, h0, X', hL, e1, e2, ⟨⟨hv, b5, b6⟩, hz, hk⟩, st⟩ := hr T hT X
  cases hv
  rw [h0] at hz hk
  obtain ⟨t2, a1, b1⟩ := kk T'.heap (locs ++ L) (by rw [e1]; exact b5)
    ⟨Nat.le_trans hS.1 (by rw [e1]; exact hz), fun q h1 h2 => by rw [e1, hk q (Nat.lt_of_lt_of_le h1 hS.1) h2]; exact hS.2.1 q h1 h2, fun q hq => by
      rcases List.mem_append.mp hq with h | h
      · exact hS.2.2 q h
      · exact hL q h⟩ T' rfl X'
  exact ⟨t2, st t2 a1, b1⟩
/-- a constructor is called: of a class of one's nest whose constructor is its own alone -/
theorem tc_callN {g : sl_F} {idx h mg sg : Nat} {host : String} {S2 : Nat → Sh} (cg : CT l g mg sg n h S S2) (hc : Cond.code g.nm g.cd g.nL g.rt ∈ sl_GL) (hrt : g.rt = none) (hi : Cond.initialized g.nm.cls ∈ sl_GL) (hm : Cond.instanceMethod g.nm ∈ sl_GL) (hnm : g.nm.name = "<init>") (hp : g.nm.cls ≠ "java/lang/invoke/MethodHandle" ∧ g.nm.cls ≠ "java/lang/invoke/VarHandle" ∧ (parseMethodDescriptor g.nm.desc).map (fun d => d.parameters.length) = some 0) (hl : Cond.methodLinkNest f.own idx g.nm host ∈ sl_NT) (hR : g.2.2.2.2.2.2.1 + 1 ≤ f.2.2.2.2.2.2.1 ∧ 8 + (g.nL + 11) + g.2.2.2.2.2.2.2 ≤ f.2.2.2.2.2.2.2) (hs : (st.map fun v => v.category).sum ≤ 8) (hk : k + mg ≤ mc) (hw : w + sg ≤ ms) (hd : decode f.cd pc = .ok (.invokespecial idx, 3)) (kk : ct_At l f mc ms G base N S' (pc + 3) ls st (n + mg) S2 (k + mg) (w + sg)) : ct_At l f mc ms G base N S' pc ls (.ref (base + h) :: st) n S k w := by
  intro p e s m args below meth c C H locs arr hW hS hv
  have gl := fun {w : Cond} (h : w ∈ sl_GL) => C.2.2.2.2.1 w (List.mem_cons_of_mem _ h)
  refine tc_after (va_runIN (As := []) (rest := st) (bytes := g.cd) (maxL := g.nL) ⟨C.1, C.2.1, C.2.2.1, C.2.2.2.1, C.2.2.2.2.1⟩ (cg G base) ⟨va_cnB 0 C.2.2.2.2.1 (sl_goodIn hc) (by rw [← hrt]; rfl) rfl rfl (C.2.2.2.2.2.2.2.1.1.2 _ hl) (gl hi) hp hR, hnm, gl hm⟩ ⟨tc_blind, fun U hU hWa => ⟨rfl, by rw [hU]; exact hW, C.2.2.2.2.2.2.2.1.warm hWa⟩⟩ rfl rfl hv.1 rfl (lv_room hs) hd ⟨hk, hw⟩) hS (fun H1 locs1 h1 h2 => kk p e s m args below meth c C H1 locs1 arr h1 h2 hv)
theorem tc_callI {g : sl_F} {idx h mg sg : Nat} {S2 : Nat → Sh} (cg : CT l g mg sg n h S S2) (hc : Cond.code g.nm g.cd g.nL g.rt ∈ sl_GL) (hrt : g.rt = none) (hi : Cond.initialized g.nm.cls ∈ sl_GL) (hm : Cond.instanceMethod g.nm ∈ sl_GL) (hnm : g.nm.name = "<init>") (hp : g.nm.cls ≠ "java/lang/invoke/MethodHandle" ∧ g.nm.cls ≠ "java/lang/invoke/VarHandle" ∧ (parseMethodDescriptor g.nm.desc).map (fun d => d.parameters.length) = some 0) (hl : Cond.methodLink f.own idx g.nm ∈ sl_GL) (hR : g.2.2.2.2.2.2.1 + 1 ≤ f.2.2.2.2.2.2.1 ∧ 8 + (g.nL + 11) + g.2.2.2.2.2.2.2 ≤ f.2.2.2.2.2.2.2) (hs : (st.map fun v => v.category).sum ≤ 8) (hk : k + mg ≤ mc) (hw : w + sg ≤ ms) (hd : decode f.cd pc = .ok (.invokespecial idx, 3)) (kk : ct_At l f mc ms G base N S' (pc + 3) ls st (n + mg) S2 (k + mg) (w + sg)) : ct_At l f mc ms G base N S' pc ls (.ref (base + h) :: st) n S k w := by
  intro p e s m args below meth c C H locs arr hW hS hv
  have gl := fun {w : Cond} (h : w ∈ sl_GL) => C.2.2.2.2.1 w (List.mem_cons_of_mem _ h)
  refine tc_after (va_runI (As := []) (rest := st) (bytes := g.cd) (maxL := g.nL) ⟨C.1, C.2.1, C.2.2.1, C.2.2.2.1, C.2.2.2.2.1⟩ (cg G base) (cwI 0 C.2.2.2.2.1 (sl_goodIn hc) (by rw [← hrt]; rfl) rfl rfl (gl hi) (gl hl) (gl hm) hnm hp hR) ⟨tc_blind, fun U hU hWa => ⟨rfl, by rw [hU]; exact hW, C.2.2.2.2.2.2.2.1.warm hWa⟩⟩ rfl rfl hv.1 rfl (lv_room hs) hd ⟨hk, hw⟩) hS (fun H1 locs1 h1 h2 => kk p e s m args below meth c C H1 locs1 arr h1 h2 hv)
/-- the cells as another function says them -/
theorem tc_as {S2 : Nat → Sh} (h : ∀ j, j < n → S2 j = S j) (kk : ct_At l f mc ms G base N S' pc ls st n S2 k w) : ct_At l f mc ms G base N S' pc ls st n S k w := fun p e s m args below meth c C H locs arr hW hS hv => kk p e s m args below meth c C H locs arr (hW.to h) hS hv
end T
