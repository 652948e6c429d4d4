/-! Constructors: rows of references, loops -/
section T
variable {l : Launch} {f : sl_F} {mc ms : Nat} {G : sl_G} {base N : Nat} {S' : Nat → Sh} {pc : Nat} {ls : List (Nat × Value)} {st : List Value} {n : Nat} {S : Nat → Sh} {k w : Nat}
theorem tc_anew {t M idx : Nat} {z : Int32} {C0 : String} (hty : ∀ s, ctK G s → va_RA s (G.2.1 t) (.object C0) ∧ va_AO C0 s) (h2 : ¬ t < 2) (hl : Cond.classLink f.own idx C0 ∈ sl_GL) (hz : ¬ z < 0) (hM : z.toNatClampNeg = M) (hby : M * 4 ≤ 536870912) (hk : k + 1 ≤ mc) (hw : w + M ≤ ms) (hSn : S n = .inl (t, M, [])) (hd : decode f.cd pc = .ok (.anewarray idx, 3)) (kk : ct_At l f mc ms G base N S' (pc + 3) ls (.ref (base + n) :: st) (n + 1) S (k + 1) (w + M)) : ct_At l f mc ms G base N S' pc ls (.int z :: st) n S k w := by
  intro p e s m args below meth c C H locs arr hW hS hv
  subst hM
  obtain ⟨hra, hao⟩ := hty s C.2.2.2.2.2.2.2.1
  refine W.anew C.1 C.2.1 C.2.2.2.1 (C.2.2.2.2.1 _ (List.mem_cons_of_mem _ hl)) (va_AO.use hao) rfl hd rfl hz hby hk hw (fun cA kA comp f1 f2 f3 f4 => ?_)
  have hc : cA = G.2.1 t := by
    obtain ⟨_, _, _, _, _, h⟩ := hra
    exact Option.some.inj (f1.symm.trans h)
  generalize hH1 : H.push ({ cls := cA, slots := Array.replicate z.toNatClampNeg .null, vm := .none } : Cell) = H1
  have z1 : H1.size = H.size + 1 := by rw [← hH1, Array.size_push]
  have e1 : H1[H.size]? = some (arrV cA z.toNatClampNeg (fun _ => .null)) := by rw [← hH1, Array.getElem?_push_size, ← arrV_new]
  have o1 : ∀ q : Nat, q < H.size → H1[q]? = H[q]? := fun q hq => by rw [← hH1, Array.getElem?_push, if_neg (Nat.ne_of_lt hq)]
  rw [hW.1] at e1 ⊢
  refine kk p e s m args below meth c C H1 locs arr ⟨by rw [z1, hW.1]; omega, fun j hj => ?_⟩ (tc_sz hS (by rw [z1]; omega) o1) hv
  by_cases ej : j = n
  · subst ej
    rw [hSn]
    show H1[base + j]? = some (vp_cell (G.2.1 t) (z.toNatClampNeg, if t < 2 then .inl (fun _ => 0) else .inr (.inr (.inr (.inr (fun q => shQ base (([] : List Nat).getD q 0)))))))
    rw [if_neg h2, e1, hc]
    simp [vp_cell, shQ, va_rf]
  · exact (hW.2 j (by omega)).kept (o1 _ (by show base + j < _; rw [hW.1]; omega))
theorem tc_getf {ci h r idx kf M : Nat} {C0 : String} {T : u_T} {ty : Nat → FieldType} {fs : List Nat} (ck : sl_CK ci C0 T M ty) (hkf : kf < M) (hT : (T kf).1 = C0) (hl : Cond.fieldLink f.own idx C0 (T kf).2.1 (T kf).2.2.1 ∈ sl_GL) (hh : h < n) (hSh : S h = .inr (ci, fs)) (hr : fs.getD kf 0 = r + 1) (hd : decode f.cd pc = .ok (.getfield idx, 3)) (kk : ct_At l f mc ms G base N S' (pc + 3) ls (.ref (base + r) :: st) n S k w) : ct_At l f mc ms G base N S' pc ls (.ref (base + h) :: st) n S k w := by
  intro p e s m args below meth c C H locs arr hW hS hv
  have hat := hW.2 h hh
  rw [hSh] at hat
  have hP : va_P G.1 vwCl [(base + h, shE G.2.1 base (.inr (ci, fs)))] H := by
    intro q x hx
    have hz : q < 1 := (List.getElem?_eq_some_iff.mp hx).1
    rw [show q = 0 by omega] at hx
    cases hx
    exact hat
  have hn5 : kf < sl_nf ci := by rw [← ck.2.2.2.2.1]; exact hkf
  refine va_get C.1 C.2.1 C.2.2.2.2.1 (fun w h => sl_wd_GL (ck.2.1 w h)) C.2.2.2.1 C.2.2.2.2.2.2.2.1.1.1 hP 0 (fs := (List.range (sl_nf ci)).map (fun k => shV base (sl_isr ci k) (fs.getD k 0))) (ci := ci) rfl ck.1 kf hkf (C.2.2.2.2.1 _ (List.mem_cons_of_mem _ hl)) (fun _ h => by rw [hT] at h; exact h) (v := .ref (base + r)) ?_ hd (kk p e s m args below meth c C H locs arr hW hS hv)
  rw [List.getElem?_map, List.getElem?_range hn5]
  show some (shV base (sl_isr ci kf) (fs.getD kf 0)) = _
  rw [hr]
  unfold shV
  rw [if_neg (by omega), show r + 1 - 1 = r by omega]
theorem tc_aast {t M a i v ci : Nat} {z : Int32} {r : vw_C} {rs rs2 vs : List Nat} {S2 : Nat → Sh} (hty : ∀ s, ctK G s → va_RA s (G.2.1 t) (.object r.1)) (hc : vwCl[ci]? = some r) (h2 : ¬ t < 2) (ha : a < n) (hSa : S a = .inl (t, M, rs)) (hv0 : v < n) (hSv : S v = .inr (ci, vs)) (hz : ¬ z < 0) (hzi : z.toNatClampNeg = i) (hi : i < M) (h2a : S2 a = .inl (t, M, rs2)) (ho : ∀ j, j < n → j ≠ a → S2 j = S j) (hrs : ∀ j, j < M → rs2.getD j 0 = if j = i then v + 1 else rs.getD j 0) (hd : decode f.cd pc = .ok (.aastore, 1)) (kk : ct_At l f mc ms G base N S' (pc + 1) ls st n S2 k w) : ct_At l f mc ms G base N S' pc ls (.ref (base + v) :: .int z :: .ref (base + a) :: st) n S k w := by
  intro p e s m args below meth c C H locs arr hW hS hv
  subst hzi
  have hat := hW.2 a ha
  rw [hSa] at hat
  have hat' : H[base + a]? = some (vp_cell (G.2.1 t) (M, if t < 2 then .inl (fun _ => 0) else .inr (.inr (.inr (.inr (fun q => shQ base (rs.getD q 0))))))) := hat
  rw [if_neg h2, vp_cell_q] at hat'
  have hvt := hW.2 v hv0
  rw [hSv] at hvt
  obtain ⟨r', hr', cellV, g1, g2, g3, -⟩ := hvt
  have hcls := (C.2.2.2.2.2.2.2.1.1.1.1 ci r hc).2
  obtain ⟨kA, comp, k1, k2, k3, -⟩ := hty s C.2.2.2.2.2.2.2.1
  have hcomp : comp = G.1.1 ci := Option.some.inj (k3.symm.trans hcls.1)
  subst hcomp
  have hcls' := hcls
  obtain ⟨kC, hkC, -⟩ := hcls.2
  refine W.aast C.1 C.2.1 hat' (fun q h => by cases h) (fun h => by cases h) k1 k2 rfl hkC ⟨hz, by show _ < (arrV _ _ _).slots.size; rw [arrV_size]; exact hi⟩ g1 (fun q h => by rw [g3] at h; cases h) (by rw [g2]; exact hkC) (by rw [g2]; exact va_assign hcls') rfl rfl hd (fun H1 e1 z1 oq => ?_)
  refine kk p e s m args below meth c C H1 _ arr ⟨by rw [z1]; exact hW.1, fun j hj => ?_⟩ (hS.put z1 oq (Nat.le_add_right _ _)) hv
  by_cases ej : j = a
  · subst ej
    rw [h2a]
    show H1[base + j]? = some (vp_cell (G.2.1 t) (M, if t < 2 then .inl (fun _ => 0) else .inr (.inr (.inr (.inr (fun q => shQ base (rs2.getD q 0)))))))
    rw [if_neg h2, vp_cell_q, e1, arrV_store]
    show some (arrV _ M _) = some (arrV _ M _)
    unfold arrV
    congr 2
    apply Array.ext
    · simp
    · intro q q1 q2
      have q3 : q < M := by simpa using q1
      simp only [Array.getElem_ofFn]
      unfold updV
      rw [hrs q q3]
      by_cases eq : q = z.toNatClampNeg
      · rw [if_pos eq, if_pos eq]
        unfold shQ
        rw [if_neg (by omega), show v + 1 - 1 = v by omega]; rfl
      · rw [if_neg eq, if_neg eq]
  · rw [ho j hj ej]
    exact (hW.2 j hj).kept (oq _ (by show base + j ≠ base + a; omega))
theorem tc_istore {i : Fin 4} {x : Int32} {ls' : List (Nat × Value)} (hn : (i : Nat) < f.nL) (hl : ((i : Nat), Value.int x) :: ls.filter (fun q => !(q.1 == (i : Nat)) && !(q.1 + 1 == (i : Nat) && q.2.category == 2)) = ls') (hd : decode f.cd pc = .ok (.istore_n i, 1)) (kk : ct_At l f mc ms G base N S' (pc + 1) ls' st n S k w) : ct_At l f mc ms G base N S' pc ls (.int x :: st) n S k w := by
  intro p e s m args below meth c C H locs arr hW hS hv
  exact lv_istore_n C.1 C.2.1 hd rfl hv hn hl (fun arr' hv' => kk p e s m args below meth c C H locs arr' hW hS hv')
theorem tc_iload {i : Fin 4} {x : Int32} {q : Nat} (hl : ls[q]? = some ((i : Nat), .int x)) (hd : decode f.cd pc = .ok (.iload_n i, 1)) (kk : ct_At l f mc ms G base N S' (pc + 1) ls (.int x :: st) n S k w) : ct_At l f mc ms G base N S' pc ls st n S k w := by
  intro p e s m args below meth c C H locs arr hW hS hv
  exact lv_iload_n C.1 C.2.1 hd rfl (lv_at hv q hl) (kk p e s m args below meth c C H locs arr hW hS hv)
theorem tc_ge1 {x y : Int32} {off : Int} {tgt : Nat} (h : y ≤ x) (hd : decode f.cd pc = .ok (.if_icmp .ge off, 3)) (ht : (pc : Int) + off = (tgt : Int)) (kk : ct_At l f mc ms G base N S' tgt ls st n S k w) : ct_At l f mc ms G base N S' pc ls (.int y :: .int x :: st) n S k w := by
  intro p e s m args below meth c C H locs arr hW hS hv
  exact lv_icmp_ge C.1 C.2.1 hd ht (fun _ => kk p e s m args below meth c C H locs arr hW hS hv) (fun z => (z h).elim)
theorem tc_ge0 {x y : Int32} {off : Int} {tgt : Nat} (h : ¬ y ≤ x) (hd : decode f.cd pc = .ok (.if_icmp .ge off, 3)) (ht : (pc : Int) + off = (tgt : Int)) (kk : ct_At l f mc ms G base N S' (pc + 3) ls st n S k w) : ct_At l f mc ms G base N S' pc ls (.int y :: .int x :: st) n S k w := by
  intro p e s m args below meth c C H locs arr hW hS hv
  exact lv_icmp_ge C.1 C.2.1 hd ht (fun z => (h z).elim) (fun _ => kk p e s m args below meth c C H locs arr hW hS hv)
theorem tc_iinc {i q : Nat} {z : Int} {x v : Int32} {ls' : List (Nat × Value)} (hn : i < f.nL) (hk : ls[q]? = some (i, .int x)) (hz : x + Int32.ofInt z = v) (hl : (i, Value.int v) :: ls.filter (fun q => !(q.1 == i) && !(q.1 + 1 == i && q.2.category == 2)) = ls') (hd : decode f.cd pc = .ok (.iinc i z, 3)) (kk : ct_At l f mc ms G base N S' (pc + 3) ls' st n S k w) : ct_At l f mc ms G base N S' pc ls st n S k w := by
  intro p e s m args below meth c C H locs arr hW hS hv
  exact lv_iinc C.1 C.2.1 hd hv hk hz hn hl (fun arr' hv' => kk p e s m args below meth c C H locs arr' hW hS hv')
theorem tc_goto {off : Int} {tgt : Nat} (hd : decode f.cd pc = .ok (.goto off, 3)) (ht : (pc : Int) + off = (tgt : Int)) (kk : ct_At l f mc ms G base N S' tgt ls st n S k w) : ct_At l f mc ms G base N S' pc ls st n S k w := by
  intro p e s m args below meth c C H locs arr hW hS hv
  exact lv_goto C.1 C.2.1 hd ht (kk p e s m args below meth c C H locs arr hW hS hv)
theorem ctK.ra2 {s : State} (h : ctK G s) : va_RA s (G.2.1 2) (.object RX7) ∧ va_AO RX7 s := ⟨(h.1.1.2 2 (G.2.1 2, .object RX7) rfl).2, h.2.1⟩
theorem ctK.ra3 {s : State} (h : ctK G s) : va_RA s (G.2.1 3) (.object RX5) ∧ va_AO RX5 s := ⟨(h.1.1.2 3 (G.2.1 3, .object RX5) rfl).2, h.2.2⟩
/-- a row of ints comes -/
theorem tc_newi {M : Nat} {z : Int32} (ha : Cond.arrayClass .int ∈ sl_GL) (hz : ¬ z < 0) (hM : z.toNatClampNeg = M) (hby : M * 4 ≤ 536870912) (hk : k + 1 ≤ mc) (hw : w + M ≤ ms) (hSn : S n = .inl (0, M, [])) (hd : decode f.cd pc = .ok (.newarray .int, 2)) (kk : ct_At l f mc ms G base N S' (pc + 2) ls (.ref (base + n) :: st) (n + 1) S (k + 1) (w + M)) : ct_At l f mc ms G base N S' pc ls (.int z :: st) n S k w := tc_newa (t := 0) (ty := .int) rfl (fun _ => rfl) (by omega) (fun _ _ h => h) rfl ha hz hM hby hk hw hSn hd kk
theorem tc_newb {M : Nat} {z : Int32} (ha : Cond.arrayClass .boolean ∈ sl_GL) (hz : ¬ z < 0) (hM : z.toNatClampNeg = M) (hby : M * 1 ≤ 536870912) (hk : k + 1 ≤ mc) (hw : w + M ≤ ms) (hSn : S n = .inl (1, M, [])) (hd : decode f.cd pc = .ok (.newarray .boolean, 2)) (kk : ct_At l f mc ms G base N S' (pc + 2) ls (.ref (base + n) :: st) (n + 1) S (k + 1) (w + M)) : ct_At l f mc ms G base N S' pc ls (.int z :: st) n S k w := tc_newa (t := 1) (ty := .boolean) rfl (fun _ => rfl) (by omega) (fun _ _ h => h) rfl ha hz hM hby hk hw hSn hd kk
end T
