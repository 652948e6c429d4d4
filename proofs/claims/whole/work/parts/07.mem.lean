section R
variable {l : Launch} {f : sl_F} {pc : Nat} {ls : sl_L} {st : List sl_V} {M : sl_M} {Q : sl_R}
theorem sl_wd_GL {w : Cond} (h : w ∈ sl_GL) : w ∈ sl_wd f := List.mem_cons_of_mem _ h
theorem sl_fs {ad : Nat → Nat → Nat} {o n k : Nat} (hk : k < n) : ((List.range n).map (fun k => sl_fv ad M o k))[k]? = some (sl_fv ad M o k) := by
  rw [List.getElem?_map, List.getElem?_range hk]; rfl
theorem r_getI {ci o k idx N : Nat} {C : String} {T : u_T} {ty : Nat → FieldType} (ck : sl_CK ci C T N ty) (ho : sl_cls o = ci) (hw : sl_wof ci = f.wd) (hk : k < N) (hr : sl_isr ci k = false) (hT : (T k).1 = C) (hl : Cond.fieldLink f.own idx C (T k).2.1 (T k).2.2.1 ∈ sl_GL) (hd : decode f.cd pc = .ok (.getfield idx, 3)) (kk : sl_At l f (pc + 3) ls (vI (M o 0 k) :: st) M Q) : sl_At l f pc ls (vR o 0 :: st) M Q := by
  intro hM hls G p e s m args below meth c Cx H locs arr hW hS hv
  obtain ⟨n, -, hn⟩ := sl_ix (G := G) (M := M) (sl_mem ho ck.2.2.2.2.2 (Or.inl rfl) hw)
  rw [sl_cell_obj ho] at hn
  have hn5 : k < sl_nf ci := by rw [← ck.2.2.2.2.1]; exact hk
  have hv1 : sl_fv G.2.2 M o k = .int (Int32.ofInt (M o 0 k)) := by unfold sl_fv; rw [ho, hr]; rfl
  refine va_get Cx.1 Cx.2.1 Cx.2.2.2.2.1 (fun w h => sl_wd_GL (ck.2.1 w h)) Cx.2.2.2.1 Cx.2.2.2.2.2.2.2.1.1 hW n hn ck.1 k hk (sl_gl Cx hl) (fun _ h => by rw [hT] at h; exact h) (v := .int (Int32.ofInt (M o 0 k))) (by rw [sl_fs hn5, hv1]) hd (kk hM hls G p e s m args below meth c Cx H locs arr hW hS hv)
theorem r_getR {ci o k idx N o' i' : Nat} {C : String} {T : u_T} {ty : Nat → FieldType} (ck : sl_CK ci C T N ty) (ho : sl_cls o = ci) (hw : sl_wof ci = f.wd) (hk : k < N) (hr : sl_isr ci k = true) (hf : sl_rf M ci o k = some (o', i')) (hT : (T k).1 = C) (hl : Cond.fieldLink f.own idx C (T k).2.1 (T k).2.2.1 ∈ sl_GL) (hd : decode f.cd pc = .ok (.getfield idx, 3)) (kk : sl_At l f (pc + 3) ls (vR o' i' :: st) M Q) : sl_At l f pc ls (vR o 0 :: st) M Q := by
  intro hM hls G p e s m args below meth c Cx H locs arr hW hS hv
  obtain ⟨n, -, hn⟩ := sl_ix (G := G) (M := M) (sl_mem ho ck.2.2.2.2.2 (Or.inl rfl) hw)
  rw [sl_cell_obj ho] at hn
  have hn5 : k < sl_nf ci := by rw [← ck.2.2.2.2.1]; exact hk
  have hv1 : sl_fv G.2.2 M o k = .ref (G.2.2 o' i') := by unfold sl_fv; rw [ho, hr, hf]; rfl
  refine va_get Cx.1 Cx.2.1 Cx.2.2.2.2.1 (fun w h => sl_wd_GL (ck.2.1 w h)) Cx.2.2.2.1 Cx.2.2.2.2.2.2.2.1.1 hW n hn ck.1 k hk (sl_gl Cx hl) (fun _ h => by rw [hT] at h; exact h) (v := .ref (G.2.2 o' i')) (by rw [sl_fs hn5, hv1]) hd (kk hM hls G p e s m args below meth c Cx H locs arr hW hS hv)
theorem sl_wr_o {o i : Nat} {j v : Int} (o' i' : Nat) (j' : Int) (h : (o', i') ≠ (o, i)) : sl_wr M o i j v o' i' j' = M o' i' j' := by
  unfold sl_wr
  rw [if_neg]
  rintro ⟨rfl, rfl, -⟩
  exact h rfl
theorem sl_wr_RM {o i : Nat} {j v : Int} (h : sl_RM M) (hv : sl_rg v) : sl_RM (sl_wr M o i j v) := by
  intro o' i' j'
  unfold sl_wr
  split
  · exact hv
  · exact h o' i' j'
/-- the core of a write to a field -/
theorem sl_put {ci o k idx N : Nat} {C : String} {T : u_T} {ty : Nat → FieldType} (ck : sl_CK ci C T N ty) (ho : sl_cls o = ci) (hw : sl_wof ci = f.wd) (hk : k < N) (hT : (T k).1 = C) (hfin : (T k).2.2.2 = false) (hl : Cond.fieldLink f.own idx C (T k).2.1 (T k).2.2.1 ∈ sl_GL) {v : sl_V} {z : Int} (hz : sl_rg z) (hn : ∀ G, narrow (ty k) (sl_cv G v) = sl_cv G v) (hfit : ∀ G, fits (ty k) (sl_cv G v) = true) (hval : ∀ G : sl_G, sl_fv G.2.2 (sl_wr M o 0 k z) o k = sl_cv G v) (hd : decode f.cd pc = .ok (.putfield idx, 3)) (kk : sl_At l f (pc + 3) ls st (sl_wr M o 0 k z) Q) : sl_At l f pc ls (v :: vR o 0 :: st) M Q := by
  intro hM hls G p e s m args below meth c Cx H locs arr hW hS hv
  have hm := sl_mem (i := 0) ho ck.2.2.2.2.2 (Or.inl rfl) hw
  obtain ⟨n, hn0, hn1⟩ := sl_ix (G := G) (M := M) hm
  have hnd : (sl_pl f.wd).Nodup := by rw [← hw]; exact sl_nd
  have hset := sl_ws_set (G := G) (M := M) (N := sl_wr M o 0 k z) hnd hn0 (fun o' i' j h => sl_wr_o o' i' j h)
  rw [sl_cell_obj ho] at hn1 hset
  have hn5 : k < sl_nf ci := by rw [← ck.2.2.2.2.1]; exact hk
  have hfs : (List.range (sl_nf ci)).map (fun k' => sl_fv G.2.2 (sl_wr M o 0 k z) o k') = ((List.range (sl_nf ci)).map (fun k' => sl_fv G.2.2 M o k')).set k (sl_cv G v) := by
    refine List.ext_getElem? fun q => ?_
    rw [List.getElem?_set, List.getElem?_map, List.getElem?_map]
    by_cases hq : k = q
    · subst hq
      rw [if_pos rfl, if_pos (by simpa using hn5), List.getElem?_range hn5]
      exact congrArg some (hval G)
    · rw [if_neg hq]
      by_cases hq2 : q < sl_nf ci
      · rw [List.getElem?_range hq2]
        show some (sl_fv G.2.2 (sl_wr M o 0 k z) o q) = some (sl_fv G.2.2 M o q)
        congr 1
        unfold sl_fv sl_rf
        have e1 : ∀ (x : Int), x ≠ (k : Int) → sl_wr M o 0 k z o 0 x = M o 0 x := by
          intro x hx
          unfold sl_wr
          rw [if_neg]
          exact fun h => hx h.2.2
        have e2 : sl_wr M o 0 k z o 0 (q : Int) = M o 0 q := e1 _ (by omega)
        rw [e2]
        by_cases hk0 : q = 0
        · subst hk0
          have e3 : sl_wr M o 0 k z o 0 0 = M o 0 0 := e2
          simp only [e3]
        · simp only [hk0, if_false]
      · rw [List.getElem?_eq_none (by simpa using Nat.le_of_not_lt hq2)]; rfl
  rw [hfs] at hset
  refine va_put Cx.1 Cx.2.1 Cx.2.2.2.2.1 (fun w h => sl_wd_GL (ck.2.1 w h)) ty ck.2.2.1 ck.2.2.2.1 Cx.2.2.2.1 Cx.2.2.2.2.2.2.2.1.1 hW (sl_D hnd Cx.2.2.2.2.2.2.2.2) hS n hn1 ck.1 k hk (sl_gl Cx hl) (fun _ h => by rw [hT] at h; exact h) hfin (ck.2.2.1 k hk) (hn G) (hfit G) (by simpa using hn5) hd (fun H1 locs1 hP1 hD1 hS1 => ?_)
  rw [hset] at hP1
  exact kk (sl_wr_RM hM hz) hls G p e s m args below meth c Cx H1 locs1 arr hP1 hS1 hv
end R
