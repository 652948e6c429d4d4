section R
variable {l : Launch} {f : sl_F} {pc : Nat} {ls : sl_L} {st : List sl_V} {M : sl_M} {Q : sl_R}
theorem r_dup2 {a b : sl_V} (ha : sl_c2 a = false) (hb : sl_c2 b = false) (hd : decode f.cd pc = .ok (.dup2, 1)) (k : sl_At l f (pc + 1) ls (a :: b :: a :: b :: st) M Q) : sl_At l f pc ls (a :: b :: st) M Q := by
  intro hM hl G p e s m args below meth c C H locs arr hW hS hv
  exact lv_dup2_11 C.1 C.2.1 hd (by rcases a with z | x | _ | q <;> first | rfl | cases ha) (by rcases b with z | x | _ | q <;> first | rfl | cases hb) (k hM hl G p e s m args below meth c C H locs arr hW hS hv)
theorem r_getT {idx : Nat} {hw : f.wd = 0} (h0 : M 2 0 0 ≠ 0) (hl : Cond.fieldLink f.own idx RX4 (TX4 0).2.1 (TX4 0).2.2.1 ∈ sl_GL) (hd : decode f.cd pc = .ok (.getfield idx, 3)) (kk : sl_At l f (pc + 3) ls (vR 0 1 :: st) M Q) : sl_At l f pc ls (vR 2 0 :: st) M Q :=
  r_getR (k := 0) ckX4 rfl hw.symm (by decide) rfl (by show (if M 2 0 0 = 0 then none else some (0, 1)) = _; rw [if_neg h0]) rfl hl hd kk
theorem sl_dec1 {z : Int} {q : Nat} (h : z = (q : Int) + 1) : sl_dec z = some (q, 0) := by
  subst h
  unfold sl_dec
  rw [if_neg (by omega)]
  congr 2
  omega
theorem r_getS {idx q : Nat} {hw : f.wd = 0} (h0 : M 6 0 0 = (q : Int) + 1) (hl : Cond.fieldLink f.own idx RX1 (TX1 0).2.1 (TX1 0).2.2.1 ∈ sl_GL) (hd : decode f.cd pc = .ok (.getfield idx, 3)) (kk : sl_At l f (pc + 3) ls (vR q 0 :: st) M Q) : sl_At l f pc ls (vR 6 0 :: st) M Q :=
  r_getR (k := 0) ckX1 rfl hw.symm (by decide) rfl (by show sl_dec (M 6 0 0) = _; exact sl_dec1 h0) rfl hl hd kk
theorem r_getC {idx q : Nat} {hw : f.wd = 0} (h0 : M 2 0 2 = (q : Int) + 1) (hl : Cond.fieldLink f.own idx RX4 (TX4 2).2.1 (TX4 2).2.2.1 ∈ sl_GL) (hd : decode f.cd pc = .ok (.getfield idx, 3)) (kk : sl_At l f (pc + 3) ls (vR q 0 :: st) M Q) : sl_At l f pc ls (vR 2 0 :: st) M Q :=
  r_getR (k := 2) ckX4 rfl hw.symm (by decide) rfl (by show sl_dec (M 2 0 2) = _; exact sl_dec1 h0) rfl hl hd kk
theorem sl_rg01 {z : Int} (h : z = 0 ∨ z = 1) : sl_rg z := by rcases h with rfl | rfl <;> exact ⟨by decide, by decide⟩
theorem sl_rg100 {q : Nat} (h : q < 100) : sl_rg ((q : Int) + 1) := by unfold sl_rg; omega
theorem sl_rgmin {a b : Int} (ha : sl_rg a) (hb : sl_rg b) : sl_rg (min a b) := by unfold sl_rg at *; omega
theorem sl_rgite {P : Prop} [Decidable P] {a b : Int} (ha : sl_rg a) (hb : sl_rg b) : sl_rg (if P then a else b) := by
  split
  · exact ha
  · exact hb
/-- a row of nine is copied -/
def sl_cpy (M : sl_M) (o o2 : Nat) : sl_M := fun o' i' j' => if o' = o2 ∧ i' = 5 ∧ 0 ≤ j' ∧ j' < 9 then M o 5 j' else M o' i' j'
theorem sl_cpy_RM {o o2 : Nat} (h : sl_RM M) : sl_RM (sl_cpy M o o2) := by
  intro o' i' j'
  unfold sl_cpy
  split
  · exact h _ _ _
  · exact h _ _ _
def iushr (a b : Int) : Int := ((Int32.ofInt a).toUInt32 >>> ((Int32.ofInt b).toUInt32 &&& Int32.toUInt32 31)).toInt32.toInt
theorem rg_iushr (a b : Int) : sl_rg (iushr a b) := sl_rgT _
theorem r_iushr {a b : Int} (hd : decode f.cd pc = .ok (.iushr, 1)) (k : sl_At l f (pc + 1) ls (vI (iushr a b) :: st) M Q) : sl_At l f pc ls (vI b :: vI a :: st) M Q := by
  intro hM hl G p e s m args below meth c C H locs arr hW hS hv
  exact lv_iushr C.1 C.2.1 hd (v := Int32.ofInt (iushr a b)) (sl_ofT _).symm (k hM hl G p e s m args below meth c C H locs arr hW hS hv)
theorem b_congr {P R : Prop} [Decidable P] [Decidable R] (h : P ↔ R) : (if P then (1 : Int) else 0) = if R then 1 else 0 := by
  by_cases hp : P
  · rw [if_pos hp, if_pos (h.mp hp)]
  · rw [if_neg hp, if_neg (fun q => hp (h.mpr q))]
theorem r_acopy {o o2 idx : Nat} (hw : f.wd = 0) (ho : sl_cls o = 5) (ho2 : sl_cls o2 = 5) (hl : Cond.methodLink f.own idx arraycopyName ∈ sl_GL) (h1 : Cond.native arraycopyName ∈ sl_GL) (h2 : Cond.static arraycopyName ∈ sl_GL) (h3 : Cond.initialized "java/lang/System" ∈ sl_GL) (hR : 1 ≤ f.rm.frames ∧ (st.map sl_cat).sum + 18 ≤ f.rm.locals) (hd : decode f.cd pc = .ok (.invokestatic idx, 3)) (kk : sl_At l f (pc + 3) ls st (sl_cpy M o o2) Q) : sl_At l f pc ls (vI 9 :: vI 0 :: vR o2 5 :: vI 0 :: vR o 5 :: st) M Q := by
  intro hM hls G p e s m args below meth c Cx H locs arr hW hS hv
  have ha : sl_ar 5 5 = some (0, 9) := rfl
  obtain ⟨q, hq0, hq⟩ := sl_ix (G := G) (M := M) (sl_mem (i := 5) (w := f.wd) ho (by decide) (Or.inr rfl) hw.symm)
  obtain ⟨q2, hq20, hq2⟩ := sl_ix (G := G) (M := M) (sl_mem (i := 5) (w := f.wd) ho2 (by decide) (Or.inr rfl) hw.symm)
  have hnd : (sl_pl f.wd).Nodup := by rw [hw]; exact sl_nd0
  have hset := sl_ws_set (G := G) (M := M) (N := sl_cpy M o o2) hnd hq20 (fun o' i' j h => by
    unfold sl_cpy
    rw [if_neg]
    rintro ⟨rfl, rfl, -⟩
    exact h rfl)
  have hcell : sl_cell G.2.1 G.2.2 (sl_cpy M o o2) (o2, 5) = .inl (G.2.1 0, 9, .inl (va_cpy (fun j : Nat => Int32.ofInt (M o 5 (j : Nat))) (fun j : Nat => Int32.ofInt (M o2 5 (j : Nat))) 0 0 9)) := by
    rw [sl_cell_int ho2 ha (by decide) (by decide)]
    congr 4
    funext j
    unfold va_cpy sl_cpy
    by_cases hj : j < 9
    · rw [if_pos ⟨rfl, rfl, by omega, by omega⟩, if_pos ⟨Nat.zero_le _, by omega⟩]
      simp
    · rw [if_neg (by omega), if_neg (by omega)]
  rw [hcell] at hset
  rw [sl_cell_int ho ha (by decide) (by decide)] at hq
  rw [sl_cell_int ho2 ha (by decide) (by decide)] at hq2
  refine va_copyi (ty := .int) Cx.1 Cx.2.1 (by rw [Cx.2.2.1]; exact hv.1.symm) Cx.2.2.2.1 (sl_gl Cx hl) (sl_gl Cx h1) (sl_gl Cx h2) (sl_gl Cx h3) Cx.2.2.2.2.2.2.2.1.1 hW (sl_D hnd Cx.2.2.2.2.2.2.2.2) hS q q2 0 0 hq hq2 rfl rfl rfl (by decide) (by decide) (by decide) (by decide) (by decide) (fun _ _ => rfl) hR.1 ?_ hd (fun H1 locs1 hP1 hD1 hS1 => ?_)
  · rw [sl_catS]
    exact hR.2
  · have e9 : (Int32.ofInt 9).toNatClampNeg = 9 := by decide
    have e0 : (Int32.ofInt 0).toNatClampNeg = 0 := by decide
    rw [e9, e0, hset] at hP1
    exact kk (sl_cpy_RM hM) hls G p e s m args below meth c Cx H1 locs1 arr hP1 hS1 hv
theorem r_gI {ci o k idx N : Nat} {C : String} {T : u_T} {ty : Nat → FieldType} {kz : Int} (hkz : (k : Int) = kz) (ck : sl_CK ci C T N ty) (ho : sl_cls o = ci) (hw : sl_wof ci = f.wd) (hk : k < N) (hr : sl_isr ci k = false) (hT : (T k).1 = C) (hl : Cond.fieldLink f.own idx C (T k).2.1 (T k).2.2.1 ∈ sl_GL) (hd : decode f.cd pc = .ok (.getfield idx, 3)) (kk : sl_At l f (pc + 3) ls (vI (M o 0 kz) :: st) M Q) : sl_At l f pc ls (vR o 0 :: st) M Q := by
  subst hkz
  exact r_getI ck ho hw hk hr hT hl hd kk
theorem r_pI {ci o k idx N : Nat} {C : String} {T : u_T} {ty : Nat → FieldType} {kz : Int} (hkz : (k : Int) = kz) (ck : sl_CK ci C T N ty) (ho : sl_cls o = ci) (hw : sl_wof ci = f.wd) (hk : k < N) (hr : sl_isr ci k = false) (hT : (T k).1 = C) (hfin : (T k).2.2.2 = false) (hty : ty k = .int) (hl : Cond.fieldLink f.own idx C (T k).2.1 (T k).2.2.1 ∈ sl_GL) {z : Int} (hz : sl_rg z) (hd : decode f.cd pc = .ok (.putfield idx, 3)) (kk : sl_At l f (pc + 3) ls st (sl_wr M o 0 kz z) Q) : sl_At l f pc ls (vI z :: vR o 0 :: st) M Q := by
  subst hkz
  exact r_putI ck ho hw hk hr hT hfin hty hl hz hd kk
theorem r_pZ {ci o k idx N : Nat} {C : String} {T : u_T} {ty : Nat → FieldType} {kz : Int} (hkz : (k : Int) = kz) (ck : sl_CK ci C T N ty) (ho : sl_cls o = ci) (hw : sl_wof ci = f.wd) (hk : k < N) (hr : sl_isr ci k = false) (hT : (T k).1 = C) (hfin : (T k).2.2.2 = false) (hty : ty k = .boolean) (hl : Cond.fieldLink f.own idx C (T k).2.1 (T k).2.2.1 ∈ sl_GL) {z : Int} (hz : z = 0 ∨ z = 1) (hd : decode f.cd pc = .ok (.putfield idx, 3)) (kk : sl_At l f (pc + 3) ls st (sl_wr M o 0 kz z) Q) : sl_At l f pc ls (vI z :: vR o 0 :: st) M Q := by
  subst hkz
  exact r_putZ ck ho hw hk hr hT hfin hty hl hz hd kk
theorem r_min {a b : Int} {idx : Nat} (ha : sl_rg a) (hb : sl_rg b) (hl : Cond.methodLink f.own idx Lib.Math.min.name ∈ sl_GL) (h1 : Cond.static Lib.Math.min.name ∈ sl_GL) (h2 : Cond.initialized "java/lang/Math" ∈ sl_GL) (h3 : Cond.code Lib.Math.min.name Lib.Math.min.code 2 (some .int) ∈ sl_GL) (hR : 1 ≤ f.rm.frames ∧ (st.map sl_cat).sum + 13 ≤ f.rm.locals) (hd : decode f.cd pc = .ok (.invokestatic idx, 3)) (k : sl_At l f (pc + 3) ls (vI (min a b) :: st) M Q) : sl_At l f pc ls (vI b :: vI a :: st) M Q := by
  intro hM hls G p e s m args below meth c Cx H locs arr hW hS hv
  have k := k hM hls G p e s m args below meth c Cx H locs arr hW hS hv
  refine va_mmin Cx.1 Cx.2.1 (by rw [Cx.2.2.1]; exact hv.1.symm) Cx.2.2.2.1 (sl_gl Cx hl) (sl_gl Cx h1) (sl_gl Cx h2) (sl_gl Cx h3) hR.1 (by rw [sl_catS]; exact hR.2) (Nat.le_refl _) (Nat.le_refl _) hd ?_
  have e : (if Int32.ofInt b < Int32.ofInt a then Int32.ofInt b else Int32.ofInt a) = Int32.ofInt (min a b) := by
    by_cases h : b < a
    · rw [if_pos ((sl_lt32 hb ha).mpr h)]
      congr 1
      omega
    · rw [if_neg (fun q => h ((sl_lt32 hb ha).mp q))]
      congr 1
      omega
  rw [e]
  exact k
theorem r_aL {ci o i t n : Nat} {nz : Int} (hnz : (n : Int) = nz) (ho : sl_cls o = ci) (ha : sl_ar ci i = some (t, n)) (ht : t = 0) (hw : sl_wof ci = f.wd) (hd : decode f.cd pc = .ok (.arraylength, 1)) (kk : sl_At l f (pc + 1) ls (vI nz :: st) M Q) : sl_At l f pc ls (vR o i :: st) M Q := by
  subst hnz
  exact r_alen ho ha ht hw hd kk
end R
