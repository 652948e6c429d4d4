section R
variable {l : Launch} {f : sl_F} {pc : Nat} {ls : sl_L} {st : List sl_V} {M : sl_M} {Q : sl_R}
theorem sl_wr_s {o i : Nat} {j v : Int} : sl_wr M o i j v o i j = v := by
  unfold sl_wr
  rw [if_pos ⟨rfl, rfl, rfl⟩]
theorem r_putI {ci o k idx N : Nat} {C : String} {T : u_T} {ty : Nat → FieldType} (ck : sl_CK ci C T N ty) (ho : sl_cls o = ci) (hw : sl_wof ci = f.wd) (hk : k < N) (hr : sl_isr ci k = false) (hT : (T k).1 = C) (hfin : (T k).2.2.2 = false) (hty : ty k = .int) (hl : Cond.fieldLink f.own idx C (T k).2.1 (T k).2.2.1 ∈ sl_GL) {z : Int} (hz : sl_rg z) (hd : decode f.cd pc = .ok (.putfield idx, 3)) (kk : sl_At l f (pc + 3) ls st (sl_wr M o 0 k z) Q) : sl_At l f pc ls (vI z :: vR o 0 :: st) M Q := by
  refine sl_put ck ho hw hk hT hfin hl (v := vI z) hz (fun G => by rw [hty]; rfl) (fun G => by rw [hty]; rfl) (fun G => ?_) hd kk
  unfold sl_fv
  rw [ho, hr, sl_wr_s]
  rfl
theorem r_putZ {ci o k idx N : Nat} {C : String} {T : u_T} {ty : Nat → FieldType} (ck : sl_CK ci C T N ty) (ho : sl_cls o = ci) (hw : sl_wof ci = f.wd) (hk : k < N) (hr : sl_isr ci k = false) (hT : (T k).1 = C) (hfin : (T k).2.2.2 = false) (hty : ty k = .boolean) (hl : Cond.fieldLink f.own idx C (T k).2.1 (T k).2.2.1 ∈ sl_GL) {z : Int} (hz : z = 0 ∨ z = 1) (hd : decode f.cd pc = .ok (.putfield idx, 3)) (kk : sl_At l f (pc + 3) ls st (sl_wr M o 0 k z) Q) : sl_At l f pc ls (vI z :: vR o 0 :: st) M Q := by
  refine sl_put ck ho hw hk hT hfin hl (v := vI z) (by rcases hz with rfl | rfl <;> exact ⟨by decide, by decide⟩) (fun G => by rw [hty]; rcases hz with rfl | rfl <;> rfl) (fun G => by rw [hty]; rcases hz with rfl | rfl <;> rfl) (fun G => ?_) hd kk
  unfold sl_fv
  rw [ho, hr, sl_wr_s]
  rfl
/-- a reference is stored: to a state, to a code, to the text -/
theorem r_putS {o s idx : Nat} (ho : sl_cls o = 1) (hw : f.wd = 0) (hs : s < 100) (hl : Cond.fieldLink f.own idx RX1 (TX1 0).2.1 (TX1 0).2.2.1 ∈ sl_GL) (hd : decode f.cd pc = .ok (.putfield idx, 3)) (kk : sl_At l f (pc + 3) ls st (sl_wr M o 0 0 (s + 1)) Q) : sl_At l f pc ls (vR s 0 :: vR o 0 :: st) M Q := by
  refine sl_put (k := 0) ckX1 ho hw.symm (by decide) rfl rfl hl (v := vR s 0) (z := s + 1) (by unfold sl_rg; omega) (fun G => rfl) (fun G => rfl) (fun G => ?_) hd kk
  have e : sl_wr M o 0 0 (s + 1) o 0 0 = s + 1 := sl_wr_s
  have e2 : sl_rf (sl_wr M o 0 0 (s + 1)) 1 o 0 = some (s, 0) := by
    show sl_dec (sl_wr M o 0 0 (s + 1) o 0 0) = some (s, 0)
    rw [e]
    unfold sl_dec
    rw [if_neg (by omega)]
    congr 2
    omega
  unfold sl_fv
  rw [ho]
  show va_rf ((sl_rf (sl_wr M o 0 0 (s + 1)) 1 o 0).map _) = _
  rw [e2]
  rfl
theorem r_putC {o s idx : Nat} (ho : sl_cls o = 4) (hw : f.wd = 0) (hs : s < 100) (hl : Cond.fieldLink f.own idx RX4 (TX4 2).2.1 (TX4 2).2.2.1 ∈ sl_GL) (hd : decode f.cd pc = .ok (.putfield idx, 3)) (kk : sl_At l f (pc + 3) ls st (sl_wr M o 0 2 (s + 1)) Q) : sl_At l f pc ls (vR s 0 :: vR o 0 :: st) M Q := by
  refine sl_put (k := 2) ckX4 ho hw.symm (by decide) rfl rfl hl (v := vR s 0) (z := s + 1) (by unfold sl_rg; omega) (fun G => rfl) (fun G => rfl) (fun G => ?_) hd kk
  have e : sl_wr M o 0 2 (s + 1) o 0 2 = s + 1 := sl_wr_s
  have e2 : sl_rf (sl_wr M o 0 2 (s + 1)) 4 o 2 = some (s, 0) := by
    show sl_dec (sl_wr M o 0 2 (s + 1) o 0 2) = some (s, 0)
    rw [e]
    unfold sl_dec
    rw [if_neg (by omega)]
    congr 2
    omega
  unfold sl_fv
  rw [ho]
  show va_rf ((sl_rf (sl_wr M o 0 2 (s + 1)) 4 o 2).map _) = _
  rw [e2]
  rfl
theorem r_putT {o idx : Nat} (ho : sl_cls o = 4) (hw : f.wd = 0) (hl : Cond.fieldLink f.own idx RX4 (TX4 0).2.1 (TX4 0).2.2.1 ∈ sl_GL) (hd : decode f.cd pc = .ok (.putfield idx, 3)) (kk : sl_At l f (pc + 3) ls st (sl_wr M o 0 0 1) Q) : sl_At l f pc ls (vR 0 1 :: vR o 0 :: st) M Q := by
  refine sl_put (k := 0) ckX4 ho hw.symm (by decide) rfl rfl hl (v := vR 0 1) (z := 1) ⟨by decide, by decide⟩ (fun G => rfl) (fun G => rfl) (fun G => ?_) hd kk
  have e : sl_wr M o 0 0 1 o 0 0 = 1 := sl_wr_s
  have e2 : sl_rf (sl_wr M o 0 0 1) 4 o 0 = some (0, 1) := by
    show (if sl_wr M o 0 0 1 o 0 0 = 0 then none else some (0, 1)) = some (0, 1)
    rw [e]
    rfl
  unfold sl_fv
  rw [ho]
  show va_rf ((sl_rf (sl_wr M o 0 0 1) 4 o 0).map _) = _
  rw [e2]
  rfl
/-! rows -/
theorem sl_ar0 (ci : Nat) : sl_ar ci 0 = none := by
  unfold sl_ar
  split <;> rfl
theorem sl_ne0 {ci i t n : Nat} (h : sl_ar ci i = some (t, n)) : i ≠ 0 := by
  rintro rfl
  rw [sl_ar0] at h
  cases h
theorem sl_ar_dec : ∀ ci, ci < 11 → ∀ i, i < 66 → ((sl_ar ci i).map Prod.snd).getD 0 ≤ 5940 := by decide +kernel
theorem sl_ar_out {ci i : Nat} (h : 11 ≤ ci) : sl_ar ci i = none := by
  unfold sl_ar
  split <;> first | rfl | omega
theorem sl_ar_n {ci i t n : Nat} (h : sl_ar ci i = some (t, n)) : n ≤ 5940 ∧ ci < 11 := by
  have hc : ci < 11 := Nat.lt_of_not_le fun q => by rw [sl_ar_out q] at h; cases h
  have hi : i < 66 := sl_ar_lt (by rw [h]; rfl)
  have := sl_ar_dec ci hc i hi
  rw [h] at this
  exact ⟨this, hc⟩
theorem sl_bd {j : Int} {n : Nat} (hj : 0 ≤ j ∧ j < n) (hn : n ≤ 5940) : vp_in (Int32.ofInt j) n ∧ ((Int32.ofInt j).toNatClampNeg : Int) = j := by
  have hr : sl_rg j := by unfold sl_rg; omega
  have h1 : (Int32.ofInt j).toInt = j := sl_ti hr
  have h2 : (Int32.ofInt j).toNatClampNeg = j.toNat := by rw [← Int32.toNat_toInt, h1]
  refine ⟨?_, by rw [h2]; omega⟩
  unfold vp_in
  rw [h2]
  rintro (h | h)
  · have := (sl_lt32 hr sl_rg0).mp h
    omega
  · omega
theorem r_iald {ci o i n : Nat} {j : Int} (ho : sl_cls o = ci) (ha : sl_ar ci i = some (0, n)) (hw : sl_wof ci = f.wd) (hj : 0 ≤ j ∧ j < n) (hd : decode f.cd pc = .ok (.iaload, 1)) (kk : sl_At l f (pc + 1) ls (vI (M o i j) :: st) M Q) : sl_At l f pc ls (vI j :: vR o i :: st) M Q := by
  intro hM hls G p e s m args below meth c Cx H locs arr hW hS hv
  obtain ⟨hn, hci⟩ := sl_ar_n ha
  obtain ⟨q, -, hq⟩ := sl_ix (G := G) (M := M) (sl_mem (i := i) ho hci (Or.inr (by rw [ha]; rfl)) hw)
  rw [sl_cell_int ho ha (by decide) (sl_ne0 ha)] at hq
  obtain ⟨b1, b2⟩ := sl_bd hj hn
  refine va_iald Cx.1 Cx.2.1 Cx.2.2.2.2.2.2.2.1.1 hW q 0 hq rfl b1 hd ?_
  show W _ _ _ _ _ _ _ _ _ _ _ _ _ _ _ (F0 m (pc + 1) arr (.int (Int32.ofInt (M o i ((Int32.ofInt j).toNatClampNeg : Nat))) :: st.map (sl_cv G)))
  rw [b2]
  exact kk hM hls G p e s m args below meth c Cx H locs arr hW hS hv
theorem r_bald {ci o i n : Nat} {j : Int} (ho : sl_cls o = ci) (ha : sl_ar ci i = some (1, n)) (hw : sl_wof ci = f.wd) (hj : 0 ≤ j ∧ j < n) (hd : decode f.cd pc = .ok (.baload, 1)) (kk : sl_At l f (pc + 1) ls (vI (M o i j) :: st) M Q) : sl_At l f pc ls (vI j :: vR o i :: st) M Q := by
  intro hM hls G p e s m args below meth c Cx H locs arr hW hS hv
  obtain ⟨hn, hci⟩ := sl_ar_n ha
  obtain ⟨q, -, hq⟩ := sl_ix (G := G) (M := M) (sl_mem (i := i) ho hci (Or.inr (by rw [ha]; rfl)) hw)
  rw [sl_cell_int ho ha (by decide) (sl_ne0 ha)] at hq
  obtain ⟨b1, b2⟩ := sl_bd hj hn
  refine va_zald Cx.1 Cx.2.1 Cx.2.2.2.2.2.2.2.1.1 hW q 1 hq rfl b1 hd ?_
  show W _ _ _ _ _ _ _ _ _ _ _ _ _ _ _ (F0 m (pc + 1) arr (.int (Int32.ofInt (M o i ((Int32.ofInt j).toNatClampNeg : Nat))) :: st.map (sl_cv G)))
  rw [b2]
  exact kk hM hls G p e s m args below meth c Cx H locs arr hW hS hv
theorem r_aald {ci o i t n : Nat} {j : Int} {C : String} (ho : sl_cls o = ci) (ha : sl_ar ci i = some (t, n)) (hC : ∀ G : sl_G, (sl_tys G)[t]? = some (G.2.1 t, .object C)) (ht : ¬ t < 2) (hw : sl_wof ci = f.wd) (hj : 0 ≤ j ∧ j < n) (hd : decode f.cd pc = .ok (.aaload, 1)) (kk : sl_At l f (pc + 1) ls (vR (sl_ra o j.toNat).1 (sl_ra o j.toNat).2 :: st) M Q) : sl_At l f pc ls (vI j :: vR o i :: st) M Q := by
  intro hM hls G p e s m args below meth c Cx H locs arr hW hS hv
  obtain ⟨hn, hci⟩ := sl_ar_n ha
  obtain ⟨q, -, hq⟩ := sl_ix (G := G) (M := M) (sl_mem (i := i) ho hci (Or.inr (by rw [ha]; rfl)) hw)
  rw [sl_cell_ref ho ha ht (sl_ne0 ha)] at hq
  obtain ⟨b1, b2⟩ := sl_bd hj hn
  have b3 : (Int32.ofInt j).toNatClampNeg = j.toNat := by omega
  refine va_aldq Cx.1 Cx.2.1 Cx.2.2.2.2.2.2.2.1.1 hW q t hq (hC G) b1 hd ?_
  rw [b3]
  exact kk hM hls G p e s m args below meth c Cx H locs arr hW hS hv
theorem r_alen {ci o i t n : Nat} (ho : sl_cls o = ci) (ha : sl_ar ci i = some (t, n)) (ht : t = 0) (hw : sl_wof ci = f.wd) (hd : decode f.cd pc = .ok (.arraylength, 1)) (kk : sl_At l f (pc + 1) ls (vI n :: st) M Q) : sl_At l f pc ls (vR o i :: st) M Q := by
  subst ht
  intro hM hls G p e s m args below meth c Cx H locs arr hW hS hv
  obtain ⟨hn, hci⟩ := sl_ar_n ha
  obtain ⟨q, -, hq⟩ := sl_ix (G := G) (M := M) (sl_mem (i := i) ho hci (Or.inr (by rw [ha]; rfl)) hw)
  rw [sl_cell_int ho ha (by decide) (sl_ne0 ha)] at hq
  exact va_alen Cx.1 Cx.2.1 Cx.2.2.2.2.2.2.2.1.1 hW q 0 hq rfl (v := Int32.ofInt n) rfl hd (kk hM hls G p e s m args below meth c Cx H locs arr hW hS hv)
theorem sl_cell_wr {cA : Nat → ClassId} {ad : Nat → Nat → Nat} {o i ci t n : Nat} {j v : Int} (ho : sl_cls o = ci) (ha : sl_ar ci i = some (t, n)) (ht : t < 2) (h0 : 0 ≤ j) : sl_cell cA ad (sl_wr M o i j v) (o, i) = .inl (cA t, n, .inl (upd (fun q : Nat => Int32.ofInt (M o i (q : Nat))) j.toNat (Int32.ofInt v))) := by
  rw [sl_cell_int ho ha ht (sl_ne0 ha)]
  congr 4
  funext q
  unfold upd sl_wr
  by_cases h : q = j.toNat
  · rw [if_pos h, if_pos ⟨rfl, rfl, by omega⟩]
  · rw [if_neg h, if_neg (fun z => h (by omega))]
theorem r_iast {ci o i n : Nat} {j v : Int} (ho : sl_cls o = ci) (ha : sl_ar ci i = some (0, n)) (hw : sl_wof ci = f.wd) (hj : 0 ≤ j ∧ j < n) (hv1 : sl_rg v) (hd : decode f.cd pc = .ok (.iastore, 1)) (kk : sl_At l f (pc + 1) ls st (sl_wr M o i j v) Q) : sl_At l f pc ls (vI v :: vI j :: vR o i :: st) M Q := by
  intro hM hls G p e s m args below meth c Cx H locs arr hW hS hv
  obtain ⟨hn, hci⟩ := sl_ar_n ha
  obtain ⟨q, hq0, hq⟩ := sl_ix (G := G) (M := M) (sl_mem (i := i) ho hci (Or.inr (by rw [ha]; rfl)) hw)
  have hnd : (sl_pl f.wd).Nodup := by rw [← hw]; exact sl_nd
  have hset := sl_ws_set (G := G) (M := M) (N := sl_wr M o i j v) hnd hq0 (fun o' i' j h => sl_wr_o o' i' j h)
  rw [sl_cell_wr ho ha (by decide) hj.1] at hset
  rw [sl_cell_int ho ha (by decide) (sl_ne0 ha)] at hq
  obtain ⟨b1, b2⟩ := sl_bd hj hn
  have b3 : (Int32.ofInt j).toNatClampNeg = j.toNat := by omega
  refine va_iast Cx.1 Cx.2.1 Cx.2.2.2.2.2.2.2.1.1 hW (sl_D hnd Cx.2.2.2.2.2.2.2.2) hS q 0 hq rfl b1 hd (fun H1 locs1 hP1 hD1 hS1 => ?_)
  rw [b3, hset] at hP1
  exact kk (sl_wr_RM hM hv1) hls G p e s m args below meth c Cx H1 locs1 arr hP1 hS1 hv
theorem r_bast {ci o i n : Nat} {j v : Int} (ho : sl_cls o = ci) (ha : sl_ar ci i = some (1, n)) (hw : sl_wof ci = f.wd) (hj : 0 ≤ j ∧ j < n) (hv1 : v = 0 ∨ v = 1) (hd : decode f.cd pc = .ok (.bastore, 1)) (kk : sl_At l f (pc + 1) ls st (sl_wr M o i j v) Q) : sl_At l f pc ls (vI v :: vI j :: vR o i :: st) M Q := by
  intro hM hls G p e s m args below meth c Cx H locs arr hW hS hv
  obtain ⟨hn, hci⟩ := sl_ar_n ha
  obtain ⟨q, hq0, hq⟩ := sl_ix (G := G) (M := M) (sl_mem (i := i) ho hci (Or.inr (by rw [ha]; rfl)) hw)
  have hnd : (sl_pl f.wd).Nodup := by rw [← hw]; exact sl_nd
  have hset := sl_ws_set (G := G) (M := M) (N := sl_wr M o i j v) hnd hq0 (fun o' i' j h => sl_wr_o o' i' j h)
  rw [sl_cell_wr ho ha (by decide) hj.1] at hset
  rw [sl_cell_int ho ha (by decide) (sl_ne0 ha)] at hq
  obtain ⟨b1, b2⟩ := sl_bd hj hn
  have b3 : (Int32.ofInt j).toNatClampNeg = j.toNat := by omega
  have b4 : vp_nar .boolean (Int32.ofInt v) = Int32.ofInt v := by rcases hv1 with rfl | rfl <;> decide
  refine va_zast Cx.1 Cx.2.1 Cx.2.2.2.2.2.2.2.1.1 hW (sl_D hnd Cx.2.2.2.2.2.2.2.2) hS q 1 hq rfl b1 hd (fun H1 locs1 hP1 hD1 hS1 => ?_)
  rw [b3, b4, hset] at hP1
  exact kk (sl_wr_RM hM (by rcases hv1 with rfl | rfl <;> exact ⟨by decide, by decide⟩)) hls G p e s m args below meth c Cx H1 locs1 arr hP1 hS1 hv
end R
