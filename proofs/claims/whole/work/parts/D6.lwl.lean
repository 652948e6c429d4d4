/-! The law: its loop -/
theorem lw_ni {i : Nat} (h : i ≤ 2560) : (Int32.ofInt (i : Int)).toInt = (i : Int) := sl_ti ⟨by omega, by omega⟩
theorem lw_l5 {L : Nat} (h : L ≤ 2560) : (Int32.ofNat L - 5).toInt = (L : Int) - 5 := by
  have e : Int32.ofNat L - 5 = Int32.ofInt ((L : Int) - 5) := by rw [Int32.ofInt_sub]; rfl
  rw [e]
  exact sl_ti ⟨by omega, by omega⟩
theorem lw_cmp {i L : Nat} (h : L ≤ 2560) (hi : i ≤ L) (g : L < i + 5) : Int32.ofNat L - 5 < Int32.ofInt (i : Int) := by
  rw [Int32.lt_iff_toInt_lt, lw_l5 h, lw_ni (by omega)]; omega
theorem lw_cmp0 {i L : Nat} (h : L ≤ 2560) (hi : i ≤ L) (g : ¬ Int32.ofNat L - 5 < Int32.ofInt (i : Int)) : i + 4 < L := by
  rw [Int32.lt_iff_toInt_lt, lw_l5 h, lw_ni (by omega)] at g; omega
theorem lw_in {i L : Nat} (h : L ≤ 2560) (hi : i < L) : vp_in (Int32.ofInt (i : Int)) L := by
  have e2 := lw_ni (i := i) (by omega)
  intro z
  rcases z with z | z
  · have := Int32.lt_iff_toInt_lt.mp z
    rw [e2] at this
    have h0 : (0 : Int32).toInt = 0 := rfl
    omega
  · rw [show (Int32.ofInt (i : Int)).toNatClampNeg = (Int32.ofInt (i : Int)).toInt.toNat from rfl, e2] at z
    omega
section LC
variable {p : Program} {l : Launch} {e : Env} {s : State} {m : MethodId} {below : List Frame} {meth : Method} {c : Code} {b L : Nat} {xs : Nat → Int32} {G : sl_G} {H : Heap} {locs : List Loc} {k w : Nat} {arr : Array Slot} {Qz : State → Prop}
theorem lw_loop (C0 : lw_At p s m meth c b L xs) (hL : L ≤ 2560) (hK : sl_K G s) (hG : lwG G s.heap.size) : ∀ (r i : Nat) (n : Int) (Mc Mr : sl_M) (H : Heap) (locs : List Loc) (arr : Array Slot), L < i + 5 + r → i ≤ L → n ≤ (i : Int) → Jv n Mc Mr → lwH G s Mc Mr H locs → lv_has arr 4 [(3, .int (Int32.ofInt (i : Int))), (2, .ref (G.2.2 1 0)), (1, .ref (G.2.2 0 0)), (0, .ref b)] → W p l e room_1 s m #[Value.ref b] below meth c H locs 600000 7302250 (lw_Z below #[Value.ref b] s) (F0 m 18 arr []) := by
  obtain ⟨hx, hb, hr, hml, hown, hts, hX, hbl, hlocks, hgv⟩ := id C0
  have hbA : ¬ (fun q : Nat => s.heap.size ≤ q) b := Nat.not_le.mpr hbl
  intro r
  induction r with
  | zero =>
    intro i n Mc Mr H locs arr hr0 hiL hni hJ hH hv
    refine lv_iload_n hx hb dw_18 rfl (lv_at hv 0 rfl) ?_
    refine lv_aload_n hx hb dw_19 rfl (lv_at hv 3 rfl) ?_
    refine va_slen (A := fun q => s.heap.size ≤ q) hx hb hX hbl hbA hH.2.2 dw_20 ?_
    refine lv_iconst (v := 5) hx hb dw_21 (by decide) ?_
    refine lv_isub hx hb dw_22 ?_
    refine lv_icmp_gt hx hb (tgt := 738) dw_23 rfl (fun _ => ?_) (fun z => (z (lw_cmp hL hiL (by omega))).elim)
    refine va_forget (fun q hq => hH.2.2.2.2 q hq) ?_
    refine lv_iconst (v := 1) hx hb dw_738 (by decide) ?_
    exact lw_ret hx hb hr hlocks dw_739
  | succ r ih =>
    intro i n Mc Mr H locs arr hr0 hiL hni hJ hH hv
    refine lv_iload_n hx hb dw_18 rfl (lv_at hv 0 rfl) ?_
    refine lv_aload_n hx hb dw_19 rfl (lv_at hv 3 rfl) ?_
    refine va_slen (A := fun q => s.heap.size ≤ q) hx hb hX hbl hbA hH.2.2 dw_20 ?_
    refine lv_iconst (v := 5) hx hb dw_21 (by decide) ?_
    refine lv_isub hx hb dw_22 ?_
    refine lv_icmp_gt hx hb (tgt := 738) dw_23 rfl (fun _ => ?_) (fun z => ?_)
    · refine va_forget (fun q hq => hH.2.2.2.2 q hq) ?_
      refine lv_iconst (v := 1) hx hb dw_738 (by decide) ?_
      exact lw_ret hx hb hr hlocks dw_739
    have hi : i + 4 < L := lw_cmp0 hL hiL z
    have hk : 600000 ≤ room_1.cells ∧ 7302250 ≤ room_1.slots := ⟨nle, nle⟩
    have hn : n ≤ 1000000 := by omega
    have next : ∀ (Nc Nr : sl_M) (H2 : Heap) (locs2 : List Loc), Jv (n + 1) Nc Nr → lwH G s Nc Nr H2 locs2 → W p l e room_1 s m #[Value.ref b] below meth c H2 locs2 600000 7302250 (lw_Z below #[Value.ref b] s) (F0 m 732 arr []) := by
      intro Nc Nr H2 locs2 hJ2 hH2
      refine lv_iinc (v := Int32.ofInt ((i + 5 : Nat) : Int)) (lv' := [(3, .int (Int32.ofInt ((i + 5 : Nat) : Int))), (2, .ref (G.2.2 1 0)), (1, .ref (G.2.2 0 0)), (0, .ref b)]) (k := 0) hx hb dw_732 hv rfl (by rw [← Int32.ofInt_add]; rfl) (by decide) rfl (fun arr' hv' => ?_)
      refine lv_goto hx hb (tgt := 18) dw_735 rfl ?_
      exact ih (i + 5) (n + 1) Nc Nr H2 locs2 arr' (by omega) (by omega) (by omega) hJ2 hH2 hv'
    refine lv_aload_n hx hb dw_26 rfl (lv_at hv 3 rfl) ?_
    refine lv_iload_n hx hb dw_27 rfl (lv_at hv 0 rfl) ?_
    refine va_sld (A := fun q => s.heap.size ≤ q) hx hb hX hbl hbA hH.2.2 (i := Int32.ofInt (i : Int)) (lw_in hL (by omega)) dw_28 ?_
    refine lv_bipush (v := 31) hx hb dw_29 (by decide) ?_
    refine lv_iand hx hb dw_31 ?_
    refine lv_topi (fun y _ => ?_)
    by_cases hy : y.toInt < 0 ∨ 18 < y.toInt
    · exact lv_tableOut hx hb (tgt := 732) dw_32 hy rfl (next Mc Mr H locs (hJ.imp fun _ q => q.le (by omega)) hH)
    · have hy' : y.toInt = 0 ∨ y.toInt = 1 ∨ y.toInt = 2 ∨ y.toInt = 3 ∨ y.toInt = 4 ∨ y.toInt = 5 ∨ y.toInt = 6 ∨ y.toInt = 7 ∨ y.toInt = 8 ∨ y.toInt = 9 ∨ y.toInt = 10 ∨ y.toInt = 11 ∨ y.toInt = 12 ∨ y.toInt = 13 ∨ y.toInt = 14 ∨ y.toInt = 15 ∨ y.toInt = 16 ∨ y.toInt = 17 ∨ y.toInt = 18 := by omega
      rcases hy' with h | h | h | h | h | h | h | h | h | h | h | h | h | h | h | h | h | h | h
      · exact lv_tableIn hx hb (tgt := 124) dw_32 (by omega) (by omega) (off := 92) (by rw [h]; rfl) rfl (lc_type C0 hL hK hG hk hi hJ hn hH hv next)
      · exact lv_tableIn hx hb (tgt := 147) dw_32 (by omega) (by omega) (off := 115) (by rw [h]; rfl) rfl (lc_clear C0 hL hK hG hk hi hJ hn hH hv next)
      · exact lv_tableIn hx hb (tgt := 160) dw_32 (by omega) (by omega) (off := 128) (by rw [h]; rfl) rfl (lc_reads C0 hL hK hG hk hi hJ hn hH hv next)
      · exact lv_tableIn hx hb (tgt := 173) dw_32 (by omega) (by omega) (off := 141) (by rw [h]; rfl) rfl (lc_statement C0 hL hK hG hk hi hJ hn hH hv next)
      · exact lv_tableIn hx hb (tgt := 206) dw_32 (by omega) (by omega) (off := 174) (by rw [h]; rfl) rfl (lc_sign C0 hL hK hG hk hi hJ hn hH hv next)
      · exact lv_tableIn hx hb (tgt := 239) dw_32 (by omega) (by omega) (off := 207) (by rw [h]; rfl) rfl (lc_runs C0 hL hK hG hk hi hJ hn hH hv next)
      · exact lv_tableIn hx hb (tgt := 272) dw_32 (by omega) (by omega) (off := 240) (by rw [h]; rfl) rfl (lc_ran C0 hL hK hG hk hi hJ hn hH hv next)
      · exact lv_tableIn hx hb (tgt := 305) dw_32 (by omega) (by omega) (off := 273) (by rw [h]; rfl) rfl (lc_span C0 hL hK hG hk hi hJ hn hH hv next)
      · exact lv_tableIn hx hb (tgt := 348) dw_32 (by omega) (by omega) (off := 316) (by rw [h]; rfl) rfl (lc_hands C0 hL hK hG hk hi hJ hn hH hv next)
      · exact lv_tableIn hx hb (tgt := 401) dw_32 (by omega) (by omega) (off := 369) (by rw [h]; rfl) rfl (lc_live C0 hL hK hG hk hi hJ hn hH hv next)
      · exact lv_tableIn hx hb (tgt := 454) dw_32 (by omega) (by omega) (off := 422) (by rw [h]; rfl) rfl (lc_sure C0 hL hK hG hk hi hJ hn hH hv next)
      · exact lv_tableIn hx hb (tgt := 487) dw_32 (by omega) (by omega) (off := 455) (by rw [h]; rfl) rfl (lc_alike C0 hL hK hG hk hi hJ hn hH hv next)
      · exact lv_tableIn hx hb (tgt := 540) dw_32 (by omega) (by omega) (off := 508) (by rw [h]; rfl) rfl (lc_lifts C0 hL hK hG hk hi hJ hn hH hv next)
      · exact lv_tableIn hx hb (tgt := 583) dw_32 (by omega) (by omega) (off := 551) (by rw [h]; rfl) rfl (lc_method C0 hL hK hG hk hi hJ hn hH hv next)
      · exact lv_tableIn hx hb (tgt := 616) dw_32 (by omega) (by omega) (off := 584) (by rw [h]; rfl) rfl (lc_formal C0 hL hK hG hk hi hJ hn hH hv next)
      · exact lv_tableIn hx hb (tgt := 659) dw_32 (by omega) (by omega) (off := 627) (by rw [h]; rfl) rfl (lc_settles C0 hL hK hG hk hi hJ hn hH hv next)
      · exact lv_tableIn hx hb (tgt := 682) dw_32 (by omega) (by omega) (off := 650) (by rw [h]; rfl) rfl (lc_back C0 hL hK hG hk hi hJ hn hH hv next)
      · exact lv_tableIn hx hb (tgt := 695) dw_32 (by omega) (by omega) (off := 663) (by rw [h]; rfl) rfl (lc_told C0 hL hK hG hk hi hJ hn hH hv next)
      · exact lv_tableIn hx hb (tgt := 718) dw_32 (by omega) (by omega) (off := 686) (by rw [h]; rfl) rfl (lc_digest C0 hL hK hG hk hi hJ hn hH hv next)
end LC
