/-! The cells: places, reads, writes -/
theorem sl_cls_lt {o : Nat} (h : sl_cls o < 11) : o < 84 := by
  refine Nat.lt_of_not_le fun q => ?_
  unfold sl_cls at h
  repeat rw [if_neg (by omega)] at h
  omega
theorem sl_ar_ge {ci i : Nat} (h : 66 ≤ i) : sl_ar ci i = none := by
  unfold sl_ar
  split <;> first | rfl | (repeat rw [if_neg (by omega)])
theorem sl_ar_lt {ci i : Nat} (h : (sl_ar ci i).isSome = true) : i < 66 := by
  refine Nat.lt_of_not_le fun q => ?_
  rw [sl_ar_ge q] at h
  cases h
theorem sl_ndinj {L : List (Nat × Nat)} (hd : L.Nodup) {i j : Nat} {a : Nat × Nat} (h1 : L[i]? = some a) (h2 : L[j]? = some a) : i = j := by
  obtain ⟨l1, e1⟩ := List.getElem?_eq_some_iff.mp h1
  obtain ⟨l2, e2⟩ := List.getElem?_eq_some_iff.mp h2
  have h := List.pairwise_iff_getElem.mp hd
  rcases Nat.lt_trichotomy i j with q | q | q
  · exact absurd (e1.trans e2.symm) (h i j l1 l2 q)
  · exact q
  · exact absurd (e2.trans e1.symm) (h j i l2 l1 q)
theorem sl_mem {o i ci : Nat} (ho : sl_cls o = ci) (hc : ci < 11) (hi : i = 0 ∨ (sl_ar ci i).isSome = true) {w : Nat} (hw : sl_wof ci = w) : (o, i) ∈ sl_pl w := by
  subst ho
  unfold sl_pl
  refine List.mem_flatMap.mpr ⟨o, List.mem_range.mpr (Nat.lt_of_lt_of_le (sl_cls_lt hc) (by decide)), List.mem_filterMap.mpr ⟨i, List.mem_range.mpr ?_, if_pos ⟨⟨hc, hw⟩, hi⟩⟩⟩
  rcases hi with rfl | hi
  · decide
  · exact sl_ar_lt hi
theorem sl_nd0 : (sl_pl 0).Nodup := by decide +kernel
theorem sl_nd1 : (sl_pl 1).Nodup := by decide +kernel
theorem sl_nd {ci : Nat} : (sl_pl (sl_wof ci)).Nodup := by
  unfold sl_wof
  split
  · exact sl_nd1
  · exact sl_nd0
theorem sl_cell_congr {cA : Nat → ClassId} {ad : Nat → Nat → Nat} {M N : sl_M} {q : Nat × Nat} (h : ∀ j, N q.1 q.2 j = M q.1 q.2 j) : sl_cell cA ad N q = sl_cell cA ad M q := by
  obtain ⟨o, i⟩ := q
  unfold sl_cell
  dsimp only at h ⊢
  split
  · next h0 =>
    subst h0
    congr 2
    refine List.map_congr_left fun k _ => ?_
    unfold sl_fv
    rw [h]
    have : sl_rf N (sl_cls o) o k = sl_rf M (sl_cls o) o k := by
      unfold sl_rf
      simp only [h]
    rw [this]
  · simp only [h]
theorem sl_cell_obj {cA : Nat → ClassId} {ad : Nat → Nat → Nat} {M : sl_M} {o ci : Nat} (ho : sl_cls o = ci) : sl_cell cA ad M (o, 0) = .inr (ci, (List.range (sl_nf ci)).map (fun k => sl_fv ad M o k)) := by
  subst ho
  rfl
theorem sl_cell_int {cA : Nat → ClassId} {ad : Nat → Nat → Nat} {M : sl_M} {o i ci t n : Nat} (ho : sl_cls o = ci) (ha : sl_ar ci i = some (t, n)) (ht : t < 2) (hi : i ≠ 0) : sl_cell cA ad M (o, i) = .inl (cA t, n, .inl (fun j => Int32.ofInt (M o i (j : Nat)))) := by
  subst ho
  unfold sl_cell
  rw [if_neg hi]
  dsimp only
  rw [ha]
  dsimp only
  rw [if_pos ht]
theorem sl_cell_ref {cA : Nat → ClassId} {ad : Nat → Nat → Nat} {M : sl_M} {o i ci t n : Nat} (ho : sl_cls o = ci) (ha : sl_ar ci i = some (t, n)) (ht : ¬ t < 2) (hi : i ≠ 0) : sl_cell cA ad M (o, i) = .inl (cA t, n, .inr (.inr (.inr (.inr (fun j => some (ad (sl_ra o j).1 (sl_ra o j).2)))))) := by
  subst ho
  unfold sl_cell
  rw [if_neg hi]
  dsimp only
  rw [ha]
  dsimp only
  rw [if_neg ht]
theorem sl_ix {G : sl_G} {w : Nat} {M : sl_M} {o i : Nat} (h : (o, i) ∈ sl_pl w) : ∃ n : Nat, (sl_pl w)[n]? = some (o, i) ∧ (sl_ws G w M)[n]? = some (G.2.2 o i, sl_cell G.2.1 G.2.2 M (o, i)) := by
  obtain ⟨n, hn⟩ := List.getElem?_of_mem h
  exact ⟨n, hn, by rw [sl_ws, List.getElem?_map, hn]; rfl⟩
theorem sl_ws_set {G : sl_G} {w : Nat} {M N : sl_M} {o i n : Nat} (hd : (sl_pl w).Nodup) (hn : (sl_pl w)[n]? = some (o, i)) (hs : ∀ o' i' j, (o', i') ≠ (o, i) → N o' i' j = M o' i' j) : (sl_ws G w M).set n (G.2.2 o i, sl_cell G.2.1 G.2.2 N (o, i)) = sl_ws G w N := by
  refine List.ext_getElem? fun k => ?_
  rw [List.getElem?_set]
  by_cases hk : n = k
  · subst hk
    rw [if_pos rfl]
    have hl : n < (sl_ws G w M).length := by
      rw [sl_ws, List.length_map]
      exact (List.getElem?_eq_some_iff.mp hn).1
    rw [if_pos hl, sl_ws, List.getElem?_map, hn]
    rfl
  · rw [if_neg hk, sl_ws, sl_ws, List.getElem?_map, List.getElem?_map]
    cases hq : (sl_pl w)[k]? with
    | none => rfl
    | some q =>
      show some (G.2.2 q.1 q.2, sl_cell G.2.1 G.2.2 M q) = some (G.2.2 q.1 q.2, sl_cell G.2.1 G.2.2 N q)
      rw [sl_cell_congr (M := M) (N := N) (q := q)]
      intro j
      refine hs q.1 q.2 j fun hqe => hk ?_
      have hq' : (sl_pl w)[k]? = some (o, i) := by rw [hq]; exact congrArg some hqe
      exact sl_ndinj hd hn hq'
theorem sl_D {G : sl_G} {w : Nat} {M : sl_M} (hd : (sl_pl w).Nodup) (h : sl_inj G w) : va_D (sl_A G w) (sl_ws G w M) := by
  refine ⟨fun i j x y hx hy hxy => ?_, fun k q hq => ?_⟩
  · rw [sl_ws, List.getElem?_map] at hx hy
    cases hi : (sl_pl w)[i]? with
    | none => rw [hi] at hx; cases hx
    | some a =>
      cases hj : (sl_pl w)[j]? with
      | none => rw [hj] at hy; cases hy
      | some b =>
        rw [hi] at hx; rw [hj] at hy
        cases hx; cases hy
        have hab := h a (List.mem_of_getElem? hi) b (List.mem_of_getElem? hj) hxy
        subst hab
        exact sl_ndinj hd hi hj
  · rw [sl_ws, List.getElem?_map] at hq
    cases hi : (sl_pl w)[k]? with
    | none => rw [hi] at hq; cases hq
    | some a =>
      rw [hi] at hq
      cases hq
      exact ⟨a, List.mem_of_getElem? hi, rfl⟩
/-- what the tables say of an own object's make -/
def sl_CK (ci : Nat) (C : String) (T : u_T) (N : Nat) (ty : Nat → FieldType) : Prop := vwCl[ci]? = some (C, T, N) ∧ (∀ w ∈ u_ws C T N, w ∈ sl_GL) ∧ (∀ k, k < N → parseFieldDescriptor (T k).2.2.1 = some (ty k)) ∧ (∀ a, a < N → ∀ b, b < N → a ≠ b → (T a).2.1 ≠ (T b).2.1) ∧ N = sl_nf ci ∧ ci < 11
set_option maxRecDepth 100000 in
theorem ckX0 : sl_CK 0 RX0 TX0 13 tyX0 := ⟨rfl, by decide +kernel, tyX0_ok, nmX0, rfl, by decide⟩
theorem ckX1 : sl_CK 1 RX1 TX1 6 tyX1 := ⟨rfl, by decide +kernel, tyX1_ok, nmX1, rfl, by decide⟩
theorem ckX2 : sl_CK 2 RX2 TX2 2 tyX2 := ⟨rfl, by decide +kernel, tyX2_ok, nmX2, rfl, by decide⟩
theorem ckX3 : sl_CK 3 RX3 TX3 10 tyX3 := ⟨rfl, by decide +kernel, tyX3_ok, nmX3, rfl, by decide⟩
theorem ckX4 : sl_CK 4 RX4 TX4 5 tyX4 := ⟨rfl, by decide +kernel, tyX4_ok, nmX4, rfl, by decide⟩
theorem ckX5 : sl_CK 5 RX5 TX5 5 tyX5 := ⟨rfl, by decide +kernel, tyX5_ok, nmX5, rfl, by decide⟩
theorem ckX6 : sl_CK 6 RX6 TX6 9 tyX6 := ⟨rfl, by decide +kernel, tyX6_ok, nmX6, rfl, by decide⟩
theorem ckX7 : sl_CK 7 RX7 TX7 4 tyX7 := ⟨rfl, by decide +kernel, tyX7_ok, nmX7, rfl, by decide⟩
theorem ckX8 : sl_CK 8 RX8 TX8 7 tyX8 := ⟨rfl, by decide +kernel, tyX8_ok, nmX8, rfl, by decide⟩
theorem ckX9 : sl_CK 9 RX9 TX9 11 tyX9 := ⟨rfl, by decide +kernel, tyX9_ok, nmX9, rfl, by decide⟩
theorem ckX10 : sl_CK 10 RX10 TX10 64 tyX10 := ⟨rfl, by decide +kernel, tyX10_ok, nmX10, rfl, by decide⟩
