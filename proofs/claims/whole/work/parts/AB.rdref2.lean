/-! The reference closes a block, and reads a text -/
theorem sp_idem {t : Int → Int} {L p : Int} (hp : p ≤ L) : sp t L (sp t L p) = sp t L p := by
  have : ∀ (n : Nat) (p : Int), p ≤ L → p + n = L → sp t L (sk t L n p) = sk t L n p := by
    intro n
    induction n with
    | zero => intro p h e; rw [sk]; exact sp_end (by omega)
    | succ n ih =>
      intro p h e
      rw [sk]
      by_cases c : L ≤ p
      · rw [if_pos c]; exact sp_end c
      · rw [if_neg c]
        by_cases c2 : t p ≠ 32
        · rw [if_pos c2]; exact sp_at (by omega) c2
        · rw [if_neg c2]; exact ih (p + 1) (by omega) (by omega)
  exact this _ _ hp (by omega)
section K
variable {l : Launch} {M : sl_M} {Q : sl_R} {t B k : Int → Int} {L q d p : Int}
/-- the top once a block is closed -/
theorem Sck.pop (h : Sck d B k) (hd : 0 < d) : tpo (d - 1) k = B (81 + k (d - 1)) := by
  have := (h (d - 1) (by omega) (by omega)).2.2.2.1
  rw [this]
theorem kX10_closes (h : Txt M t L) (hR : RRl M (q + 1) d B k) (hI : RIv L p d B k) (hd0 : 0 < d) (hq : p ≤ q ∧ q < L) (hQ : ∀ N r, r = rdC t L q d B k → FRd M N → RRl N r.2.1 r.2.2.1 r.2.2.2.1 r.2.2.2.2 → Q none N) : sl_Runs l mX10_closes [vR 1 0] M Q := by
  obtain ⟨h9, h12, hrow, hst⟩ := hR
  obtain ⟨hp, hd, hT, hS, hz⟩ := hI
  have n0 : 0 ≤ B 0 ∧ B 0 ≤ 40 := hT.1.n0
  have e0 : M 1 12 0 = B 0 := hrow 0 (by omega) (by omega) (by omega)
  obtain ⟨u1, u2, u3, u4, u5, u6⟩ := hS (d - 1) (by omega) (by omega)
  have et : tpo d k = k (d - 1) := if_neg (by omega)
  have et2 := hS.pop hd0
  have bt := fun j (j0 : 0 ≤ j) (h2 : B (81 + k (d - 1)) < j) (h3 : j < k (d - 1)) => hT.1.bt (k := k (d - 1)) (j := j) u1.1 u1.2 j0 h2 h3
  have pu : -1 ≤ B (81 + k (d - 1)) ∧ B (81 + k (d - 1)) < k (d - 1) := hT.1.pr (k := k (d - 1)) u1.1 u1.2
  have below : ∀ a, 0 ≤ a → a < d - 1 → k a < k (d - 1) := fun a a0 a1 => by
    have m := hS.mono hT.1 (d - 1 - 1 - a).toNat a (d - 1 - 1) a0 (by omega) (by omega)
    rw [if_neg (by omega)] at u4
    omega
  have s14 := (hst (d - 1) (by omega) (by omega)).1
  have s15 := (hst (d - 1) (by omega) (by omega)).2
  unfold rdC at hQ
  refine eX10_closes (vX10_closes_0 fun _ => ?_)
  rw [h12]
  refine ⟨by omega, fun M2 e2 => ?_⟩
  have f2 : ∀ (o i : Nat) (j : Int), ¬ (o = 1 ∧ i = 0 ∧ j = 12) → M2 o i j = M o i j := fun o i j z => by rw [e2]; simp only [sl_wr]; rw [if_neg z]
  have a12 : M2 1 0 12 = d - 1 := by rw [e2]; exact sl_wr_s
  have a14 : M2 1 14 (d - 1) = k (d - 1) := by rw [f2 1 14 _ (by omega)]; exact s14
  have a0 : M2 1 12 0 = B 0 := by rw [f2 1 12 0 (by omega)]; exact e0
  rw [a12, a14, a0]
  refine ⟨by omega, by omega, fun M5 e5 => ?_⟩
  have f5 : ∀ (o i : Nat) (j : Int), ¬ (o = 1 ∧ i = 12 ∧ j = 41 + k (d - 1)) → M5 o i j = M2 o i j := fun o i j z => by rw [e5]; simp only [sl_wr]; rw [if_neg z]
  have b1 : M5 1 12 (1 + k (d - 1)) = B (1 + k (d - 1)) := by rw [f5 1 12 _ (by omega), f2 1 12 _ (by omega)]; exact hrow _ (by omega) (by omega) (by omega)
  have b12 : M5 1 0 12 = d - 1 := by rw [f5 1 0 12 (by omega)]; exact a12
  have b15 : M5 1 15 (d - 1) = B (161 + k (d - 1)) := by rw [f5 1 15 _ (by omega), f2 1 15 _ (by omega)]; exact s15
  have b9 : M5 1 0 9 = q + 1 := by rw [f5 1 0 9 (by omega), f2 1 0 9 (by omega)]; exact h9
  have F5 : FRd M M5 := fun o i j z => by rw [f5 o i j (by omega), f2 o i j (by omega)]
  -- the block is closed for good
  have done : ∀ (N : sl_M) (p' : Int), (∀ (o i : Nat) (j : Int), ¬ (o = 1 ∧ i = 0 ∧ (j = 9 ∨ j = 10)) → N o i j = M5 o i j) → N 1 0 9 = p' → RRl N p' (d - 1) B k := by
    intro N p' fN n9
    refine ⟨n9, by rw [fN 1 0 12 (by omega)]; exact b12, fun j j0 j1 z => ?_, fun a a0 a1 => ?_⟩
    · rw [fN 1 12 j (by omega)]
      by_cases ej : j = 41 + k (d - 1)
      · rw [ej, e5, sl_wr_s, u3]
      · rw [f5 1 12 j (by omega), f2 1 12 j (by omega)]
        refine hrow j j0 j1 (fun w => z ?_)
        unfold exc at w ⊢
        rw [et] at w
        rw [et2]
        obtain ⟨w1, w2, w3, w4⟩ := w
        by_cases y : j - 41 ≤ B (81 + k (d - 1))
        · exact ⟨w1, w2, y, by omega⟩
        · have := bt (j - 41) (by omega) (by omega) (by omega)
          have e : tp B 3 (j - 41) = B (41 + (j - 41)) := rfl
          rw [e, show 41 + (j - 41) = j by omega] at this
          omega
    · rw [fN 1 14 a (by omega), fN 1 15 a (by omega), f5 1 14 a (by omega), f5 1 15 a (by omega), f2 1 14 a (by omega), f2 1 15 a (by omega)]
      exact hst a a0 (by omega)
  have stay : ¬ (B (1 + k (d - 1)) = 5 ∧ B (161 + k (d - 1)) = 0) → Q none M5 := fun z => by
    have := hQ M5 _ rfl F5
    rw [if_neg z] at this
    exact this (done M5 (q + 1) (fun _ _ _ _ => rfl) b9)
  rw [b1, b12, b15]
  refine ⟨by omega, fun z => stay (fun w => z w.1), fun z => ⟨by omega, fun z2 => stay (fun w => z2 w.2), fun z2 => ?_⟩⟩
  have c5 : B (1 + k (d - 1)) = 5 ∧ B (161 + k (d - 1)) = 0 := ⟨Classical.byContradiction z, Classical.byContradiction z2⟩
  rw [if_pos c5] at hQ
  have r := sp_rng (t := t) (L := L) (p := q + 1) (by omega)
  refine kX10_lookT (F5.txt h) b9 (by omega) (fun N fN gN n9 n10 => ⟨_, rfl, fun y => ?_, fun y => ?_⟩)
  · have := hQ N _ rfl (F5.tr fN)
    rw [if_neg y] at this
    exact this (done N _ gN n9)
  · have y' : ch t L (sp t L (q + 1)) = 123 := Classical.byContradiction y
    rw [if_pos y'] at hQ
    have lt : sp t L (q + 1) < L := by
      refine Classical.byContradiction fun w => ?_
      unfold ch at y'
      rw [if_pos (by omega)] at y'; omega
    refine kX10_takeT ((F5.tr fN).txt h) n9 (by omega) (fun O fO gO o9 o10 => ⟨_, rfl, by omega, fun M16 e16 => ?_⟩)
    rw [sp_idem (by omega), if_pos lt] at o9
    have f16 : ∀ (o i : Nat) (j : Int), ¬ (o = 1 ∧ i = 12 ∧ j = 161 + k (d - 1)) → M16 o i j = O o i j := fun o i j w => by rw [e16]; simp only [sl_wr]; rw [if_neg w]
    have c12 : M16 1 0 12 = d - 1 := by rw [f16 1 0 12 (by omega), gO 1 0 12 (by omega), gN 1 0 12 (by omega)]; exact b12
    refine kX10_opens (by rw [c12]; omega) (fun V fV v12 v14 v15 => ⟨rfl, ?_⟩)
    rw [c12] at fV v12 v14 v15
    have fVM : ∀ (o i : Nat) (j : Int), ¬ (o = 1 ∧ ((i = 0 ∧ (j = 9 ∨ j = 10 ∨ j = 12)) ∨ ((i = 14 ∨ i = 15) ∧ j = d - 1) ∨ (i = 12 ∧ (j = 161 + k (d - 1) ∨ j = 41 + k (d - 1))))) → V o i j = M o i j := fun o i j w => by
      rw [fV o i j (by omega), f16 o i j (by omega), gO o i j (by omega), gN o i j (by omega), f5 o i j (by omega), f2 o i j (by omega)]
    refine hQ V _ rfl (fun o i j w => fVM o i j (by omega)) ⟨by rw [fV 1 0 9 (by omega), f16 1 0 9 (by omega)]; exact o9, by rw [v12]; show d - 1 + 1 = d; omega, fun j j0 j1 w => ?_, fun a a0 a1 => ?_⟩
    · show V 1 12 j = (if j = 161 + k (d - 1) then 1 else B j)
      have w' : ¬ exc d (elB B (k (d - 1))) k j := w
      by_cases ej : j = 161 + k (d - 1)
      · rw [if_pos ej, fV 1 12 j (by omega), e16, ej]; exact sl_wr_s
      · rw [if_neg ej]
        have eB : elB B (k (d - 1)) j = B j := if_neg ej
        unfold exc at w'
        rw [eB, et] at w'
        have ne : j ≠ 41 + k (d - 1) := fun y => w' ⟨by omega, by omega, by omega, by rw [y, u3]; omega⟩
        rw [fVM 1 12 j (by omega)]
        refine hrow j j0 j1 (fun y => w' ?_)
        unfold exc at y
        rw [et] at y; exact y
    · show V 1 14 a = k a ∧ V 1 15 a = (if 161 + k a = 161 + k (d - 1) then 1 else B (161 + k a))
      by_cases ea : a = d - 1
      · rw [ea, if_pos rfl]; exact ⟨v14, v15⟩
      · have a1' : a < d := a1
        have := below a a0 (by omega)
        rw [if_neg (by omega), fVM 1 14 a (by omega), fVM 1 15 a (by omega)]
        exact hst a a0 a1'
/-- what reading a text leaves -/
noncomputable abbrev rdA (t : Int → Int) (L : Int) : Int × RdS := rdL t L 161 (0, 0, (fun _ => 0), fun _ => 0)
def FRs (M N : sl_M) : Prop := ∀ (o i : Nat) (j : Int), ¬ (o = 1 ∧ ((i = 0 ∧ (j = 2 ∨ j = 3 ∨ j = 9 ∨ j = 10 ∨ j = 12)) ∨ i = 12 ∨ i = 14 ∨ i = 15 ∨ (i = 1 ∧ 0 ≤ j ∧ j < 990) ∨ (i = 2 ∧ 990 * M 1 0 3 ≤ j ∧ j < 990 * M 1 0 3 + 990))) → N o i j = M o i j
theorem kX10_reads (h : Txt M t L) (h3 : 0 ≤ M 1 0 3 ∧ M 1 0 3 < 6) (h2 : 0 ≤ M 1 0 2 ∧ M 1 0 2 ≤ 6) (hF : (rdA t L).1 = 0 → ∀ N, FRd M N → Q (some (vI (-10 - (rdA t L).2.1))) N) (hQ : (rdA t L).1 ≠ 0 → ∀ N, FRs M N → N 1 0 3 = (M 1 0 3 + 1) % 6 → N 1 0 2 = min (M 1 0 2 + 1) 6 → (∀ k, 0 ≤ k → k < 990 → N 1 2 (990 * M 1 0 3 + k) = M 1 1 k) → (∀ k, 0 ≤ k → k < 990 → N 1 1 k = (rdA t L).2.2.2.1 k) → Q (some (vI ((rdA t L).2.2.2.1 0))) N) : sl_Runs l mX10_reads [vR 1 0] M Q := by
  have hL := h.2.2.1
  generalize hrr : rdA t L = r at *
  -- the end: the row is copied
  have copy : r.1 ≠ 0 → ∀ (K : sl_M), FRd M K → (∀ j, 0 ≤ j → j < 990 → K 1 12 j = r.2.2.2.1 j) → sl_RV l mX10_keepsState [vR 1 0] K (fun M3 => sl_At l mX10_reads 106 [(0, vR 1 0), (2, vI 0)] [] M3 Q) := by
    intro hr K fK hk
    have k3 : K 1 0 3 = M 1 0 3 := fK 1 0 3 (by omega)
    have k2 : K 1 0 2 = M 1 0 2 := fK 1 0 2 (by omega)
    refine kX10_keepsState (by rw [k3]; exact h3) (by rw [k2]; exact h2) (fun V g1 g2 g3 g4 => ⟨rfl, ?_⟩)
    rw [k3] at g1 g2 g4
    rw [k2] at g3
    have loop : ∀ (n : Nat) (x : Int) (N : sl_M), x + n = 990 → 0 ≤ x → (∀ (o i : Nat) (j : Int), ¬ (o = 1 ∧ i = 1 ∧ 0 ≤ j ∧ j < 990) → N o i j = V o i j) → (∀ j, 0 ≤ j → j < x → N 1 1 j = r.2.2.2.1 j) → sl_At l mX10_reads 106 [(0, vR 1 0), (2, vI x)] [] N Q := by
      intro n
      induction n with
      | zero =>
        intro x N hx x0 fN hj
        refine vX10_reads_106 fun _ _ => ⟨fun _ => ?_, fun z => by omega⟩
        rw [hj 0 (by omega) (by omega)]
        refine hQ hr N (fun o i j z => ?_) (by rw [fN 1 0 3 (by omega)]; exact g2) (by rw [fN 1 0 2 (by omega)]; exact g3) (fun a a0 a1 => ?_) (fun a a0 a1 => hj a a0 (by omega))
        · rw [fN o i j (by omega), g1 o i j (by omega)]; exact fK o i j (by omega)
        · rw [fN 1 2 _ (by omega), g4 a a0 a1]; exact fK 1 1 a (by omega)
      | succ n ih =>
        intro x N hx x0 fN hj
        have e : N 1 12 x = r.2.2.2.1 x := by rw [fN 1 12 x (by omega), g1 1 12 x (by omega)]; exact hk x x0 (by omega)
        refine vX10_reads_106 fun _ _ => ⟨fun z => by omega, fun _ => ⟨by omega, fun M3 e3 => ⟨by omega, ih (x + 1) M3 (by omega) (by omega) (fun o i j z => ?_) (fun j j0 j1 => ?_)⟩⟩⟩
        · rw [e3]; simp only [sl_wr]; rw [if_neg (by omega)]; exact fN o i j z
        · by_cases ej : j = x
          · rw [ej, e3, sl_wr_s]; exact e
          · rw [e3]; simp only [sl_wr]; rw [if_neg (by omega)]; exact hj j j0 (by omega)
    exact loop 990 0 V (by omega) (by omega) (fun _ _ _ _ => rfl) (fun j j0 j1 => by omega)
  -- the turns
  have turns : ∀ (n : Nat) (p d : Int) (B k : Int → Int) (N : sl_M), (L - p).toNat < n → RIv L p d B k → FRd M N → RRl N (if sp t L p < L then sp t L p + 1 else L) d B k → N 1 0 10 = sp t L p → rdL t L n (p, d, B, k) = r → sl_At l mX10_reads 37 [(0, vR 1 0), (1, vI (ch t L (sp t L p)))] [] N Q := by
    intro n
    induction n with
    | zero => intro p d B k N hn; omega
    | succ n ih =>
      intro p d B k N hn hI fN hR n10 eR
      have hp := hI.1
      have rr := sp_rng (t := t) hp.2
      have n12 : N 1 0 12 = d := hR.2.1
      have hd := hI.2.1
      rw [rdL] at eR
      by_cases c : L ≤ sp t L p
      · rw [if_pos c] at eR
        have ec : ch t L (sp t L p) = -1 := if_pos c
        rw [ec]
        refine vX10_reads_37 fun _ _ => ⟨fun _ => ?_, fun z => by omega⟩
        rw [n12, n10]
        refine ⟨fun z => ?_, fun z => ⟨by omega, ?_⟩⟩
        · have d0 : d = 0 := by omega
          have e1 : r.1 ≠ 0 := by rw [← eR]; show (if d = 0 then (1 : Int) else 0) ≠ 0; rw [if_pos d0]; omega
          refine copy e1 N fN (fun j j0 j1 => ?_)
          rw [← eR]
          refine hR.2.2.1 j j0 j1 (fun w => ?_)
          have : tpo d k = -1 := if_pos d0
          have := w.2.2.1
          have := w.1
          omega
        · have e1 : r.1 = 0 := by rw [← eR]; show (if d = 0 then (1 : Int) else 0) = 0; rw [if_neg (by omega)]
          have := hF e1 N fN
          rw [← eR] at this
          exact this
      · rw [if_neg c] at eR
        have ec : ch t L (sp t L p) = t (sp t L p) := if_neg c
        have tq := h.2.2.2 (sp t L p) (by omega) (by omega)
        rw [if_pos (by omega)] at hR
        have inv := rdT_inv (t := t) (q := sp t L p) hI (by omega)
        rw [ec]
        -- after a turn that went well
        have next : ∀ (V : sl_M), FRd M V → (rdT t L (sp t L p) d B k).1 ≠ 0 → RRl V (rdT t L (sp t L p) d B k).2.1 (rdT t L (sp t L p) d B k).2.2.1 (rdT t L (sp t L p) d B k).2.2.2.1 (rdT t L (sp t L p) d B k).2.2.2.2 → sl_RI l mX10_take [vR 1 0] V (fun y9 M8 => sl_At l mX10_reads 37 [(0, vR 1 0), (1, vI y9)] [] M8 Q) := by
          intro V fV z hV
          rw [if_neg z] at eR
          obtain ⟨i1, i2, i3⟩ := inv z
          generalize rdT t L (sp t L p) d B k = w at *
          refine kX10_takeT (fV.txt h) hV.1 i1.1 (fun O fO gO o9 o10 => ⟨_, rfl, ih w.2.1 w.2.2.1 w.2.2.2.1 w.2.2.2.2 O (by omega) i1 (fV.tr fO) ?_ o10 eR⟩)
          obtain ⟨v1, v2, v3, v4⟩ := hV
          exact ⟨o9, by rw [gO 1 0 12 (by omega)]; exact v2, fun j j0 j1 y => by rw [gO 1 12 j (by omega)]; exact v3 j j0 j1 y, fun a a0 a1 => by rw [gO 1 14 a (by omega), gO 1 15 a (by omega)]; exact v4 a a0 a1⟩
        have at61 : ¬ (t (sp t L p) = 125 ∧ 0 < d) → sl_At l mX10_reads 61 [(0, vR 1 0), (1, vI (t (sp t L p)))] [] N Q := by
          intro nz
          have eT : rdT t L (sp t L p) d B k = rdS t L (sp t L p) d B k := if_neg nz
          rw [eT] at next eR
          refine vX10_reads_61 fun _ _ => kX10_readsStatement (fN.txt h) hR hI (by omega) n10 (fun V w ew fV v0 v1 => ⟨_, rfl, fun y => ?_, fun y => ?_⟩)
          · rw [ew] at y v1
            exact next V (fN.tr fV) y (v1 y)
          · have y' : w.1 = 0 := Classical.byContradiction y
            rw [if_pos (by rw [← ew]; exact y')] at eR
            have e1 : r.1 = 0 := by rw [← eR, ← ew]; exact y'
            have := hF e1 V (fN.tr fV)
            rw [v0 y']
            rw [← eR, ← ew] at this
            have rg : 0 ≤ w.2.1 ∧ w.2.1 ≤ 160 := by
              rw [ew]; exact rdS_rng hI (by omega) (by omega)
            exact ⟨by omega, this⟩
        refine vX10_reads_37 fun _ _ => ⟨fun z => by omega, fun _ => ⟨fun z => at61 (fun w => z w.1), fun z => ?_⟩⟩
        rw [n12]
        have z' : t (sp t L p) = 125 := Classical.byContradiction z
        refine ⟨fun z2 => at61 (by omega), fun z2 => ?_⟩
        have eT : rdT t L (sp t L p) d B k = rdC t L (sp t L p) d B k := if_pos ⟨z', by omega⟩
        have i3 := rdC_inv (t := t) (q := sp t L p) hI (by omega) (by omega)
        refine kX10_closes (fN.txt h) hR hI (by omega) (by omega) (fun V w ew fV v1 => ⟨rfl, next V (fN.tr fV) ?_ ?_⟩)
        · rw [eT, i3.2.2]; omega
        · rw [eT, ← ew]; exact v1
  -- the row is made empty
  have zero : ∀ (n : Nat) (x : Int) (N : sl_M), x + n = 990 → 0 ≤ x → (∀ (o i : Nat) (j : Int), ¬ (o = 1 ∧ i = 12) → N o i j = M o i j) → (∀ j, 0 ≤ j → j < x → N 1 12 j = 0) → sl_At l mX10_reads 2 [(0, vR 1 0), (1, vI x)] [] N Q := by
    intro n
    induction n with
    | zero =>
      intro x N hx x0 fN hj
      refine vX10_reads_2 fun _ _ => ⟨fun _ M2 e2 M3 e3 => ?_, fun z => by omega⟩
      have f3 : ∀ (o i : Nat) (j : Int), ¬ (o = 1 ∧ i = 0 ∧ (j = 9 ∨ j = 12)) → M3 o i j = N o i j := fun o i j z => by rw [e3, e2]; simp only [sl_wr]; rw [if_neg (by omega), if_neg (by omega)]
      have F3 : FRd M M3 := fun o i j z => by rw [f3 o i j (by omega)]; exact fN o i j (by omega)
      refine kX10_takeT (F3.txt h) (p := 0) (by rw [e3, e2]; simp [sl_wr]) (by omega) (fun O fO gO o9 o10 => ⟨_, rfl, turns 161 0 0 (fun _ => 0) (fun _ => 0) O (by omega) (RIv.nil hL.1) (F3.tr fO) ⟨o9, ?_, fun j j0 j1 _ => ?_, fun a a0 a1 => by omega⟩ o10 hrr⟩)
      · rw [gO 1 0 12 (by omega), e3]; exact sl_wr_s
      · rw [gO 1 12 j (by omega), f3 1 12 j (by omega)]; exact hj j j0 (by omega)
    | succ n ih =>
      intro x N hx x0 fN hj
      refine vX10_reads_2 fun _ _ => ⟨fun z => by omega, fun _ => ⟨by omega, fun M7 e7 => ⟨by omega, ih (x + 1) M7 (by omega) (by omega) (fun o i j z => ?_) (fun j j0 j1 => ?_)⟩⟩⟩
      · rw [e7]; simp only [sl_wr]; rw [if_neg (by omega)]; exact fN o i j z
      · by_cases ej : j = x
        · rw [ej, e7, sl_wr_s]
        · rw [e7]; simp only [sl_wr]; rw [if_neg (by omega)]; exact hj j j0 (by omega)
  exact eX10_reads (vX10_reads_0 fun _ => zero 990 0 M (by omega) (by omega) (fun _ _ _ _ => rfl) (fun j j0 j1 => by omega))
end K
