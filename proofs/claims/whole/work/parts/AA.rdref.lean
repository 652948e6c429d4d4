/-! The reference reads a statement -/
/-- what reading changes in the reference -/
def FRd (M N : sl_M) : Prop := ∀ (o i : Nat) (j : Int), ¬ (o = 1 ∧ ((i = 0 ∧ (j = 9 ∨ j = 10 ∨ j = 12)) ∨ i = 12 ∨ i = 14 ∨ i = 15)) → N o i j = M o i j
theorem FRd.tr {M N O : sl_M} (h1 : FRd M N) (h2 : FRd N O) : FRd M O := fun o i j z => (h2 o i j z).trans (h1 o i j z)
/-- the ends that the reference has not written yet -/
abbrev exc (d : Int) (B k : Int → Int) (j : Int) : Prop := 41 ≤ j ∧ j < 81 ∧ j - 41 ≤ tpo d k ∧ tpo d k < B j
/-- the reference holds what is being read -/
def RRl (M : sl_M) (p d : Int) (B k : Int → Int) : Prop := M 1 0 9 = p ∧ M 1 0 12 = d ∧ (∀ j, 0 ≤ j → j < 990 → ¬ exc d B k j → M 1 12 j = B j) ∧ ∀ a, 0 ≤ a → a < d → M 1 14 a = k a ∧ M 1 15 a = B (161 + k a)
/-- the text -/
def Txt (M : sl_M) (t : Int → Int) (L : Int) : Prop := M 1 9 = t ∧ M 1 0 7 = L ∧ (0 ≤ L ∧ L ≤ 160) ∧ ∀ q, 0 ≤ q → q < L → 0 ≤ t q
theorem FRd.txt {M N : sl_M} {t : Int → Int} {L : Int} (f : FRd M N) (h : Txt M t L) : Txt N t L := by
  refine ⟨?_, ?_, h.2.2⟩
  · funext q; rw [f 1 9 q (by omega), h.1]
  · rw [f 1 0 7 (by omega)]; exact h.2.1
section K
variable {l : Launch} {M : sl_M} {Q : sl_R} {t B k : Int → Int} {L q d p : Int}
theorem kX10_takeT (h : Txt M t L) {p : Int} (hp : M 1 0 9 = p) (p0 : 0 ≤ p ∧ p ≤ L) (hQ : ∀ N, FRd M N → (∀ (o i : Nat) (j : Int), ¬ (o = 1 ∧ i = 0 ∧ (j = 9 ∨ j = 10)) → N o i j = M o i j) → N 1 0 9 = (if sp t L p < L then sp t L p + 1 else L) → N 1 0 10 = sp t L p → Q (some (vI (ch t L (sp t L p)))) N) : sl_Runs l mX10_take [vR 1 0] M Q := by
  obtain ⟨h1, h2, h3, h4⟩ := h
  refine kX10_take (by rw [h2]; exact h3) (by rw [h2, hp]; exact p0) (by rw [h1, h2]; exact h4) (fun N f a b => ?_)
  rw [h1, h2, hp] at a b ⊢
  exact hQ N (fun o i j z => f o i j (by omega)) f a b
theorem kX10_lookT (h : Txt M t L) {p : Int} (hp : M 1 0 9 = p) (p0 : 0 ≤ p ∧ p ≤ L) (hQ : ∀ N, FRd M N → (∀ (o i : Nat) (j : Int), ¬ (o = 1 ∧ i = 0 ∧ (j = 9 ∨ j = 10)) → N o i j = M o i j) → N 1 0 9 = sp t L p → N 1 0 10 = sp t L p → Q (some (vI (ch t L (sp t L p)))) N) : sl_Runs l mX10_look [vR 1 0] M Q := by
  obtain ⟨h1, h2, h3, h4⟩ := h
  refine kX10_look (by rw [h2]; exact h3) (by rw [h2, hp]; exact p0) (fun N f a b => ?_)
  rw [h1, h2, hp] at a b ⊢
  exact hQ N (fun o i j z => f o i j (by omega)) f a b
theorem kX10_readsStatement (h : Txt M t L) (hR : RRl M (q + 1) d B k) (hI : RIv L p d B k) (hq : p ≤ q ∧ q < L) (h10 : M 1 0 10 = q) (hQ : ∀ N r, r = rdS t L q d B k → FRd M N → (r.1 = 0 → N 1 0 10 = r.2.1) → (r.1 ≠ 0 → RRl N r.2.1 r.2.2.1 r.2.2.2.1 r.2.2.2.2) → Q (some (vI r.1)) N) : sl_Runs l mX10_readsStatement [vR 1 0, vI (t q)] M Q := by
  have tr := tpo_rng hI
  have hr0 := hR
  obtain ⟨h9, h12, hrow, hst⟩ := hR
  obtain ⟨hp, hd, hT, hS, hz⟩ := hI
  have n0 : 0 ≤ B 0 ∧ B 0 ≤ 40 := hT.1.n0
  have e0 : M 1 12 0 = B 0 := hrow 0 (by omega) (by omega) (by omega)
  have kr := kdA_rng (t q)
  have tq := h.2.2.2 q (by omega) hq.2
  have hst0 : ∀ a, 0 ≤ a → a < d → 0 ≤ M 1 14 a ∧ M 1 14 a < 40 := fun a a0 a1 => by
    have := (hS a a0 a1).1
    rw [(hst a a0 a1).1]; omega
  have il : (∃ a, 0 ≤ a ∧ a < M 1 0 12 ∧ M 1 12 (1 + M 1 14 a) = 6) ↔ inL d B k := by
    rw [h12]
    have e : ∀ a, 0 ≤ a → a < d → M 1 12 (1 + M 1 14 a) = B (1 + k a) := fun a a0 a1 => by
      have := (hS a a0 a1).1
      rw [(hst a a0 a1).1]
      exact hrow _ (by omega) (by omega) (by omega)
    constructor
    · rintro ⟨a, a0, a1, a2⟩; exact ⟨a, a0, a1, by rw [← e a a0 a1]; exact a2⟩
    · rintro ⟨a, a0, a1, a2⟩; exact ⟨a, a0, a1, by rw [e a a0 a1]; exact a2⟩
  unfold rdS at hQ
  generalize hx : kdA (t q) = x at *
  have rf : FRd M M := fun _ _ _ _ => rfl
  have bad : rdB x d B k → Q (some (vI 0)) M := fun b => by
    have := hQ M _ rfl rf
    rw [if_pos b] at this
    exact this (fun _ => h10) (fun z => (z rfl).elim)
  have at50 : ∀ x3, (x3 ≠ 0 ↔ isJ x) → ¬ rdB x d B k → sl_At l mX10_readsStatement 50 [(0, vR 1 0), (1, vI (t q)), (2, vI x), (3, vI x3)] [] M Q := by
    intro x3 hx3 nb
    have b2 : B 0 ≠ 40 := fun z => nb (Or.inr (Or.inl z))
    have b1 : x ≠ -1 := fun z => nb (Or.inl z)
    rw [if_neg nb] at hQ
    have hn : 0 ≤ B 0 ∧ B 0 < 40 := by omega
    -- once the expression is read
    have at233 : ∀ V, FRd M V → ¬ (x = 0 ∧ ch t L (sp t L (q + 1)) ≠ 61) → (stE t L q x B).1 ≠ 0 → V 1 0 9 = (stE t L q x B).2.1 → (0 ≤ (stE t L q x B).2.1 ∧ (stE t L q x B).2.1 ≤ L) → V 1 0 12 = d → (∀ j, 0 ≤ j → j < 990 → ¬ exc d B k j → V 1 12 j = stB B (tpo d k) (sid d B k) x (t q) (stE t L q x B) j) → (∀ a, 0 ≤ a → a < d → V 1 14 a = k a ∧ V 1 15 a = B (161 + k a)) → sl_At l mX10_readsStatement 233 [(0, vR 1 0), (2, vI x), (4, vI (B 0))] [] V Q := by
      intro V fV c1 c2 v9 vr v12 vrow vst
      rw [if_neg c1, if_neg c2] at hQ
      generalize stE t L q x B = E at *
      have sr := sp_rng (t := t) vr.2
      -- the ends not yet written are the same
      have ex2 : ∀ j, 0 ≤ j → j < 990 → ¬ exc (if isO x then d + 1 else d) (stB B (tpo d k) (sid d B k) x (t q) E) (fun a => if a = d then B 0 else k a) j → ¬ exc d B k j := by
        intro j j0 j1 z w
        obtain ⟨w1, w2, w3, w4⟩ := w
        have o8 := (stB_old (B := B) (u := tpo d k) (s := sid d B k) (x := x) (c := t q) (r := E) hn (j := j - 41) (by omega) (by omega)).2.2.2.2.2.2.2
        rw [show 41 + (j - 41) = j by omega, if_pos ⟨w3, w4⟩] at o8
        refine z ⟨w1, w2, ?_⟩
        rw [o8]
        by_cases o : isO x
        · rw [if_pos o]
          rw [show tpo (d + 1) (fun a => if a = d then B 0 else k a) = B 0 by
            unfold tpo; rw [if_neg (by omega), show d + 1 - 1 = d by omega]; exact if_pos rfl]
          omega
        · rw [if_neg o]
          rw [show tpo d (fun a => if a = d then B 0 else k a) = tpo d k by
            unfold tpo
            by_cases c : d = 0
            · rw [if_pos c, if_pos c]
            · rw [if_neg c, if_neg c]; exact if_neg (by omega)]
          omega
      have fin : ∀ N, FRd V N → N 1 12 = V 1 12 → N 1 0 9 = (if sp t L E.2.1 < L then sp t L E.2.1 + 1 else L) → N 1 0 10 = sp t L E.2.1 → N 1 0 12 = (if isO x then d + 1 else d) → (∀ a, 0 ≤ a → a < d → N 1 14 a = V 1 14 a ∧ N 1 15 a = V 1 15 a) → (isO x → N 1 14 d = B 0 ∧ N 1 15 d = 0) → Q (some (vI (if ch t L (sp t L E.2.1) = (if isO x then 123 else 59) then 1 else 0))) N := by
        intro N fN n12 n9 n10 nd nst nO
        have hN := hQ N _ rfl (fV.tr fN)
        by_cases c3 : ch t L (sp t L E.2.1) ≠ (if isO x then 123 else 59)
        · rw [if_pos c3] at hN
          rw [if_neg c3]
          exact hN (fun _ => n10) (fun z => (z rfl).elim)
        · rw [if_neg c3] at hN
          have c3' : ch t L (sp t L E.2.1) = (if isO x then 123 else 59) := Classical.byContradiction c3
          rw [if_pos c3']
          have lt : sp t L E.2.1 < L := by
            refine Classical.byContradiction fun z => c3 ?_
            unfold ch
            rw [if_pos (by omega)]
            split <;> omega
          rw [if_pos lt] at n9
          refine hN (fun z => absurd z (by show ¬ ((1 : Int) = 0); omega)) (fun _ => ⟨n9, nd, fun j j0 j1 z => ?_, fun a a0 a1 => ?_⟩)
          · rw [n12]; exact vrow j j0 j1 (ex2 j j0 j1 z)
          · have a1' : a < (if isO x then d + 1 else d) := a1
            obtain ⟨g0, g1, g2, g3, g4, g5, g6, g7, g8⟩ := stB_new (B := B) (u := tpo d k) (s := sid d B k) (x := x) (c := t q) (r := E) hn
            by_cases ea : a = d
            · have o : isO x := Classical.byContradiction fun z => by rw [if_neg z] at a1'; omega
              subst ea
              show N 1 14 a = (if a = a then B 0 else k a) ∧ N 1 15 a = stB B (tpo a k) (sid a B k) x (t q) E (161 + (if a = a then B 0 else k a))
              rw [if_pos rfl, g4]
              exact nO o
            · have ad : a < d := by revert a1'; split <;> intro _ <;> omega
              show N 1 14 a = (if a = d then B 0 else k a) ∧ N 1 15 a = stB B (tpo d k) (sid d B k) x (t q) E (161 + (if a = d then B 0 else k a))
              have s1 := (hS a a0 ad).1
              rw [if_neg ea, (stB_old (B := B) (u := tpo d k) (s := sid d B k) (x := x) (c := t q) (r := E) hn s1.1 s1.2).2.2.2.1, (nst a a0 ad).1, (nst a a0 ad).2]
              exact vst a a0 ad
      have at244 : isO x → sl_At l mX10_readsStatement 244 [(0, vR 1 0), (4, vI (B 0))] [] V Q := by
        intro o
        refine vX10_readsStatement_244 fun _ _ => kX10_opens (by rw [v12]; omega) (fun W fW w12 w14 w15 => ⟨rfl, ?_⟩)
        rw [v12] at fW w12 w14 w15
        have fVW : FRd V W := fun o' i j z => fW o' i j (by omega)
        refine kX10_takeT (fVW.txt (fV.txt h)) (by rw [fW 1 0 9 (by omega)]; exact v9) vr (fun N fN gN n9 n10 => ⟨_, rfl, ?_⟩)
        have := fin N (fVW.tr fN) (by funext j; rw [gN 1 12 j (by omega)]; exact fW 1 12 j (by omega)) n9 n10 (by rw [gN 1 0 12 (by omega), w12, if_pos o]) (fun a a0 a1 => ⟨by rw [gN 1 14 a (by omega)]; exact fW 1 14 a (by omega), by rw [gN 1 15 a (by omega)]; exact fW 1 15 a (by omega)⟩) (fun _ => ⟨by rw [gN 1 14 d (by omega)]; exact w14, by rw [gN 1 15 d (by omega)]; exact w15⟩)
        rw [if_pos o] at this
        show Q (some (vI (if ¬ (ch t L (sp t L E.2.1) ≠ 123) then 1 else 0))) N
        by_cases y : ch t L (sp t L E.2.1) = 123
        · rw [if_pos y] at this
          rw [if_pos (fun w => w y)]; exact this
        · rw [if_neg y] at this
          rw [if_neg (fun w => w y)]; exact this
      refine vX10_readsStatement_233 fun _ _ _ => ⟨fun z => at244 (Or.inl z), fun z => ⟨fun z2 => kX10_takeT (fV.txt h) v9 vr (fun N fN gN n9 n10 => ⟨_, rfl, ?_⟩), fun z2 => at244 (Or.inr (Classical.byContradiction z2))⟩⟩
      have no : ¬ isO x := fun o => o.elim z z2
      have := fin N fN (by funext j; exact gN 1 12 j (by omega)) n9 n10 (by rw [gN 1 0 12 (by omega), v12, if_neg no]) (fun a a0 a1 => ⟨gN 1 14 a (by omega), gN 1 15 a (by omega)⟩) (fun o => (no o).elim)
      rw [if_neg no] at this
      show Q (some (vI (if ¬ (ch t L (sp t L E.2.1) ≠ 59) then 1 else 0))) N
      by_cases y : ch t L (sp t L E.2.1) = 59
      · rw [if_pos y] at this
        rw [if_pos (fun w => w y)]; exact this
      · rw [if_neg y] at this
        rw [if_neg (fun w => w y)]; exact this
    -- before the expression
    have mid : ∀ V, FRd M V → ¬ (x = 0 ∧ ch t L (sp t L (q + 1)) ≠ 61) → V 1 0 9 = stP t L q x → V 1 0 12 = d → (∀ j, 0 ≤ j → j < 990 → ¬ exc d B k j → V 1 12 j = nwB B (tpo d k) (sid d B k) x (t q) j) → (∀ a, 0 ≤ a → a < d → V 1 14 a = k a ∧ V 1 15 a = B (161 + k a)) → ((x3 ≠ 0) → sl_At l mX10_readsStatement 233 [(0, vR 1 0), (2, vI x), (4, vI (B 0))] [] V Q) ∧ ((¬ (x3 ≠ 0)) → sl_RI l mX10_readsE [vR 1 0, vI (B 0)] V (fun y26 M25 => ((y26 ≠ 0) → sl_At l mX10_readsStatement 233 [(0, vR 1 0), (2, vI x), (4, vI (B 0))] [] M25 Q) ∧ ((¬ (y26 ≠ 0)) → Q (some (vI 0)) M25))) := by
      intro V fV c1 v9 v12 vrow vst
      have pr := stP_rng (t := t) (x := x) hq.2 (fun z => Classical.byContradiction fun w => c1 ⟨z, w⟩)
      have ok := stE_ok (t := t) (q := q) (x := x) (B := B) pr.2.2
      have sy : ∀ i, 0 ≤ i → i < 12 → V 1 12 ((281 + 12 * B 0) + i) = B ((281 + 12 * B 0) + i) := fun i i0 i1 => by
        rw [vrow _ (by omega) (by omega) (by omega)]
        unfold nwB
        rw [if_neg (by omega), if_neg (by omega), if_neg (by omega), if_neg (by omega), if_neg (by omega), if_neg (by omega), if_neg (by omega), if_neg (by omega), if_neg (by omega)]
      refine ⟨fun z => ?_, fun z => ?_⟩
      · have j := hx3.mp z
        have eE : stE t L q x B = (1, stP t L q x, 0, fun i => B ((281 + 12 * B 0) + i)) := if_pos j
        refine at233 V fV c1 (by rw [eE]; show (1 : Int) ≠ 0; omega) (by rw [eE]; exact v9) ⟨by omega, ok.2.2.1⟩ v12 (fun j j0 j1 w => ?_) vst
        rw [eE]
        unfold stB exB
        by_cases y : j = 241 + B 0
        · rw [if_pos y, vrow j j0 j1 w]
          unfold nwB
          rw [if_neg (by omega), if_neg (by omega), if_neg (by omega), if_neg (by omega), if_neg (by omega), if_neg (by omega), if_pos y]
        · rw [if_neg y]
          by_cases y2 : 281 + 12 * B 0 ≤ j ∧ j < 293 + 12 * B 0
          · rw [if_pos y2]
            have := sy (j - (281 + 12 * B 0)) (by omega) (by omega)
            rw [show (281 + 12 * B 0) + (j - (281 + 12 * B 0)) = j by omega] at this
            rw [this]
            show B j = B ((281 + 12 * B 0) + (j - (281 + 12 * B 0)))
            rw [show (281 + 12 * B 0) + (j - (281 + 12 * B 0)) = j by omega]
          · rw [if_neg y2]; exact vrow j j0 j1 w
      · have nj : ¬ isJ x := fun j => z (hx3.mpr j)
        have eE : stE t L q x B = exA t L 12 0 1 (stP t L q x) (fun i => B ((281 + 12 * B 0) + i)) := if_neg nj
        obtain ⟨T1, T2, T3, T4⟩ := fV.txt h
        refine kX10_readsE (k := B 0) (by rw [T2]; exact T3) (by rw [T2, v9]; omega) (by rw [T1, T2]; exact T4) hn ?_ (fun N r hr fN n9 n10 nl ns => ⟨_, rfl, ?_⟩)
        · rw [vrow _ (by omega) (by omega) (by omega)]
          unfold nwB
          rw [if_neg (by omega), if_neg (by omega), if_neg (by omega), if_neg (by omega), if_neg (by omega), if_neg (by omega), if_pos rfl]
        rw [T1, T2, v9] at hr
        obtain ⟨g1, g2, g3, g4⟩ := exA_cong (t := t) (L := L) 12 0 1 (stP t L q x) (fun i => V 1 12 ((281 + 12 * B 0) + i)) (fun i => B ((281 + 12 * B 0) + i)) sy
        rw [← hr, ← eE] at g1 g2 g3 g4
        have fVN : FRd V N := fun o i j w => fN o i j (by omega)
        refine ⟨fun y => ?_, fun y => ?_⟩
        · have y' : (stE t L q x B).1 ≠ 0 := by rw [← g1]; exact y
          refine at233 N (fV.tr fVN) c1 y' (by rw [← g2]; exact n9 (by rw [g1]; exact ok.1.resolve_left y')) ⟨by omega, ok.2.2.1⟩ (by rw [fN 1 0 12 (by omega)]; exact v12) (fun j j0 j1 w => ?_) (fun a a0 a1 => ⟨by rw [fN 1 14 a (by omega)]; exact (vst a a0 a1).1, by rw [fN 1 15 a (by omega)]; exact (vst a a0 a1).2⟩)
          unfold stB exB
          by_cases y1 : j = 241 + B 0
          · rw [if_pos y1, y1, ← g3]; exact nl
          · rw [if_neg y1]
            by_cases y2 : 281 + 12 * B 0 ≤ j ∧ j < 293 + 12 * B 0
            · rw [if_pos y2, ← g4 _ (by omega) (by omega), ← ns _ (by omega) (by omega)]
              rw [show (281 + 12 * B 0) + (j - (281 + 12 * B 0)) = j by omega]
            · rw [if_neg y2, fN 1 12 j (by omega)]; exact vrow j j0 j1 w
        · have y' : r.1 = 0 := Classical.byContradiction y
          have y2 : (stE t L q x B).1 = 0 := by rw [← g1]; exact y'
          have hN := hQ N _ rfl (fV.tr fVN)
          rw [if_neg c1, if_pos y2] at hN
          exact hN (fun _ => by rw [n10 y']; exact g2) (fun w => (w rfl).elim)
    refine vX10_readsStatement_50 fun _ _ _ _ => ?_
    rw [e0]
    refine ⟨by omega, fun M2 e2 => ⟨by omega, fun M4 e4' => ?_⟩⟩
    have a12 : M4 1 0 12 = d := by rw [e4', e2]; simp only [sl_wr]; rw [if_neg (by omega), if_neg (by omega)]; exact h12
    have a14 : M4 1 14 = M 1 14 := by funext y; rw [e4', e2]; simp only [sl_wr]; rw [if_neg (by omega), if_neg (by omega)]
    have a15 : M4 1 15 = M 1 15 := by funext y; rw [e4', e2]; simp only [sl_wr]; rw [if_neg (by omega), if_neg (by omega)]
    have eu : (if M4 1 0 12 ≠ 0 then M4 1 14 (M4 1 0 12 - 1) else (-1)) = tpo d k := by
      rw [a12, a14]
      by_cases c : d = 0
      · rw [if_neg (fun w => w c), show tpo d k = -1 from if_pos c]
      · rw [if_pos c, show tpo d k = k (d - 1) from if_neg c]; exact (hst (d - 1) (by omega) (by omega)).1
    rw [eu]
    refine ⟨fun w => by rw [a12] at w ⊢; omega, by omega, fun M8 e8 => ?_⟩
    have b12 : M8 1 0 12 = d := by rw [e8]; simp only [sl_wr]; rw [if_neg (by omega)]; exact a12
    have b15 : M8 1 15 = M 1 15 := by funext y; rw [e8]; simp only [sl_wr]; rw [if_neg (by omega)]; rw [a15]
    have es : (if M8 1 0 12 ≠ 0 then M8 1 15 (M8 1 0 12 - 1) else 0) = sid d B k := by
      rw [b12, b15]
      by_cases c : d = 0
      · rw [if_neg (fun w => w c), show sid d B k = 0 from if_pos c]
      · rw [if_pos c, show sid d B k = B (161 + k (d - 1)) from if_neg c]; exact (hst (d - 1) (by omega) (by omega)).2
    rw [es]
    have ev : (if x ≠ 0 then (-1) else t q - 97) = (if x = 0 then t q - 97 else -1) := by
      by_cases c : x = 0
      · rw [if_neg (fun w => w c), if_pos c]
      · rw [if_pos c, if_neg c]
    rw [ev]
    refine ⟨fun w => by rw [b12] at w ⊢; omega, by omega, fun M12 e12 => ⟨by omega, fun M14 e14 => ⟨by omega, by have := h.2.2.1; rename_i g _ _; split <;> omega, fun M18 e18 => ⟨by omega, fun M20 e20 => ⟨by omega, fun M22 e22 => ?_⟩⟩⟩⟩⟩
    have f22 : ∀ (o i : Nat) (j : Int), ¬ (o = 1 ∧ i = 12) → M22 o i j = M o i j := fun o i j w => by
      rw [e22, e20, e18, e14, e12, e8, e4', e2]; simp only [sl_wr]
      rw [if_neg (by omega), if_neg (by omega), if_neg (by omega), if_neg (by omega), if_neg (by omega), if_neg (by omega), if_neg (by omega), if_neg (by omega)]
    have r22 : ∀ j, 0 ≤ j → j < 990 → ¬ exc d B k j → M22 1 12 j = nwB B (tpo d k) (sid d B k) x (t q) j := by
      intro j j0 j1 w
      have e : M22 1 12 j = (if j = 41 + B 0 then B 0 + 1 else if j = 241 + B 0 then 0 else if j = 201 + B 0 then (if x = 0 then t q - 97 else -1) else if j = 161 + B 0 then 0 else if j = 121 + B 0 then sid d B k else if j = 81 + B 0 then tpo d k else if j = 1 + B 0 then x else if j = 0 then B 0 + 1 else M 1 12 j) := by
        rw [e22, e20, e18, e14, e12, e8, e4', e2]; simp only [sl_wr, eq_self, true_and]
      rw [e]
      unfold nwB
      by_cases k0 : j = 0
      · rw [if_pos k0, if_neg (by omega), if_neg (by omega), if_neg (by omega), if_neg (by omega), if_neg (by omega), if_neg (by omega), if_neg (by omega), if_pos k0]
      rw [if_neg k0, if_neg k0]
      by_cases k1 : j = 1 + B 0
      · rw [if_pos k1, if_neg (by omega), if_neg (by omega), if_neg (by omega), if_neg (by omega), if_neg (by omega), if_neg (by omega), if_pos k1]
      rw [if_neg k1, if_neg k1]
      by_cases k2 : j = 81 + B 0
      · rw [if_pos k2, if_neg (by omega), if_neg (by omega), if_neg (by omega), if_neg (by omega), if_neg (by omega), if_pos k2]
      rw [if_neg k2, if_neg k2]
      by_cases k3 : j = 121 + B 0
      · rw [if_pos k3, if_neg (by omega), if_neg (by omega), if_neg (by omega), if_neg (by omega), if_pos k3]
      rw [if_neg k3, if_neg k3]
      by_cases k4 : j = 161 + B 0
      · rw [if_pos k4, if_neg (by omega), if_neg (by omega), if_neg (by omega), if_pos k4]
      rw [if_neg k4, if_neg k4]
      by_cases k5 : j = 201 + B 0
      · rw [if_pos k5, if_neg (show ¬ (j = 41 + B 0) by omega), if_neg (show ¬ (j = 241 + B 0) by omega), if_pos k5]
      rw [if_neg k5, if_neg k5]
      by_cases k6 : j = 241 + B 0
      · rw [if_pos k6, if_neg (by omega), if_pos k6]
      rw [if_neg k6, if_neg k6]
      by_cases k7 : j = 41 + B 0
      · rw [if_pos k7, if_pos k7]
      rw [if_neg k7, if_neg k7, if_neg (by omega)]
      exact hrow j j0 j1 w
    have F22 : FRd M M22 := fun o i j w => f22 o i j (by omega)
    have v12 : M22 1 0 12 = d := by rw [f22 1 0 12 (by omega)]; exact h12
    have vst : ∀ a, 0 ≤ a → a < d → M22 1 14 a = k a ∧ M22 1 15 a = B (161 + k a) := fun a a0 a1 => ⟨by rw [f22 1 14 a (by omega)]; exact (hst a a0 a1).1, by rw [f22 1 15 a (by omega)]; exact (hst a a0 a1).2⟩
    have v9 : M22 1 0 9 = q + 1 := by rw [f22 1 0 9 (by omega)]; exact h9
    refine ⟨fun z => mid M22 F22 (fun w => z w.1) (by rw [v9, show stP t L q x = q + 1 from if_neg z]) v12 r22 vst, fun z => kX10_takeT (F22.txt h) v9 (by omega) (fun N fN gN n9 n10 => ⟨_, rfl, fun y => ?_, fun y => ?_⟩)⟩
    · have z' : x = 0 := Classical.byContradiction z
      have lt : sp t L (q + 1) < L := by
        refine Classical.byContradiction fun w => ?_
        have y' : ch t L (sp t L (q + 1)) = 61 := y
        unfold ch at y'
        rw [if_pos (by omega)] at y'; omega
      rw [if_pos lt] at n9
      exact mid N (F22.tr fN) (fun w => w.2 y) (by rw [n9, show stP t L q x = sp t L (q + 1) + 1 from if_pos z']) (by rw [gN 1 0 12 (by omega)]; exact v12) (fun j j0 j1 w => by rw [gN 1 12 j (by omega)]; exact r22 j j0 j1 w) (fun a a0 a1 => ⟨by rw [gN 1 14 a (by omega)]; exact (vst a a0 a1).1, by rw [gN 1 15 a (by omega)]; exact (vst a a0 a1).2⟩)
    · have z' : x = 0 := Classical.byContradiction z
      have hN := hQ N _ rfl (F22.tr fN)
      rw [if_pos ⟨z', y⟩] at hN
      exact hN (fun _ => n10) (fun w => (w rfl).elim)
  refine eX10_readsStatement (vX10_readsStatement_0 fun _ _ => kX10_kindOf ⟨_, rfl, fun y5 ey5 => ?_⟩)
  rw [hx] at ey5 ⊢
  have hy5 : y5 ≠ 0 ↔ isJ x := by
    rw [ey5]
    by_cases j : x = 3 ∨ ¬ (x ≠ 4)
    · rw [if_pos j]; exact ⟨fun _ => by unfold isJ; omega, fun _ => by omega⟩
    · rw [if_neg j]; exact ⟨fun w => (w rfl).elim, fun w => (j (by unfold isJ at w; omega)).elim⟩
  rw [e0]
  refine ⟨fun z => bad (Or.inl z), fun z => ⟨fun z2 => bad (Or.inr (Or.inl z2)), fun z2 => ⟨fun z3 => at50 y5 hy5 ?_, fun z3 => kX10_isInLoop (by rw [h12]; omega) (by rw [h12]; exact hst0) ⟨_, rfl, fun y => at50 y5 hy5 ?_, fun y => bad ?_⟩⟩⟩⟩
  · rintro (w | w | w)
    · exact z w
    · exact z2 w
    · exact z3 (by have := w.1; unfold isJ at this; omega)
  · rintro (w | w | w)
    · exact z w
    · exact z2 w
    · refine w.2 (Classical.byContradiction fun u => y ?_)
      rw [cif0 (fun v => u (il.mp v))]
  · refine Or.inr (Or.inr ⟨by unfold isJ; omega, fun u => y ?_⟩)
    rw [cif1 (il.mpr u)]; omega
end K
