/-! The class reads a statement -/
theorem uses_cong {A A' : Int → Int} {t : Int} (hl : 0 ≤ A (241 + t) ∧ A (241 + t) ≤ 12) (e : A' (241 + t) = A (241 + t)) (hs : ∀ i, 0 ≤ i → i < 12 → A' ((281 + 12 * t) + i) = A ((281 + 12 * t) + i)) : uses A' t = uses A t := by
  refine m8_ext m8_uses m8_uses (fun v hv => ?_)
  have h1 := uses_bt (A := A) hl hv
  have h2 := uses_bt (A := A') (t := t) (by rw [e]; exact hl) hv
  have e' : tp A' 11 t = tp A 11 t := e
  have : (bt (uses A' t) v = true) ↔ (bt (uses A t) v = true) := by
    rw [h1, h2, e']
    have l2 : tp A 11 t ≤ 12 := hl.2
    constructor
    · rintro ⟨i, i0, i1, i2⟩
      refine ⟨i, i0, i1, ?_⟩
      rw [tp12 i0 (by omega)] at i2 ⊢
      rw [← hs i i0 (by omega)]; exact i2
    · rintro ⟨i, i0, i1, i2⟩
      refine ⟨i, i0, i1, ?_⟩
      rw [tp12 i0 (by omega)] at i2 ⊢
      rw [hs i i0 (by omega)]; exact i2
  cases ha : bt (uses A' t) v <;> cases hb : bt (uses A t) v
  · rfl
  · rw [ha, hb] at this; exact absurd (this.mpr rfl) (by decide)
  · rw [ha, hb] at this; exact absurd (this.mp rfl) (by decide)
  · rfl
theorem qs_wt {P : Pg} : ∀ n : Nat, qs P n ≤ wt P n := by
  intro n
  induction n with
  | zero => exact Int.le_refl _
  | succ n ih => rw [qs, wt]; split <;> omega
section S
variable {t B k : Int → Int} {L p q d : Int}
theorem stB_wf {x c : Int} {E : Int × Int × Int × (Int → Int)} (h : RIv L p d B k) (hn : B 0 < 40) (hx : 0 ≤ x ∧ x ≤ 6) : WF (tp (stB B (tpo d k) (sid d B k) x c E)) := by
  have s01 := sid_01 h
  obtain ⟨hp, hd, hT, hS, hz⟩ := h
  have n0 : 0 ≤ B 0 ∧ B 0 ≤ 40 := hT.1.n0
  have g := stB_grw (B := B) (u := tpo d k) (s := sid d B k) (x := x) (c := c) (r := E) ⟨n0.1, hn⟩
  exact g.wf hT.1 hn (hS.opn hd.1) (by omega) s01 (fun z => by
    by_cases c : d = 0
    · exact if_pos c
    · exfalso
      rw [show tpo d k = k (d - 1) from if_neg c] at z
      have := (hS (d - 1) (by omega) (by omega)).1
      omega) (fun z z6 => by
    by_cases c : d = 0
    · exact if_pos c
    · rw [show tpo d k = k (d - 1) from if_neg c] at z6
      rw [show sid d B k = B (161 + k (d - 1)) from if_neg c]
      exact (hS (d - 1) (by omega) (by omega)).2.2.2.2.1 z6)
end S
/-- what reading changes in the class -/
def FCr (M N : sl_M) (c : Nat) : Prop := ∀ (o i : Nat) (j : Int), ¬ (o = c ∨ (o = 2 ∧ i = 0 ∧ (j = 3 ∨ j = 4))) → N o i j = M o i j
theorem FCr.tr {M N O : sl_M} {c : Nat} (h1 : FCr M N c) (h2 : FCr N O c) : FCr M O c := fun o i j z => (h2 o i j z).trans (h1 o i j z)
/-- the class holds what is being read -/
def CRl (M : sl_M) (c : Nat) (p d : Int) (B k : Int → Int) : Prop := M 2 0 4 = p ∧ M 2 0 3 = tpo d k ∧ CdA M c (tp B)
def CTx (M : sl_M) (c : Nat) (t : Int → Int) (L : Int) : Prop := sl_cls c = 0 ∧ M 2 0 2 = (c : Int) + 1 ∧ M 2 0 0 ≠ 0 ∧ M 2 0 1 = L ∧ (0 ≤ L ∧ L ≤ 160) ∧ M 0 1 = t ∧ ∀ q, 0 ≤ q → q < L → 0 ≤ t q
theorem cls_02 {c : Nat} (h : sl_cls c = 0) : c ≠ 2 ∧ c ≠ 0 := ⟨(fun z => by rw [z] at h; revert h; decide +kernel), (fun z => by rw [z] at h; revert h; decide +kernel)⟩
theorem FCr.txt {M N : sl_M} {c : Nat} {t : Int → Int} {L : Int} (f : FCr M N c) (h : CTx M c t L) : CTx N c t L := by
  obtain ⟨h1, h2, h3, h4, h5, h6, h7⟩ := h
  have cc := cls_02 h1
  refine ⟨h1, by rw [f 2 0 2 (by omega)]; exact h2, by rw [f 2 0 0 (by omega)]; exact h3, by rw [f 2 0 1 (by omega)]; exact h4, h5, ?_, h7⟩
  funext x; rw [f 0 1 x (by omega), h6]
section K
variable {l : Launch} {M : sl_M} {Q : sl_R} {t B k : Int → Int} {L q d p : Int} {c : Nat}
theorem kX4_expectT (h : CTx M c t L) {p y : Int} (hp : M 2 0 4 = p) (p0 : 0 ≤ p ∧ p ≤ L) (y0 : 0 ≤ y) (hY : ch t L (sp t L p) = y → sp t L p < L → ∀ N, FCr M N c → (∀ (o i : Nat) (j : Int), ¬ (o = 2 ∧ i = 0 ∧ j = 4) → N o i j = M o i j) → N 2 0 4 = sp t L p + 1 → Q (some (vI 1)) N) (hN : ch t L (sp t L p) ≠ y → ∀ N, FCr M N c → (∀ (o i : Nat) (j : Int), ¬ (o = 2 ∧ i = 0 ∧ j = 4) → N o i j = M o i j) → N 2 0 4 = sp t L p → Q (some (vI 0)) N) : sl_Runs l mX4_expect [vR 2 0, vI y] M Q := by
  obtain ⟨h1, h2, h3, h4, h5, h6, h7⟩ := h
  refine kX4_expect h3 (by rw [h4]; exact h5) (by rw [h4, hp]; exact p0) y0 ?_ ?_
  · rw [h4, h6, hp]; exact fun a b N f e => hY a b N (fun o i j z => f o i j (by omega)) f e
  · rw [h4, h6, hp]; exact fun a N f e => hN a N (fun o i j z => f o i j (by omega)) f e
theorem kX4_lookT (h : CTx M c t L) {p : Int} (hp : M 2 0 4 = p) (p0 : 0 ≤ p ∧ p ≤ L) (hQ : ∀ N, FCr M N c → (∀ (o i : Nat) (j : Int), ¬ (o = 2 ∧ i = 0 ∧ j = 4) → N o i j = M o i j) → N 2 0 4 = sp t L p → Q (some (vI (ch t L (sp t L p)))) N) : sl_Runs l mX4_look [vR 2 0] M Q := by
  obtain ⟨h1, h2, h3, h4, h5, h6, h7⟩ := h
  refine kX4_look h3 (by rw [h4]; exact h5) (by rw [h4, hp]; exact p0) (fun N f e => ?_)
  rw [h4, h6, hp] at e ⊢
  exact hQ N (fun o i j z => f o i j (by omega)) f e
theorem kX4_readStatement (h : CTx M c t L) (hR : CRl M c q d B k) (hI : RIv L p d B k) (hq : p ≤ q ∧ q < L) (hQ : ∀ N r, r = rdS t L q d B k → FCr M N c → (r.1 = 0 → N 2 0 4 = r.2.1) → (r.1 ≠ 0 → CRl N c r.2.1 r.2.2.1 r.2.2.2.1 r.2.2.2.2) → Q (some (vI r.1)) N) : sl_Runs l mX4_readStatement [vR 2 0, vI (t q)] M Q := by
  have hI0 := hI
  have tr' := tpo_rng hI
  have s01 := sid_01 hI
  obtain ⟨r4, r3, hC⟩ := hR
  obtain ⟨hp, hd, hT, hS, hz⟩ := hI
  have hx0 := h
  obtain ⟨h1, h2, h3, h4, h5, h6, h7⟩ := h
  have cc := cls_02 h1
  have n0 : 0 ≤ B 0 ∧ B 0 ≤ 40 := hT.1.n0
  have e11 : M c 0 11 = B 0 := hC.2.1.1
  have kr := kdA_rng (t q)
  have tq := h7 q (by omega) hq.2
  unfold rdS at hQ
  generalize hx : kdA (t q) = x at *
  have rf : FCr M M c := fun _ _ _ _ => rfl
  have bad : rdB x d B k → Q (some (vI 0)) M := fun b => by
    have := hQ M _ rfl rf
    rw [if_pos b] at this
    exact this (fun _ => r4) (fun z => (z rfl).elim)
  have at53 : ∀ x3, (x3 ≠ 0 ↔ isJ x) → ¬ rdB x d B k → sl_At l mX4_readStatement 53 [(0, vR 2 0), (1, vI (t q)), (2, vI x), (3, vI x3)] [] M Q := by
    intro x3 hx3 nb
    have b2 : B 0 ≠ 40 := fun z => nb (Or.inr (Or.inl z))
    have b1 : x ≠ -1 := fun z => nb (Or.inl z)
    rw [if_neg nb] at hQ
    have hn : 0 ≤ B 0 ∧ B 0 < 40 := by omega
    have w2 := stB_wf (x := x) (c := t q) (E := stE t L q x B) hI0 hn.2 (by omega)
    have g := stB_grw (B := B) (u := tpo d k) (s := sid d B k) (x := x) (c := t q) (r := stE t L q x B) hn
    obtain ⟨a0, a1, a2, a3, a4, a5, a6, a7, a8⟩ := stB_new (B := B) (u := tpo d k) (s := sid d B k) (x := x) (c := t q) (r := stE t L q x B) hn
    have old := fun {j : Int} (j0 : 0 ≤ j) (j1 : j < B 0) => stB_old (B := B) (u := tpo d k) (s := sid d B k) (x := x) (c := t q) (r := stE t L q x B) hn j0 j1
    have hCt : CdA M c (tr (tp (stB B (tpo d k) (sid d B k) x (t q) (stE t L q x B))) (B 0)) := by
      refine hC.cong (tr_wf w2 (by show 0 ≤ B 0 ∧ B 0 ≤ stB B (tpo d k) (sid d B k) x (t q) (stE t L q x B) 0; rw [a0]; omega)) rfl (fun j j0 j1 => ?_)
      have j1' : j < B 0 := j1
      obtain ⟨o1, o2, o3, o4, o5, o6, o7, o8⟩ := old j0 j1'
      have af : j < B (41 + j) ∧ B (41 + j) ≤ B 0 := hT.1.af j0 j1
      have ln := (hT.2.2.2 j j0 j1').2.2.1
      refine ⟨o1, o2, ?_, o3, o4, o5, rfl, uses_cong ln o6 o7, o6, fun i i0 i1 => ?_⟩
      · show min (stB B (tpo d k) (sid d B k) x (t q) (stE t L q x B) (41 + j)) (B 0) = B (41 + j)
        rw [o8]
        by_cases y : j ≤ tpo d k ∧ tpo d k < B (41 + j)
        · rw [if_pos y]
          have : B (41 + j) = B 0 := (hS.opn hd.1).up hT.1 j0 y.1 y.2
          omega
        · rw [if_neg y]; omega
      · have i1' : i < B (241 + j) := i1
        show tp (stB B (tpo d k) (sid d B k) x (t q) (stE t L q x B)) 12 (16 * j + i) = _
        rw [tp12 i0 (by omega), tp12 i0 (by omega)]
        exact o7 i i0 (by omega)
    have q12 : M c 0 12 = qs (tp (stB B (tpo d k) (sid d B k) x (t q) (stE t L q x B))) (B 0).toNat := by
      have := hCt.2.2.2.1
      rw [qs_tr, tr_0] at this; exact this
    have qp : qs (tp (stB B (tpo d k) (sid d B k) x (t q) (stE t L q x B))) (B 0).toNat ≤ q ∧ 0 ≤ qs (tp (stB B (tpo d k) (sid d B k) x (t q) (stE t L q x B))) (B 0).toNat := by
      constructor
      · have e := hC.2.2.2.1
        rw [q12] at e
        have := qs_wt (P := tp B) (B 0).toNat
        have w := hT.2.2.1
        have e' : qs (tp (stB B (tpo d k) (sid d B k) x (t q) (stE t L q x B))) (B 0).toNat = qs (tp B) (B 0).toNat := e
        omega
      · have := qs_mono (P := tp (stB B (tpo d k) (sid d B k) x (t q) (stE t L q x B))) (B 0).toNat 0 (by omega) (fun j j0 j1 => by
          show 0 ≤ stB B (tpo d k) (sid d B k) x (t q) (stE t L q x B) (241 + j)
          rw [(old j0 (by omega)).2.2.2.2.2.1]
          exact (hT.2.2.2 j j0 (by omega)).2.2.1.1)
        exact this
    -- once the expression is read
    have at145 : ∀ V, FCr M V c → ¬ (x = 0 ∧ ch t L (sp t L (q + 1)) ≠ 61) → (stE t L q x B).1 ≠ 0 → V 2 0 4 = (stE t L q x B).2.1 → (0 ≤ (stE t L q x B).2.1 ∧ (stE t L q x B).2.1 ≤ L) → V 2 0 3 = tpo d k → CdA V c (tp (stB B (tpo d k) (sid d B k) x (t q) (stE t L q x B))) → sl_At l mX4_readStatement 145 [(0, vR 2 0), (2, vI x), (4, vI (B 0))] [] V Q := by
      intro V fV c1 c2 v4 vr v3 vC
      rw [if_neg c1, if_neg c2] at hQ
      generalize hE : stE t L q x B = E at *
      have no : ∀ N, FCr V N c → ch t L (sp t L E.2.1) ≠ (if isO x then 123 else 59) → N 2 0 4 = sp t L E.2.1 → Q (some (vI 0)) N := fun N fN z n4 => by
        have := hQ N _ rfl (fV.tr fN)
        rw [if_pos z] at this
        exact this (fun _ => n4) (fun w => (w rfl).elim)
      have yes : ∀ N, FCr V N c → ch t L (sp t L E.2.1) = (if isO x then 123 else 59) → N 2 0 4 = sp t L E.2.1 + 1 → (∀ i j, N c i j = V c i j) → N 2 0 3 = (if isO x then B 0 else tpo d k) → Q (some (vI 1)) N := fun N fN z n4 nc n3 => by
        have := hQ N _ rfl (fV.tr fN)
        rw [if_neg (fun w => w z)] at this
        refine this (fun w => absurd w (by show ¬ ((1 : Int) = 0); omega)) (fun _ => ⟨n4, ?_, vC.frame nc⟩)
        rw [n3]
        show (if isO x then B 0 else tpo d k) = tpo (if isO x then d + 1 else d) (fun a => if a = d then B 0 else k a)
        by_cases o : isO x
        · rw [if_pos o, if_pos o]
          unfold tpo
          rw [if_neg (by omega), show d + 1 - 1 = d by omega]; exact (if_pos rfl).symm
        · rw [if_neg o, if_neg o]
          unfold tpo
          by_cases c : d = 0
          · rw [if_pos c, if_pos c]
          · rw [if_neg c, if_neg c]; exact (if_neg (by omega)).symm
      have op : isO x → ∀ M2, M2 = sl_wr V 2 0 3 (B 0) → sl_RI l mX4_expect [vR 2 0, vI 123] M2 (fun y4 M3 => (y4 = 0 ∨ y4 = 1) ∧ Q (some (vI y4)) M3) := by
        intro o M2 e2
        have f2 : ∀ (o i : Nat) (j : Int), ¬ (o = 2 ∧ i = 0 ∧ j = 3) → M2 o i j = V o i j := fun o i j z => by rw [e2]; simp only [sl_wr]; rw [if_neg z]
        have F2 : FCr V M2 c := fun o i j z => f2 o i j (by omega)
        refine kX4_expectT ((fV.tr F2).txt hx0) (p := E.2.1) (by rw [f2 2 0 4 (by omega)]; exact v4) vr (by omega) (fun y ylt N fN gN n4 => ⟨_, rfl, Or.inr rfl, yes N (F2.tr fN) (by rw [if_pos o]; exact y) n4 (fun i j => by rw [gN c i j (by omega)]; exact f2 c i j (by omega)) ?_⟩) (fun y N fN gN n4 => ⟨_, rfl, Or.inl rfl, no N (F2.tr fN) (by rw [if_pos o]; exact y) n4⟩)
        rw [if_pos o, gN 2 0 3 (by omega), e2]; exact sl_wr_s
      refine vX4_readStatement_145 fun _ _ _ => ⟨fun z => op (Or.inl z), fun z => ⟨fun z2 => op (Or.inr z2), fun z2 => ?_⟩⟩
      have o : ¬ isO x := fun w => w.elim z z2
      exact kX4_expectT (fV.txt hx0) v4 vr (by omega) (fun y ylt N fN gN n4 => ⟨_, rfl, Or.inr rfl, yes N fN (by rw [if_neg o]; exact y) n4 (fun i j => gN c i j (by omega)) (by rw [if_neg o, gN 2 0 3 (by omega)]; exact v3)⟩) (fun y N fN gN n4 => ⟨_, rfl, Or.inl rfl, no N fN (by rw [if_neg o]; exact y) n4⟩)
    -- before the expression
    have mid : ∀ V, FCr M V c → ¬ (x = 0 ∧ ch t L (sp t L (q + 1)) ≠ 61) → V 2 0 4 = stP t L q x → V 2 0 3 = tpo d k → Cd V c (tp (stB B (tpo d k) (sid d B k) x (t q) (stE t L q x B))) → (∀ i j, (i = 0 ∧ j ≠ 11) ∨ 11 ≤ i ∨ (5 ≤ i ∧ i ≤ 10 ∧ j ≠ B 0) → V c i j = M c i j) → V c 5 (B 0) = 0 → (x = 0 → V c 6 (B 0) = t q - 97) → V c 7 (B 0) = 16434824 → V c 8 (B 0) = M c 0 12 → V c 9 (B 0) = 0 → V c 10 (B 0) = 0 → ((x3 ≠ 0) → sl_At l mX4_readStatement 145 [(0, vR 2 0), (2, vI x), (4, vI (B 0))] [] V Q) ∧ ((¬ (x3 ≠ 0)) → sl_RI l mX4_readExpression [vR 2 0, vI (B 0)] V (fun y8 M7 => ((y8 ≠ 0) → sl_At l mX4_readStatement 145 [(0, vR 2 0), (2, vI x), (4, vI (B 0))] [] M7 Q) ∧ ((¬ (y8 ≠ 0)) → Q (some (vI 0)) M7))) := by
      intro V fV c1 v4 v3 vCd vr' v5 v6 v7 v8 v9 v10
      have pr := stP_rng (t := t) (x := x) hq.2 (fun z => Classical.byContradiction fun w => c1 ⟨z, w⟩)
      obtain ⟨k1, k2, k3, k4, k5, k6, k7⟩ := stE_ok (t := t) (q := q) (x := x) (B := B) pr.2.2
      -- the statement stands there
      have stands : ∀ N, FCr M N c → Cd N c (tp (stB B (tpo d k) (sid d B k) x (t q) (stE t L q x B))) → (stE t L q x B).1 = 1 → (∀ i j, (5 ≤ i ∧ i ≤ 10 ∧ 0 ≤ j ∧ j < B 0) ∨ (i = 11 ∧ j < M c 0 12) → N c i j = M c i j) → N c 0 12 = M c 0 12 + (stE t L q x B).2.2.1 → N c 5 (B 0) = 0 → (x = 0 → N c 6 (B 0) = t q - 97) → N c 7 (B 0) = 16434824 → N c 8 (B 0) = M c 0 12 → N c 9 (B 0) = (stE t L q x B).2.2.1 → (∀ i, 0 ≤ i → i < (stE t L q x B).2.2.1 → N c 11 (M c 0 12 + i) = (stE t L q x B).2.2.2 i) → m8 (N c 10 (B 0)) → (∀ v : Nat, v < 8 → (bt (N c 10 (B 0)) v = true ↔ ∃ i, 0 ≤ i ∧ i < (stE t L q x B).2.2.1 ∧ (stE t L q x B).2.2.2 i = 97 + (v : Int))) → CdA N c (tp (stB B (tpo d k) (sid d B k) x (t q) (stE t L q x B))) := by
        intro N fN nCd nE nr n12 n5 n6 n7 n8 n9 n11 n10 nb10
        have P0 : tp (stB B (tpo d k) (sid d B k) x (t q) (stE t L q x B)) 0 0 = B 0 + 1 := a0
        refine CdA.full w2 ?_
        rw [P0]
        have P11 : tp (stB B (tpo d k) (sid d B k) x (t q) (stE t L q x B)) 11 (B 0) = (stE t L q x B).2.2.1 := a6
        refine CdA.next hCt w2 (by rw [P0]; omega) ⟨by rw [tr_0, ← P0]; exact nCd.1, fun j j0 j1 => ?_⟩ (fun i j z => nr i j (by rw [q12]; exact z)) (by rw [P11]; exact ⟨k4, k5⟩) (by rw [P11, ← q12]; exact n12) (by rw [P11]; have := pr.1; have := h5.2; omega) (by rw [← q12]; exact n8) (by rw [P11]; exact n9) (fun i i0 i1 => ?_) (fun z => ?_) (fun z => ?_) ?_ ?_ n7
        · rw [tr_0] at j1
          obtain ⟨b1, b2, b3, b4⟩ := nCd.2 j j0 (by rw [P0]; exact j1)
          have := w2.af j0 (by rw [P0]; exact j1)
          rw [P0] at this
          refine ⟨b1, b2, ?_, b4⟩
          rw [b3, tr_3]; omega
        · rw [P11] at i1
          rw [← q12, n11 i i0 i1, tp12 i0 (by omega), a8 i i0 (by omega)]
        · have z' : x = 0 := by rw [← a1]; exact z
          have : tp (stB B (tpo d k) (sid d B k) x (t q) (stE t L q x B)) 6 (B 0) = t q - 97 := by
            show stB B (tpo d k) (sid d B k) x (t q) (stE t L q x B) (201 + B 0) = _
            rw [a5, if_pos z']
          rw [this]
          have kd := hx
          rw [z'] at kd
          have : 97 ≤ t q ∧ t q ≤ 104 := by
            unfold kdA at kd
            refine Classical.byContradiction fun w => ?_
            rw [if_neg w] at kd
            revert kd
            repeat' split
            all_goals omega
          exact ⟨n6 z', by omega, by omega⟩
        · have z' : x = 7 := by rw [← a1]; exact z
          omega
        · rw [n5]
          show 0 = stB B (tpo d k) (sid d B k) x (t q) (stE t L q x B) (161 + B 0)
          rw [a4]
        · show N c 10 (B 0) = uses (stB B (tpo d k) (sid d B k) x (t q) (stE t L q x B)) (B 0)
          refine m8_ext n10 m8_uses (fun v hv => ?_)
          have u := uses_bt (A := stB B (tpo d k) (sid d B k) x (t q) (stE t L q x B)) (t := B 0) (by rw [a6]; exact ⟨k4, k5⟩) hv
          have : (bt (N c 10 (B 0)) v = true) ↔ (bt (uses (stB B (tpo d k) (sid d B k) x (t q) (stE t L q x B)) (B 0)) v = true) := by
            rw [u, nb10 v hv, P11]
            constructor
            · rintro ⟨i, i0, i1, i2⟩
              exact ⟨i, i0, i1, by rw [tp12 i0 (by omega), a8 i i0 (by omega)]; exact i2⟩
            · rintro ⟨i, i0, i1, i2⟩
              rw [tp12 i0 (by omega), a8 i i0 (by omega)] at i2
              exact ⟨i, i0, i1, i2⟩
          cases ha : bt (N c 10 (B 0)) v <;> cases hb : bt (uses (stB B (tpo d k) (sid d B k) x (t q) (stE t L q x B)) (B 0)) v
          · rfl
          · rw [ha, hb] at this; exact absurd (this.mpr rfl) (by decide)
          · rw [ha, hb] at this; exact absurd (this.mp rfl) (by decide)
          · rfl
      refine ⟨fun z => ?_, fun z => ?_⟩
      · have j := hx3.mp z
        have eE : stE t L q x B = (1, stP t L q x, 0, fun i => B ((281 + 12 * B 0) + i)) := if_pos j
        have E1 : (stE t L q x B).1 = 1 := by rw [eE]
        have E3 : (stE t L q x B).2.2.1 = 0 := by rw [eE]
        refine at145 V fV c1 (by rw [E1]; omega) (by rw [v4, eE]) ⟨by omega, k3⟩ v3 (stands V fV vCd E1 (fun i j w => vr' i j (by omega)) (by rw [vr' 0 12 (by omega), E3]; omega) v5 v6 v7 v8 (by rw [E3]; exact v9) (fun i i0 i1 => by rw [E3] at i1; omega) (by rw [v10]; exact m8_0) (fun v hv => ?_))
        rw [v10, bt_0, E3]
        exact ⟨(fun w => by cases w), (fun ⟨i, i0, i1, _⟩ => by omega)⟩
      · have nj : ¬ isJ x := fun j => z (hx3.mpr j)
        have eE : stE t L q x B = exA t L 12 0 1 (stP t L q x) (fun i => B ((281 + 12 * B 0) + i)) := if_neg nj
        obtain ⟨T1, T2, T3, T4, T5, T6, T7⟩ := fV.txt hx0
        have P0 : tp (stB B (tpo d k) (sid d B k) x (t q) (stE t L q x B)) 0 0 = B 0 + 1 := a0
        refine kX4_readExpression h1 T2 T3 (by rw [T4]; exact T5) (by rw [T4, v4]; omega) (k := B 0) (q := M c 0 12) hn (by rw [vCd.1]; exact P0) (vr' 0 12 (by omega)) (by rw [q12, v4]; omega) v9 v10 (fun i => B ((281 + 12 * B 0) + i)) (fun N r hr fN n4 n9 nl n12 nq nL ns n10 nb => ⟨_, rfl, ?_⟩)
        rw [T4, T6, v4, ← eE] at hr
        subst hr
        have fVN : FCr V N c := fun o i j w => fN o i j (by omega)
        refine ⟨fun y => ?_, fun y => ?_⟩
        · have E1 := k1.resolve_left y
          refine at145 N (fV.tr fVN) c1 y n4 ⟨by omega, k3⟩ (by rw [fN 2 0 3 (by omega)]; exact v3) (stands N (fV.tr fVN) ⟨?_, fun j j0 j1 => ?_⟩ E1 (fun i j w => ?_) n12 (by rw [fN c 5 _ (by omega)]; exact v5) (fun w => by rw [fN c 6 _ (by omega)]; exact v6 w) (by rw [fN c 7 _ (by omega)]; exact v7) (by rw [fN c 8 _ (by omega)]; exact v8) n9 ns n10 nb)
          · rw [fN c 0 11 (by omega)]; exact vCd.1
          · rw [fN c 1 j (by omega), fN c 2 j (by omega), fN c 3 j (by omega), fN c 4 j (by omega)]; exact vCd.2 j j0 j1
          · rw [fN c i j (by omega)]; exact vr' i j (by omega)
        · have y' : (stE t L q x B).1 = 0 := Classical.byContradiction y
          have hN := hQ N _ rfl (fV.tr fVN)
          rw [if_neg c1, if_pos y'] at hN
          exact hN (fun _ => n4) (fun w => (w rfl).elim)
    -- the statement is added
    have at86 : sl_At l mX4_readStatement 86 [(0, vR 2 0), (1, vI (t q)), (2, vI x), (3, vI x3)] [vI (sid d B k), vI (tpo d k), vI x, vR c 0] M Q := by
      refine vX4_readStatement_86 h1 (by omega) (by omega) (by omega) fun _ _ _ _ => kX0_add h1 w2 hC.2.1 (n := B 0) rfl n0.1 a0 (g.old hT.1 (hS.opn hd.1)) a1.symm a2.symm a3.symm (fun N nCd nf ng m5 m6 m7 m8' m9 m10 => ⟨_, rfl, ?_⟩)
      have n4 : N 2 0 4 = q := by rw [nf 2 0 4 (by omega)]; exact r4
      show sl_rg (N 2 0 4 + 1) ∧ _
      rw [n4]
      refine ⟨by omega, fun M4 e4' => ?_⟩
      have f4 : ∀ (o i : Nat) (j : Int), ¬ (o = 2 ∧ i = 0 ∧ j = 4) → M4 o i j = N o i j := fun o i j z => by rw [e4']; simp only [sl_wr]; rw [if_neg z]
      have v4 : M4 2 0 4 = q + 1 := by rw [e4']; exact sl_wr_s
      have F4 : FCr M M4 c := fun o i j z => by rw [f4 o i j (by omega)]; exact nf o i j (by omega)
      have fc : ∀ i j, M4 c i j = N c i j := fun i j => f4 c i j (by omega)
      have v3 : M4 2 0 3 = tpo d k := by rw [f4 2 0 3 (by omega), nf 2 0 3 (by omega)]; exact r3
      have vCd : Cd M4 c (tp (stB B (tpo d k) (sid d B k) x (t q) (stE t L q x B))) := ⟨by rw [fc]; exact nCd.1, fun j j0 j1 => by rw [fc, fc, fc, fc]; exact nCd.2 j j0 j1⟩
      refine ⟨fun z => mid M4 F4 (fun w => z w.1) (by rw [v4, show stP t L q x = q + 1 from if_neg z]) v3 vCd (fun i j w => by rw [fc]; exact ng i j w) (by rw [fc]; exact m5) (fun w => (z w).elim) (by rw [fc]; exact m7) (by rw [fc]; exact m8') (by rw [fc]; exact m9) (by rw [fc]; exact m10), fun z => ⟨c, ⟨by rw [F4 2 0 2 (by omega)]; exact h2, h1⟩, hn, fun M12 e12 => ?_⟩⟩
      have z' : x = 0 := Classical.byContradiction z
      have f12 : ∀ (o i : Nat) (j : Int), ¬ (o = c ∧ i = 6 ∧ j = B 0) → M12 o i j = M4 o i j := fun o i j w => by rw [e12]; simp only [sl_wr]; rw [if_neg w]
      have F12 : FCr M4 M12 c := fun o i j w => f12 o i j (by omega)
      have v6 : M12 c 6 (B 0) = t q - 97 := by
        rw [e12, sl_wr_s]
        have kd := hx
        rw [z'] at kd
        have : 97 ≤ t q ∧ t q ≤ 104 := by
          unfold kdA at kd
          refine Classical.byContradiction fun w => ?_
          rw [if_neg w] at kd
          revert kd
          repeat' split
          all_goals omega
        unfold sp_var
        rw [if_pos (by omega)]
      refine kX4_expectT ((F4.tr F12).txt hx0) (p := q + 1) (by rw [f12 2 0 4 (by omega)]; exact v4) (by omega) (by omega) (fun y ylt O fO gO o4 => ⟨_, rfl, fun _ => ?_, fun w => absurd (by show (1 : Int) ≠ 0; omega) w⟩) (fun y O fO gO o4 => ⟨_, rfl, fun w => (w rfl).elim, fun _ => ?_⟩)
      · have gc : ∀ i j, ¬ (i = 6 ∧ j = B 0) → O c i j = N c i j := fun i j w => by rw [gO c i j (by omega), f12 c i j (by omega)]; exact fc i j
        refine mid O ((F4.tr F12).tr fO) (fun w => w.2 y) (by rw [o4, show stP t L q x = sp t L (q + 1) + 1 from if_pos z']) (by rw [gO 2 0 3 (by omega), f12 2 0 3 (by omega)]; exact v3) ⟨by rw [gc 0 11 (by omega)]; exact nCd.1, fun j j0 j1 => by rw [gc 1 j (by omega), gc 2 j (by omega), gc 3 j (by omega), gc 4 j (by omega)]; exact nCd.2 j j0 j1⟩ (fun i j w => by rw [gc i j (by omega)]; exact ng i j w) (by rw [gc 5 _ (by omega)]; exact m5) (fun _ => by rw [gO c 6 _ (by omega)]; exact v6) (by rw [gc 7 _ (by omega)]; exact m7) (by rw [gc 8 _ (by omega)]; exact m8') (by rw [gc 9 _ (by omega)]; exact m9) (by rw [gc 10 _ (by omega)]; exact m10)
      · have hN := hQ O _ rfl ((F4.tr F12).tr fO)
        rw [if_pos ⟨z', y⟩] at hN
        exact hN (fun _ => o4) (fun w => (w rfl).elim)
    refine vX4_readStatement_53 fun _ _ _ _ => ⟨c, ⟨h2, h1⟩, ?_⟩
    rw [r3]
    refine ⟨fun z => ?_, fun z => ?_⟩
    · have d0 : d ≠ 0 := fun w => z (if_pos w)
      have et : tpo d k = k (d - 1) := if_neg d0
      have es : sid d B k = B (161 + k (d - 1)) := if_neg d0
      have u := (hS (d - 1) (by omega) (by omega)).1
      have m5 : M c 5 (tpo d k) = sid d B k := by
        rw [et, es]
        exact (hC.2.2.1 (k (d - 1)) u.1 u.2).2.2.2.2.2.2.1
      rw [m5]
      exact ⟨by omega, at86⟩
    · have z' : tpo d k = -1 := Classical.byContradiction z
      have d0 : d = 0 := by
        refine Classical.byContradiction fun w => ?_
        rw [show tpo d k = k (d - 1) from if_neg w] at z'
        have := (hS (d - 1) (by omega) (by omega)).1
        omega
      have es : sid d B k = 0 := if_pos d0
      have := at86
      rw [es] at this
      exact this
  refine eX4_readStatement (vX4_readStatement_0 fun _ _ => kX4_kindOf ⟨_, rfl, ?_⟩)
  rw [hx]
  refine ⟨fun z => bad (Or.inl z), fun z => ⟨c, ⟨h2, h1⟩, ?_⟩⟩
  rw [e11]
  refine ⟨fun z2 y8 ey8 => ?_, fun z2 => bad (Or.inr (Or.inl (by omega)))⟩
  have hy8 : y8 ≠ 0 ↔ isJ x := by
    rw [ey8]
    by_cases j : x = 3 ∨ ¬ (x ≠ 4)
    · rw [if_pos j]; exact ⟨fun _ => by unfold isJ; omega, fun _ => by omega⟩
    · rw [if_neg j]; exact ⟨fun w => (w rfl).elim, fun w => (j (by unfold isJ at w; omega)).elim⟩
  have il : (tpo d k ≠ -1 ∧ (tp B 1 (tpo d k) = 6 ∨ la (tp B) 0 40 (tp B 2 (tpo d k)) ≠ -1)) ↔ inL d B k := hS.inlo hT.1 hd.1
  refine ⟨fun z3 => at53 y8 hy8 ?_, fun z3 => kX4_inLoop h1 hC.1 hC.2.1 h2 (by rw [r3]; show tpo d k = -1 ∨ (0 ≤ tpo d k ∧ tpo d k < B 0); omega) ⟨_, rfl, fun y => at53 y8 hy8 ?_, fun y => bad ?_⟩⟩
  · rintro (w | w | w)
    · exact z w
    · omega
    · exact z3 (by have := w.1; unfold isJ at this; omega)
  · rintro (w | w | w)
    · exact z w
    · omega
    · refine w.2 (Classical.byContradiction fun u => y ?_)
      rw [r3, if_neg (fun v => u (il.mp v))]
  · refine Or.inr (Or.inr ⟨by unfold isJ; omega, fun u => y ?_⟩)
    rw [r3, if_pos (il.mpr u)]; omega
end K
