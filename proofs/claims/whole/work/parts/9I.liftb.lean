/-! The class: buildLifted -/
section S
variable {R rho R2 rho2 fs es : Int → Int} {i j : Int} {M : sl_M} {l : Launch} {Q : sl_R}
/-- the calls behind the lift -/
theorem Lft.cl (h : Good R rho) (hX : Lft R rho R2 rho2 i j fs es) {k : Int} (k0 : 0 ≤ k) (k1 : k < ly R rho 0 0) : (∀ c, R 789 ≤ c → c < R2 789 → fs c = k → clR R2 (tk R k) = c) ∧ ((∀ c, R 789 ≤ c → c < R2 789 → fs c ≠ k) → clR R2 (tk R k) = clR R (tk R k) ∧ (clR R (tk R k) ≠ -1 → eR R2 (tk R k) = eR R (tk R k))) := by
  have hG2 := hX.good h
  have hc := hX.cut
  obtain ⟨x1, x2, x3, x4, nm, x6, x7, x8, x9, hs, hn, hb⟩ := hX
  constructor
  · intro c c0 c1 e
    have cn := hG2.cn (c := c) ⟨by have := h.2.2.2.1; omega, c1⟩
    have : ca R2 c = tk R k := by rw [← e]; exact (x8 c c0 c1).1
    rw [this] at cn
    exact cn.2.1
  · intro hno
    by_cases q : clR R2 (tk R k) = -1
    · -- then it was none before
      have q1 : clR R (tk R k) = -1 := by
        refine Classical.byContradiction fun z => ?_
        obtain ⟨c0, c1, c2⟩ := clR_spec z
        obtain ⟨r0, a1, -⟩ := x7 _ c0 c1
        refine cat_find (R := R2) (t := tk R k) 41 0 (clR R (tk R k)) (by omega) c0 (by omega) (by omega) ?_ q
        rw [a1]; exact c2
      exact ⟨by rw [q, q1], fun z => (z q1).elim⟩
    · obtain ⟨c0, c1, c2⟩ := clR_spec q
      by_cases lt : clR R2 (tk R k) < R 789
      · obtain ⟨r0, a1, a2, -⟩ := x7 _ c0 lt
        have cn := h.cn (c := clR R2 (tk R k)) ⟨c0, lt⟩
        have ea : ca R (clR R2 (tk R k)) = tk R k := by
          have : R (790 + clR R2 (tk R k)) = tk R k := by rw [← a1]; exact c2
          exact this
        rw [ea] at cn
        refine ⟨cn.2.1.symm, fun _ => ?_⟩
        show cutR R2 (41 + R2 (830 + clR R2 (tk R k))) = cutR R (41 + R (830 + clR R (tk R k)))
        rw [hc, a2, cn.2.1]
      · exfalso
        obtain ⟨a1, a2, a3, a4, a5, a6⟩ := x8 _ (by omega) c1
        have e : tk R (fs (clR R2 (tk R k))) = tk R k := by rw [← a1]; exact c2
        have p1 := a6.1
        have i1 := (h.at (k := fs (clR R2 (tk R k))) p1.1 (by have := p1.2.1; have := p1.2.2.1; omega)).2.2.2.1
        have i2 := (h.at k0 (by omega)).2.2.2.1
        rw [e] at i1
        exact hno _ (by omega) c1 (by omega)
/-- a statement that stays as it is -/
theorem Lft.same (h : Good R rho) (hX : Lft R rho R2 rho2 i j fs es) {k a : Int} (k0 : 0 ≤ k) (k1 : k < ly R rho 0 0) (ht : tk R2 a = tk R k) (hno : ∀ c, R 789 ≤ c → c < R2 789 → fs c ≠ k) :
    ly R2 rho2 1 a = ly R rho 1 k ∧ ly R2 rho2 4 a = ly R rho 4 k ∧ ly R2 rho2 5 a = ly R rho 5 k ∧ ly R2 rho2 6 a = ly R rho 6 k ∧ ly R2 rho2 7 a = ly R rho 7 k ∧ ly R2 rho2 10 a = ly R rho 10 k ∧ ly R2 rho2 11 a = ly R rho 11 k ∧ (∀ x, 0 ≤ x → x < 16 → ly R2 rho2 12 (16 * a + x) = ly R rho 12 (16 * k + x)) ∧ nxt (clR R2) (eR R2) (tk R k) = nxt (clR R) (eR R) (tk R k) := by
  have hc := hX.cut
  have cl := (hX.cl h k0 k1).2 hno
  obtain ⟨x1, x2, x3, x4, nm, x6, x7, x8, x9, hs, hn, hb⟩ := hX
  have e12 : ∀ (R rho : Int → Int) (k i : Int), 0 ≤ i → i < 16 → ly R rho 12 (16 * k + i) = if clR R (tk R k) ≠ -1 then (if i < irem (R (910 + clR R (tk R k))) 16 then 97 + nib (R (910 + clR R (tk R k))) i else if i = irem (R (910 + clR R (tk R k))) 16 then 62 else 97 + nib (R (950 + clR R (tk R k))) (i - irem (R (910 + clR R (tk R k))) 16 - 1)) else cutR R ((281 + (12 * tk R k)) + i) := by
    intro R rho k i i0 i1
    show (if clR R (tk R ((16 * k + i) / 16)) ≠ -1 then (if (16 * k + i) % 16 < irem (R (910 + clR R (tk R ((16 * k + i) / 16)))) 16 then 97 + nib (R (910 + clR R (tk R ((16 * k + i) / 16)))) ((16 * k + i) % 16) else if (16 * k + i) % 16 = irem (R (910 + clR R (tk R ((16 * k + i) / 16)))) 16 then 62 else 97 + nib (R (950 + clR R (tk R ((16 * k + i) / 16)))) ((16 * k + i) % 16 - irem (R (910 + clR R (tk R ((16 * k + i) / 16)))) 16 - 1)) else cutR R ((281 + (12 * tk R ((16 * k + i) / 16))) + (16 * k + i) % 16)) = _
    rw [show (16 * k + i) / 16 = k by omega, show (16 * k + i) % 16 = i by omega]
  show (if clR R2 (tk R2 a) ≠ -1 then (7 : Int) else cutR R2 (1 + tk R2 a)) = (if clR R (tk R k) ≠ -1 then 7 else cutR R (1 + tk R k)) ∧ cutR R2 (121 + tk R2 a) = cutR R (121 + tk R k) ∧ (if clR R2 (tk R2 a) ≠ -1 then (0 : Int) else cutR R2 (161 + tk R2 a)) = (if clR R (tk R k) ≠ -1 then 0 else cutR R (161 + tk R k)) ∧ (if clR R2 (tk R2 a) ≠ -1 then R2 (870 + clR R2 (tk R2 a)) else cutR R2 (201 + tk R2 a)) = (if clR R (tk R k) ≠ -1 then R (870 + clR R (tk R k)) else cutR R (201 + tk R k)) ∧ (if clR R2 (tk R2 a) ≠ -1 then rho2 (clR R2 (tk R2 a)) else 16434824) = (if clR R (tk R k) ≠ -1 then rho (clR R (tk R k)) else 16434824) ∧ (if clR R2 (tk R2 a) ≠ -1 then lset (R2 (910 + clR R2 (tk R2 a))) else uses (cutR R2) (tk R2 a)) = (if clR R (tk R k) ≠ -1 then lset (R (910 + clR R (tk R k))) else uses (cutR R) (tk R k)) ∧ (if clR R2 (tk R2 a) ≠ -1 then irem (R2 (910 + clR R2 (tk R2 a))) 16 + 1 + irem (R2 (950 + clR R2 (tk R2 a))) 16 else cutR R2 (241 + tk R2 a)) = (if clR R (tk R k) ≠ -1 then irem (R (910 + clR R (tk R k))) 16 + 1 + irem (R (950 + clR R (tk R k))) 16 else cutR R (241 + tk R k)) ∧ _ ∧ _
  rw [ht, cl.1, hc]
  by_cases z : clR R (tk R k) ≠ -1
  · obtain ⟨c0, c1, c2⟩ := clR_spec z
    obtain ⟨r0, a1, a2, a3, a4, a5⟩ := x7 _ c0 c1
    rw [r0, a3, a4, a5]
    refine ⟨rfl, rfl, rfl, rfl, rfl, rfl, rfl, fun x x0 x1 => ?_, ?_⟩
    · rw [e12 R2 _ a x x0 x1, e12 R _ k x x0 x1, ht, cl.1, if_pos z, if_pos z, a4, a5]
    · unfold nxt; rw [cl.1, if_pos z, if_pos z, cl.2 z]
  · refine ⟨rfl, rfl, rfl, by simp only [if_neg z], by simp only [if_neg z], by simp only [if_neg z], by simp only [if_neg z], fun x x0 x1 => ?_, ?_⟩
    · rw [e12 R2 _ a x x0 x1, e12 R _ k x x0 x1, ht, cl.1, if_neg z, if_neg z, hc]
    · unfold nxt; rw [cl.1, if_neg z, if_neg z]
/-- the list that the class has of the new calls -/
def LfK (R R2 rho2 fs : Int → Int) (i : Int) (K : List (Int × (Int → Int))) : Prop := R2 789 = R 789 + 1 + K.length ∧ fs (R 789) = i ∧ rho2 (R 789) = 16434824 ∧ ∀ (a : Nat) (q : Int × (Int → Int)), K[a]? = some q → fs (R 789 + 1 + a) = q.1 ∧ rho2 (R 789 + 1 + a) = pkn q.2 ∧ pkn q.2 ≠ -1
theorem bod_cong (h : Good R rho) (hX : Lft R rho R2 rho2 i j fs es) {c : Nat} (hc : CdA M c (sft (ly R rho) i (ly R rho 3 j - i))) : CdA M c (bod R2 (R 761)) := by
  have ct := hX.cut
  have mt := hX.meth h
  obtain ⟨x1, x2, x3, x4, nm, x6, x7, x8, x9, hs, hn, hb⟩ := hX
  have cf := h.cf hs hn
  obtain ⟨c1, c2, c3, c4, c5, c6, c7, c8⟩ := cf
  have eb : bod R2 (R 761) = sft (tp (cutR R)) (tk R i) (ly R rho 3 j - i) := by
    unfold bod
    rw [ct, mt.1, mt.2.1, c3, show tk R i + (ly R rho 3 j - i) - tk R i = ly R rho 3 j - i by omega]
  rw [eb]
  have wf := sft_wf h.1.1 c2
  rw [c3, show tk R i + (ly R rho 3 j - i) - tk R i = ly R rho 3 j - i by omega] at wf
  refine hc.cong wf rfl (fun k k0 k1 => ?_)
  have k1 : k < ly R rho 3 j - i := k1
  obtain ⟨a1, a3, a2⟩ := c7 k k0 k1
  obtain ⟨p4, p5, p6, p7, p10, p11, p20, p22, p21, p12⟩ := c8 k k0 k1
  have t := h.1.2.2.2 (tk R i + k) (by have := c6.2.1; omega) (by have := c6.2.2.2.1; have e : tp (cutR R) 0 0 = cutR R 0 := rfl; omega)
  have l12 : tp (cutR R) 11 (tk R i + k) ≤ 12 := t.2.2.1.2
  refine ⟨a1.symm, ?_, ?_, ?_, p5.symm, p6.symm, p7.symm, p10.symm, p11.symm, fun x x0 x1' => ?_⟩
  · show (if tp (cutR R) 2 (tk R i + k) < tk R i then -1 else tp (cutR R) 2 (tk R i + k) - tk R i) = (if ly R rho 2 (i + k) < i then -1 else ly R rho 2 (i + k) - i)
    rcases a2 with a2 | a2
    · rw [if_pos a2.1, if_pos a2.2]
    · rw [if_neg (by omega), if_neg (by omega)]; omega
  · show tp (cutR R) 3 (tk R i + k) - tk R i = ly R rho 3 (i + k) - i
    omega
  · show (if tp (cutR R) 2 (tk R i + k) < tk R i then 0 else tp (cutR R) 4 (tk R i + k)) = (if ly R rho 2 (i + k) < i then 0 else ly R rho 4 (i + k))
    rcases a2 with a2 | a2
    · rw [if_pos a2.1, if_pos a2.2]
    · rw [if_neg (by omega), if_neg (by omega)]; omega
  · have x1' : x < ly R rho 11 (i + k) := x1'
    rw [sft_12, sft_12, p12 x x0 (by omega)]
theorem kX7_buildLifted {s s' : Nat} {K : List (Int × (Int → Int))} (hS : St M s R rho) (hs' : sl_cls s' = 7) (hne : s ≠ s') (hX : Lft R rho R2 rho2 i j fs es) (hK : LfK R R2 rho2 fs i K) (hL : TwL M K) (hsp : SpM M 7 (ly R rho) i j) (hQ : ∀ N, St N s' R2 rho2 → (∀ o a b, ¬ StA s' o → N o a b = M o a b) → Q none N) : sl_Runs l mX7_buildLifted [vR s' 0, vR s 0, vR 7 0, vR 8 0] M Q := by
  obtain ⟨hs7, hG, hC, h2, hR⟩ := hS
  have hG2 := hX.good hG
  have hc := hX.cut
  have mt := hX.meth hG
  have hXX := hX
  obtain ⟨x1, x2, x3, x4, nm, x6, x7, x8, x9, hs, hn, hb⟩ := hX
  have m3 := hG.2.1
  have hT := hG.1
  have sr := cls7 hs7
  have sr' := cls7 hs'
  have hw := hG.wf
  have hw2 := hG2.wf
  have n0 := hw.n0
  have n02 := hw2.n0
  have cs0 := hG.2.2.2.1
  have c10 : sl_cls (s + 10) = 0 := (cls_r hs7 (m := 0) (by omega)).2.2
  have c10' : sl_cls (s' + 10) = 0 := (cls_r hs' (m := 0) (by omega)).2.2
  have r22 := hG.rdb.2.2.2
  have cf := hG.cf hs hn
  obtain ⟨o8, l1, l2, mi, mo⟩ := lists_sp hG hs hn hb
  have sp := hsp
  obtain ⟨q0, q1, q2, q3, q4, q5, q6, q7⟩ := hsp
  have aj := hw.af (k := j) (by have := hs.1; have := hs.2.1; omega) hs.2.2.1
  have k40 : K.length ≤ 40 := by have := hK.1; omega
  have K40 : (K.length : Int) ≤ 39 := by have := hK.1; omega
  -- the program
  have prog : ∀ (n : Nat) (k a x : Int) (N : sl_M), (ly R rho 0 0 - k).toNat ≤ n → 0 ≤ k → k ≤ ly R rho 0 0 → 0 ≤ x → x ≤ k → 0 ≤ a → a ≤ ly R2 rho2 0 0 → tk R2 a = tk R k → (∀ c, R 789 ≤ c → c < R2 789 → ¬ (fs c < k ∧ k < ly R rho 3 (es c))) → (∀ o a b, ¬ StA s' o → N o a b = M o a b) → N s' 0 2 = R2 761 → (∀ q, 0 ≤ q → q < R2 761 → SRt N s' R2 q) → CdA N (s' + 10) (tr (ly R2 rho2) a) → (∀ p, 0 ≤ p → p < k → (∀ c, R 789 ≤ c → c < R2 789 → ¬ (fs c ≤ p ∧ p < ly R rho 3 (es c))) → N s' 4 p = ixn (clR R2) (eR R2) (tk R p).toNat) → sl_At l mX7_buildLifted 94 [(0, vR s' 0), (1, vR s 0), (2, vR 7 0), (3, vR 8 0), (4, vI (R 761)), (5, vI (ly R rho 3 j - i)), (6, vI k), (7, vI x)] [] N Q := by
    intro n
    induction n with
    | zero =>
      intro k a x N hk k0 k1 x0 xk a0 a1 ht hin hF h02 hq hA hp
      have fin : Q none N := by
        have ek : k = ly R rho 0 0 := by omega
        have e1 : tk R k = cutR R 0 := by rw [ek]; exact hG.end
        have at2 := hG2.at a0 a1
        have ea : a = ly R2 rho2 0 0 := by
          have z := at2.2.2.2.1
          rw [ht, e1] at z
          have e2 : ly R2 rho2 0 0 = ixn (clR R2) (eR R2) (cutR R2 0).toNat := rfl
          rw [e2, hc]; exact z.symm
        rw [ea] at hA
        exact hQ N ⟨hs', hG2, CdA.full hw2 hA, h02, hq⟩ hF
      refine vX7_buildLifted_94 hs' hs7 rfl fun _ _ _ _ _ => ⟨fun _ => fin, fun _ => ⟨fun _ => fin, fun z => ?_⟩⟩
      rw [hF (s + 10) 0 11 (by unfold StA; omega), hC.2.1.1] at z
      omega
    | succ n ih =>
      intro k a x N hk k0 k1 x0 xk a0 a1 ht hin hF h02 hq hA hp
      by_cases kn : k = ly R rho 0 0
      · exact ih k a x N (by omega) k0 k1 x0 xk a0 a1 ht hin hF h02 hq hA hp
      have kl : k < ly R rho 0 0 := by omega
      have fsr : ∀ a b, N (s + 10) a b = M (s + 10) a b := fun a b => hF _ a b (by unfold StA; omega)
      have fC : CdA N (s + 10) (ly R rho) := hC.frame fsr
      have atk := hG.at k0 k1
      have atk1 := atk.2.2.2.2 kl
      have ata := hG2.at a0 a1
      have ean : a < ly R2 rho2 0 0 := by
        refine Int.not_le.mp fun q => ?_
        have ea : a = ly R2 rho2 0 0 := by omega
        have e2 : tk R2 a = cutR R2 0 := by rw [ea]; exact hG2.end
        rw [hc] at e2; omega
      have na := (ata.2.2.2.2 ean).2
      have ia : ixn (clR R2) (eR R2) (tk R k).toNat = a := by have := ata.2.2.2.1; rw [ht] at this; exact this
      obtain ⟨d1, d2, d3, d4⟩ := fC.2.1.2 k k0 kl
      obtain ⟨e1, e2, e3, e4', e5, e6, e7, e8, e9⟩ := fC.2.2.1 k k0 kl
      -- where the parent is
      have par : ly R2 rho2 2 a = if ly R rho 2 k < 0 then -1 else N s' 4 (ly R rho 2 k) := by
        have p1 : ly R2 rho2 2 a = ix (clR R2) (eR R2) (tp (cutR R) 2 (tk R k)) := by
          show ix (clR R2) (eR R2) (tp (cutR R2) 2 (tk R2 a)) = _
          rw [hc, ht]
        rw [p1]
        rcases hG.par k0 kl with ⟨z1, z2⟩ | ⟨z1, z2, z3, z4, z5, z6⟩
        · unfold ix; rw [if_pos z1, if_pos (by omega)]
        · have q := hp (ly R rho 2 k) z2 z3 (fun c c0 c1 w => ?_)
          · unfold ix; rw [if_neg (by omega), if_neg (by omega), q, z4]
          · -- the parent of what is outside is outside
            have nsp := (x8 c c0 c1).2.2.2.2.2
            have rg := (hG.cf nsp.1 nsp.2.1).2.2.2.2.1
            have r := rg.2.2.2.2.1 (ly R rho 2 k - fs c) (by omega) (by omega)
            rw [show fs c + (ly R rho 2 k - fs c) = ly R rho 2 k by omega] at r
            have up := hw.up k0 kl z2
            have af := hw.af k0 kl
            exact hin c c0 c1 ⟨by omega, by omega⟩
      have q160 := hG2.qs160 (m := a + 1) (by omega) (by omega)
      have frS : ∀ N' : sl_M, (∀ o' a' b', o' ≠ s' + 10 → ¬ (o' = s' ∧ a' = 4 ∧ b' = k) → N' o' a' b' = N o' a' b') → ∀ q, 0 ≤ q → q < R2 761 → SRt N' s' R2 q := by
        intro N' hF' q q0 q1
        obtain ⟨r1, r2, r3, r4, r5⟩ := hq q q0 q1
        have f1 : ∀ a b, N' (rO s' q + 30) a b = N (rO s' q + 30) a b := fun a b => hF' _ a b (by unfold rO; omega) (by unfold rO; omega)
        have f0 : ∀ a b, N' (rO s' q) a b = N (rO s' q) a b := fun a b => hF' _ a b (by unfold rO; omega) (by unfold rO; omega)
        exact ⟨r1.frame f1, by rw [f0]; exact r2, by rw [f0]; exact r3, by rw [f0]; exact r4, fun e he => by rw [f0]; exact r5 e he⟩
      -- a span becomes a call
      have call : ∀ c, R 789 ≤ c → c < R2 789 → fs c = k → rho2 c ≠ -1 → sl_rg (rho2 c) → sl_At l mX7_buildLifted 133 [(0, vR s' 0), (1, vR s 0), (2, vR 7 0), (3, vR 8 0), (4, vI (R 761)), (5, vI (ly R rho 3 j - i)), (6, vI k), (7, vI x)] [vI (rho2 c)] N Q := by
        intro c c0 c1 ef hr1 hr2
        obtain ⟨a1', a2', a3', a4', a5', nsp⟩ := x8 c c0 c1
        have cl2 := (hXX.cl hG k0 kl).1 c c0 c1 ef
        have p1 := nsp.1
        have sz := nsp.2.2.1
        have p1' := p1
        rw [ef] at p1' sz
        have ae := hw.af (k := es c) (by have := p1'.1; have := p1'.2.1; omega) p1'.2.2.1
        refine vX7_buildLifted_133 hs' hs7 rfl hr2 fun _ _ _ _ _ => ⟨fun _ => ⟨by omega, ?_⟩, fun z => (hr1 (Classical.byContradiction fun w => z w)).elim⟩
        rw [d2]
        have pr := hw.pr k0 kl
        refine kX7_placeOf hs' (by omega) ⟨_, rfl, ?_⟩
        show sl_RV l mX7_addCall [vR s' 0, vI (if ly R rho 2 k < 0 then (-1) else N s' 4 (ly R rho 2 k)), vI (N (s + 10) 4 k), vI (R 761), vI (rho2 c)] N _
        rw [d4]
        have srt := hq (R 761) m3.1 (by omega)
        obtain ⟨b1, b2, b3, b4, b5⟩ := srt
        have cc : clR R2 (tk R2 a) ≠ -1 := by rw [ht, cl2]; omega
        have cca : clR R2 (tk R2 a) = c := by rw [ht, cl2]
        have eB : ocs (bod R2 (R 761)) (bod R2 (R 761) 0 0).toNat 0 = ocf (ly R rho) i j := by
          rw [sft_ocs, Int.add_zero]
          show ocs (tp (cutR R2)) (tp (cutR R2) 3 (ml0 R2 (R 761)) - mf0 R2 (R 761)).toNat (mf0 R2 (R 761)) = _
          rw [hc, mt.1, mt.2.1, ocf_told cf hT]
        have lp1 := lpk_spec (L := rnl (rho2 c) (od (sI (ly R rho) i j) [] (ocf (ly R rho) i j))) (by rw [List.length_map]; omega) rnl_8
        have lp2 := lpk_spec (L := rnl (rho2 c) (od (sO (ly R rho) i j) [] (ocf (ly R rho) i j))) (by rw [List.length_map]; omega) rnl_8
        rw [← a4', List.length_map] at lp1
        rw [← a5', List.length_map] at lp2
        have gm : ∀ (L : List Int) (b : Nat), b < L.length → (rnl (rho2 c) L).getD b 0 = rn (rho2 c) (L.getD b 0) := by
          intro L b hb'
          rw [List.getD_eq_getElem?_getD, List.getD_eq_getElem?_getD, List.getElem?_map, List.getElem?_eq_getElem hb']; rfl
        have E12 : ∀ y, 0 ≤ y → y < 16 → ly R2 rho2 12 (16 * a + y) = (if y < irem (R2 (910 + c)) 16 then 97 + nib (R2 (910 + c)) y else if y = irem (R2 (910 + c)) 16 then 62 else 97 + nib (R2 (950 + c)) (y - irem (R2 (910 + c)) 16 - 1)) := by
          intro y y0 y1
          show (if clR R2 (tk R2 ((16 * a + y) / 16)) ≠ -1 then (if (16 * a + y) % 16 < irem (R2 (910 + clR R2 (tk R2 ((16 * a + y) / 16)))) 16 then 97 + nib (R2 (910 + clR R2 (tk R2 ((16 * a + y) / 16)))) ((16 * a + y) % 16) else if (16 * a + y) % 16 = irem (R2 (910 + clR R2 (tk R2 ((16 * a + y) / 16)))) 16 then 62 else 97 + nib (R2 (950 + clR R2 (tk R2 ((16 * a + y) / 16)))) ((16 * a + y) % 16 - irem (R2 (910 + clR R2 (tk R2 ((16 * a + y) / 16)))) 16 - 1)) else _) = _
          rw [show (16 * a + y) / 16 = a by omega, show (16 * a + y) % 16 = y by omega, if_pos cc, cca]
        refine kX7_addCall (B := bod R2 (R 761)) (P2 := ly R2 rho2) (n := a) (I := sI (ly R rho) i j) (O := sO (ly R rho) i j) hs' ⟨m3.1, by omega⟩ b1 (by rw [b3]; exact mt.2.2.1) (by rw [b4]; exact mt.2.2.2.1) m8_sI m8_sO (by rw [eB]; exact pcn_len (od_nodup _ _ List.nodup_nil) (od_8 o8) mi) (by rw [eB]; exact pcn_len (od_nodup _ _ List.nodup_nil) (od_8 o8) mo) (by rw [eB]; exact l1) (by rw [eB]; exact l2) (by rw [eB]; exact o8) hA hw2 ⟨a0, ean⟩ q160 ?_ ?_ ?_ ?_ ?_ ?_ ?_ ?_ ?_ par.symm ?_ (fun N' hA' hF' => ⟨rfl, by omega, fun y ey => ⟨by omega, ?_⟩⟩)
        · show (if clR R2 (tk R2 a) ≠ -1 then (7 : Int) else _) = 7
          rw [if_pos cc]
        · show (if clR R2 (tk R2 a) ≠ -1 then (0 : Int) else _) = 0
          rw [if_pos cc]
        · show (if clR R2 (tk R2 a) ≠ -1 then R2 (870 + clR R2 (tk R2 a)) else _) = _
          rw [if_pos cc, cca]; exact a3'
        · show (if clR R2 (tk R2 a) ≠ -1 then rho2 (clR R2 (tk R2 a)) else _) = _
          rw [if_pos cc, cca]
        · show (if clR R2 (tk R2 a) ≠ -1 then lset (R2 (910 + clR R2 (tk R2 a))) else _) = _
          rw [if_pos cc, cca, a4']
          exact lset_ren l1 (od_8 o8) mi
        · show (if clR R2 (tk R2 a) ≠ -1 then irem (R2 (910 + clR R2 (tk R2 a))) 16 + 1 + irem (R2 (950 + clR R2 (tk R2 a))) 16 else _) = _
          rw [if_pos cc, cca, lp1.1, lp2.1, eB]
        · intro b hb'
          rw [eB] at hb' ⊢
          rw [E12 b (by omega) (by omega), if_pos (by rw [lp1.1]; omega), lp1.2 b hb', gm _ b hb']
        · rw [eB, E12 _ (by omega) (by omega), if_neg (by rw [lp1.1]; omega), if_pos lp1.1.symm]
        · intro b hb'
          rw [eB] at hb' ⊢
          rw [E12 _ (by omega) (by omega), if_neg (by rw [lp1.1]; omega), if_neg (by rw [lp1.1]; omega), lp1.1, show ((od (sI (ly R rho) i j) [] (ocf (ly R rho) i j)).length : Int) + 1 + b - (od (sI (ly R rho) i j) [] (ocf (ly R rho) i j)).length - 1 = b by omega, lp2.2 b hb', gm _ b hb']
        · show ly R rho 4 k = tp (cutR R2) 4 (tk R2 a)
          rw [hc, ht]; rfl
        · have ey : y = ly R rho 3 (es c) := by omega
          subst ey
          -- where the next one is told
          have cff := hG.cf nsp.1 nsp.2.1
          have nx : tk R2 (a + 1) = tk R (ly R rho 3 (es c)) := by
            rw [na, ht]
            unfold nxt
            rw [cl2, if_pos (by omega)]
            show cutR R2 (41 + R2 (830 + clR R2 (tk R k))) = _
            rw [cl2, hc, a2']
            have w := cff.1 (ly R rho 3 (es c) - fs c) (by have := nsp.1.2.1; omega) (by omega)
            rw [show fs c + (ly R rho 3 (es c) - fs c) = ly R rho 3 (es c) by omega] at w
            rw [w]
            exact cff.2.2.1
          refine ih (ly R rho 3 (es c)) (a + 1) (x + 1) N' (by have := p1'.2.1; omega) (by have := p1'.1; have := p1'.2.1; omega) ae.2 (by omega) (by have := p1'.2.1; omega) (by omega) (by omega) nx (fun c' c0' c1' w => ?_) (fun o a b zz => by rw [hF' o a b (fun w => zz (Or.inr (Or.inl w)))]; exact hF o a b zz) (by rw [hF' s' 0 2 (by omega)]; exact h02) (frS N' (fun o a b z1 _ => hF' o a b z1)) hA' (fun p p0 p1 hnp => ?_)
          · by_cases e : c = c'
            · rw [e] at w; omega
            · have dj := x9 c c' c0 c1 c0' c1' e
              omega
          · rw [hF' s' 4 p (by omega)]
            refine hp p p0 ?_ hnp
            refine Int.not_le.mp fun w => hnp c c0 c1 ⟨by omega, p1⟩
      -- it stays
      have keep : (∀ c, R 789 ≤ c → c < R2 789 → fs c ≠ k) → sl_At l mX7_buildLifted 133 [(0, vR s' 0), (1, vR s 0), (2, vR 7 0), (3, vR 8 0), (4, vI (R 761)), (5, vI (ly R rho 3 j - i)), (6, vI k), (7, vI x)] [vI (-1)] N Q := by
        intro hno
        obtain ⟨w1, w4, w5, w6, w7, w10, w11, w12, wn⟩ := hXX.same hG k0 kl ht hno
        have m10 : m8 (ly R rho 10 k) := (r22 k k0 kl).2.1
        refine vX7_buildLifted_133 hs' hs7 rfl (by omega) fun _ _ _ _ _ => ⟨fun z => (z rfl).elim, fun _ => ?_⟩
        refine kX7_keep (S := ly R rho) (P2 := ly R2 rho2) (n := a) hs' c10' c10 (by omega) hw fC.2.1 fC.2.2.1 ⟨k0, kl⟩ hA hw2 ⟨a0, ean⟩ (cpy_same fC.2.2.1 ⟨k0, kl⟩ m10 w1 w5 w6 w7 w10 w11 (fun y y0 y1 => w12 y y0 (by omega))) q160 par w4 (fun N' hA' h4 hF' => ⟨_, rfl, by omega, by omega, ?_⟩)
        refine ih (k + 1) (a + 1) (x + 1) N' (by omega) (by omega) (by omega) (by omega) (by omega) (by omega) (by omega) (by rw [na, ht, wn, atk1.2]) (fun c c0 c1 w => ?_) (fun o a b zz => by rw [hF' o a b (fun w => zz (Or.inr (Or.inl w))) (fun w => zz (Or.inl w.1))]; exact hF o a b zz) (by rw [hF' s' 0 2 (by omega) (by omega)]; exact h02) (frS N' hF') hA' (fun p p0 p1 hnp => ?_)
        · have := hno c c0 c1
          exact hin c c0 c1 ⟨by omega, by omega⟩
        · by_cases ep : p = k
          · rw [ep, h4, ia]
          · rw [hF' s' 4 p (by omega) (by omega)]
            exact hp p p0 (by omega) hnp
      refine vX7_buildLifted_94 hs' hs7 rfl fun _ _ _ _ _ => ⟨fun z => by omega, fun _ => ?_⟩
      rw [fsr 0 11, hC.2.1.1, hF 7 0 0 (by unfold StA; omega), q0]
      refine ⟨fun z => by omega, fun _ => ⟨fun z => ?_, fun z => ?_⟩⟩
      · have hLN : TwL N K := ⟨by rw [hF 8 0 5 (by unfold StA; omega)]; exact hL.1, fun b q hq' => by rw [hF 8 4 b (by unfold StA; omega), hF 8 5 b (by unfold StA; omega)]; exact hL.2 b q hq'⟩
        refine kX8_renamingAt hLN k40 (fun y hy => ⟨_, rfl, ?_⟩)
        rcases hy with ⟨hy, ey⟩ | ⟨b, q, hq', eq', ey⟩
        · subst ey
          refine keep (fun c c0 c1 e => ?_)
          by_cases ec : c = R 789
          · rw [ec, hK.2.1] at e; omega
          · have hk1 := hK.1
            have hlt : (c - R 789 - 1).toNat < K.length := by omega
            have := (hK.2.2.2 (c - R 789 - 1).toNat _ (List.getElem?_eq_getElem hlt)).1
            rw [show R 789 + 1 + (((c - R 789 - 1).toNat : Nat) : Int) = c by omega] at this
            exact hy _ (List.getElem_mem hlt) (by rw [← this]; exact e)
        · subst ey
          have kk := hK.2.2.2 b q hq'
          have hb' : b < K.length := by
            refine Nat.not_le.mp fun w => ?_
            rw [List.getElem?_eq_none w] at hq'; cases hq'
          have hk1 := hK.1
          have nsp := (x8 (R 789 + 1 + b) (by omega) (by omega)).2.2.2.2.2
          rw [← kk.2.1]
          exact call (R 789 + 1 + b) (by omega) (by omega) (by rw [kk.1]; exact eq') (by rw [kk.2.1]; exact kk.2.2) nsp.2.2.2.2.2.2.2.2.2
      · have hk1 := hK.1
        rw [← hK.2.2.1]
        exact call (R 789) (by omega) (by omega) (by rw [hK.2.1]; omega) (by rw [hK.2.2.1]; omega) (by rw [hK.2.2.1]; omega)
  -- the methods
  have meth : ∀ (n : Nat) (x : Int) (N : sl_M), x + n = R 761 → 0 ≤ x → (∀ o a b, ¬ StA s' o → N o a b = M o a b) → (∀ q, 0 ≤ q → q < x → SRt N s' R2 q) → sl_At l mX7_buildLifted 3 [(0, vR s' 0), (1, vR s 0), (2, vR 7 0), (3, vR 8 0), (4, vI x)] [] N Q := by
    intro n
    induction n with
    | zero =>
      intro x N hx x0 hF hq
      have ex : x = R 761 := by omega
      subst ex
      refine vX7_buildLifted_3 hs' hs7 rfl fun _ _ => ?_
      rw [hF s 0 2 (by unfold StA; omega), h2]
      refine ⟨fun _ y ey => ?_, fun z => by omega⟩
      have ey : y = R 761 := by omega
      subst ey
      have k1 := cls_r hs' (m := R 761) (by omega)
      have fC : CdA N (s + 10) (ly R rho) := hC.frame (fun a b => hF _ a b (by unfold StA; omega))
      have spN : SpM N 7 (ly R rho) i j := by
        have f7 : ∀ a b, N 7 a b = M 7 a b := fun a b => hF 7 a b (by unfold StA; omega)
        refine ⟨by rw [f7]; exact q0, by rw [f7]; exact q1, by rw [f7]; exact q2, by rw [f7]; exact q3, by rw [f7]; exact q4, by rw [f7]; exact q5, by rw [f7]; exact q6, fun e he => by rw [f7, f7]; exact q7 e he⟩
      refine ⟨by omega, ?_⟩
      show sl_RV l mX5_takeFrom [vR (rO s' (R 761)) 0, vR (s + 10) 0, vR 7 0] N _
      refine kX5_takeFrom k1.1 c10 rfl k1.2.1 (by unfold rO; omega) fC hs spN (fun k k0 k1 => (r22 k k0 k1).2.1) (fun N4 t1 t2 t3 t4 t5 t6 => ⟨rfl, by omega, fun M6 e6 => kX0_empty c10' fun N7 hN7 n11 n12 hE => ⟨rfl, ?_⟩⟩)
      have f6 : ∀ o a b, ¬ (o = s' ∧ a = 0 ∧ b = 2) → M6 o a b = N4 o a b := fun o a b zz => by rw [e6]; simp only [sl_wr]; rw [if_neg (by omega)]
      have g7 : ∀ a b, N7 7 a b = M 7 a b := fun a b => by rw [hN7 7 a b (by omega), f6 7 a b (by omega), t6 7 a b (by unfold rO; omega) (by unfold rO; omega)]; exact hF 7 a b (by unfold StA; omega)
      show sl_rg (N7 7 0 2 - N7 7 0 0 + 1) ∧ ∀ y9 : Int, y9 = N7 7 0 2 - N7 7 0 0 + 1 → _
      rw [g7, g7, q0, q2]
      refine ⟨by omega, fun y9 e9 => ?_⟩
      have e9 : y9 = ly R rho 3 j - i := by omega
      subst e9
      have F7 : ∀ o a b, ¬ StA s' o → N7 o a b = M o a b := fun o a b zz => by
        rw [hN7 o a b (fun w => zz (Or.inr (Or.inl w))), f6 o a b (fun w => zz (Or.inl w.1)), t6 o a b (fun w => zz (by unfold StA; rw [w]; unfold rO; omega)) (fun w => zz (by unfold StA; rw [w]; unfold rO; omega))]
        exact hF o a b zz
      refine prog (ly R rho 0 0).toNat 0 0 0 N7 (by omega) (by omega) (by omega) (by omega) (by omega) (by omega) (by omega) rfl (fun c c0 c1 w => ?_) F7 (by rw [hN7 s' 0 2 (by omega), e6, sl_wr_s, x2]) (fun q qq0 qq1 => ?_) (hE _ rfl) (fun p p0 p1 => by omega)
      · have := (x8 c c0 c1).2.2.2.2.2.1.1; omega
      · by_cases eq : q = R 761
        · subst eq
          have u1 : ∀ a b, N7 (rO s' (R 761) + 30) a b = N4 (rO s' (R 761) + 30) a b := fun a b => by rw [hN7 _ a b (by unfold rO; omega), f6 _ a b (by unfold rO; omega)]
          have u0 : ∀ a b, N7 (rO s' (R 761)) a b = N4 (rO s' (R 761)) a b := fun a b => by rw [hN7 _ a b (by unfold rO; omega), f6 _ a b (by unfold rO; omega)]
          refine ⟨(bod_cong hG hXX t1).frame u1, by rw [u0, t2]; exact nm.2.2.1.symm, by rw [u0, t3, mt.2.2.1], by rw [u0, t4, mt.2.2.2.1], fun e he => ?_⟩
          rw [u0, t5 e he, mt.2.2.1, mt.2.2.2.1, nm.2.2.2.2.2 e he]
          unfold sA
          by_cases xe : xE (ly R rho) i (ly R rho 3 j - 1) e
          · rw [cif1 xe, cif1 xe]
          · rw [cif0 xe, cif0 xe]
            refine m8_ext (m8_and' m8_sO) (m8_and' m8_sO) (fun v hv => ?_)
            rw [bt_iand, bt_iand, bt_ior, bt_ior, bt_m1 (by omega), bt_255 hv]
        · obtain ⟨r1, r2, r3, r4, r5⟩ := hq q qq0 (by omega)
          have u1 : ∀ a b, N7 (rO s' q + 30) a b = N (rO s' q + 30) a b := fun a b => by rw [hN7 _ a b (by unfold rO; omega), f6 _ a b (by unfold rO; omega), t6 _ a b (by unfold rO; omega) (by unfold rO; omega)]
          have u0 : ∀ a b, N7 (rO s' q) a b = N (rO s' q) a b := fun a b => by rw [hN7 _ a b (by unfold rO; omega), f6 _ a b (by unfold rO; omega), t6 _ a b (by unfold rO; omega) (by unfold rO; omega)]
          exact ⟨r1.frame u1, by rw [u0]; exact r2, by rw [u0]; exact r3, by rw [u0]; exact r4, fun e he => by rw [u0]; exact r5 e he⟩
    | succ n ih =>
      intro x N hx x0 hF hq
      refine vX7_buildLifted_3 hs' hs7 rfl fun _ _ => ?_
      rw [hF s 0 2 (by unfold StA; omega), h2]
      refine ⟨fun z => by omega, fun _ => ⟨by omega, ?_⟩⟩
      obtain ⟨r1, r2, r3, r4, r5⟩ := hR x x0 (by omega)
      have k1 := cls_r hs7 (m := x) (by omega)
      have k2 := cls_r hs' (m := x) (by omega)
      have f1 : ∀ a b, N (rO s x + 30) a b = M (rO s x + 30) a b := fun a b => hF _ a b (by unfold StA rO; omega)
      have f0 : ∀ a b, N (rO s x) a b = M (rO s x) a b := fun a b => hF _ a b (by unfold StA rO; omega)
      refine kX5_copyFrom (B := bod R x) k2.1 k1.1 k2.2.1 k1.2.1 (by omega) (r1.frame f1) (fun k k0 k1 => m8_uses) (fun N' c1 c2 c3 c4 c5 c6 => ⟨rfl, by omega, ?_⟩)
      refine ih (x + 1) N' (by omega) (by omega) (fun o a b zz => ?_) (fun q qq0 qq1 => ?_)
      · rw [c6 o a b (fun w => zz (by unfold StA; rw [w]; omega)) (fun w => zz (by unfold StA; rw [w]; omega))]; exact hF o a b zz
      · by_cases eq : q = x
        · subst eq
          obtain ⟨b1, b2, b3, b4, b5, b6⟩ := x4 q qq0 (by omega)
          have eb : bod R2 q = bod R q := by
            unfold bod mf0 ml0
            rw [hc, b1, b2]
          have ei : iM R2 q = iM R q := congrArg lset b4
          have eo : oM R2 q = oM R q := congrArg lset b5
          refine ⟨by rw [eb]; exact c1, ?_, ?_, ?_, fun e he => ?_⟩
          · have : N' (rO s' q) 0 1 = N (rO s q) 0 1 := c2
            rw [this, f0, r2, b3]
          · have : N' (rO s' q) 0 2 = N (rO s q) 0 2 := c3
            rw [this, f0, r3, ei]
          · have : N' (rO s' q) 0 3 = N (rO s q) 0 3 := c4
            rw [this, f0, r4, eo]
          · have : N' (rO s' q) 5 e = N (rO s q) 5 e := c5 e he
            rw [this, f0, r5 e he, ei, eo, b6 _ sp_bd.1 sp_bd.2]
        · obtain ⟨r1, r2, r3, r4, r5⟩ := hq q qq0 (by omega)
          have h1 : ∀ a b, N' (rO s' q + 30) a b = N (rO s' q + 30) a b := fun a b => c6 _ a b (by unfold rO; omega) (by unfold rO; omega)
          have h0 : ∀ a b, N' (rO s' q) a b = N (rO s' q) a b := fun a b => c6 _ a b (by unfold rO; omega) (by unfold rO; omega)
          exact ⟨r1.frame h1, by rw [h0]; exact r2, by rw [h0]; exact r3, by rw [h0]; exact r4, fun e he => by rw [h0]; exact r5 e he⟩
  exact eX7_buildLifted (vX7_buildLifted_0 hs' hs7 rfl fun _ => meth (R 761).toNat 0 M (by omega) (by omega) (fun _ _ _ _ => rfl) (fun q qq0 qq1 => by omega))
end S
