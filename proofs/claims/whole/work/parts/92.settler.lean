/-! The reference settles a method -/
section S
variable {rho : Int → Int} {m : Int} {M : sl_M} {l : Launch} {Q : sl_R}
/-- a call that stays, in the row under way -/
def StC (R R2 : Int → Int) (m : Int) (sg : Int → Int) (c : Int) : Prop := (0 ≤ sg c ∧ sg c < R 789) ∧ R (870 + sg c) ≠ m ∧ R2 (790 + c) = R (790 + sg c) ∧ R2 (830 + c) = R (830 + sg c) ∧ R2 (910 + c) = R (910 + sg c) ∧ R2 (950 + c) = R (950 + sg c) ∧ R2 (870 + c) = (if R (870 + sg c) ≤ m then R (870 + sg c) else R (870 + sg c) - 1)
/-- only the methods' and calls' numbers have changed -/
def FSe (M N : sl_M) : Prop := ∀ o i j, ¬ (o = 1 ∧ i = 1 ∧ 761 ≤ j ∧ j < 990) → N o i j = M o i j
/-- what a new row tells nothing of is as it was -/
def Rsw (R R2 : Int → Int) : Prop := (∀ k, R2 761 ≤ k → 0 ≤ k → k < 3 → R2 (762 + k) = R (762 + k) ∧ R2 (765 + k) = R (765 + k) ∧ R2 (768 + k) = R (768 + k) ∧ R2 (771 + k) = R (771 + k) ∧ R2 (774 + k) = R (774 + k) ∧ ∀ x, 0 ≤ x → x < 4 → R2 (777 + 4 * k + x) = R (777 + 4 * k + x)) ∧ (∀ c, R2 789 ≤ c → 0 ≤ c → c < 40 → R2 (790 + c) = R (790 + c) ∧ R2 (830 + c) = R (830 + c) ∧ R2 (870 + c) = R (870 + c) ∧ R2 (910 + c) = R (910 + c) ∧ R2 (950 + c) = R (950 + c)) ∧ ∀ j, ¬ (0 ≤ j ∧ j < 990) → R2 j = R j
theorem StC.up {R R2 R2' sg : Int → Int} {c : Int} (h : StC R R2 m sg c) (e : R2' (790 + c) = R2 (790 + c) ∧ R2' (830 + c) = R2 (830 + c) ∧ R2' (870 + c) = R2 (870 + c) ∧ R2' (910 + c) = R2 (910 + c) ∧ R2' (950 + c) = R2 (950 + c)) : StC R R2' m sg c := by
  obtain ⟨h1, h2, h3, h4, h5, h6, h7⟩ := h
  obtain ⟨e1, e2, e3, e4', e5⟩ := e
  exact ⟨h1, h2, by rw [e1]; exact h3, by rw [e2]; exact h4, by rw [e4']; exact h5, by rw [e5]; exact h6, by rw [e3]; exact h7⟩
theorem kX10_settles (hG : Good (M 1 1) rho) (ht : Tl M) (h3 : 0 ≤ M 1 0 3 ∧ M 1 0 3 < 6) (h2 : 0 ≤ M 1 0 2 ∧ M 1 0 2 ≤ 6) (hB : ¬ (0 ≤ m ∧ m < M 1 1 761) → ∀ N, FR M N 1 → Q (some (vI (-2))) N) (hQ : (0 ≤ m ∧ m < M 1 1 761) → ∀ N K sg, FKs M K (M 1 0 3) → K 1 0 3 = (M 1 0 3 + 1) % 6 → K 1 0 2 = min (M 1 0 2 + 1) 6 → (∀ k, 0 ≤ k → k < 990 → K 1 2 (990 * M 1 0 3 + k) = M 1 1 k) → FSe K N → Stl (M 1 1) (N 1 1) m sg → Rsw (M 1 1) (N 1 1) → Q (some (vI ((ol (M 1 1) m (M 1 1 789).toNat 0).length : Int))) N) : sl_Runs l mX10_settles [vR 1 0, vI m] M Q := by
  have m3 := hG.2.1
  have cs := hG.2.2.2.1
  refine eX10_settles (vX10_settles_0 fun _ _ => kX10_isMethod (by omega) ⟨_, rfl, fun z => ?_, fun z => kX10_bad ht (fun N f => ⟨_, rfl, hB (fun w => by rw [if_pos w] at z; omega) N f⟩)⟩)
  have hm : 0 ≤ m ∧ m < M 1 1 761 := by
    refine Classical.byContradiction fun w => ?_
    rw [if_neg w] at z; omega
  refine kX10_keepsState h3 h2 (fun K k1 k2 k3 k4 => ⟨rfl, ?_⟩)
  have kr : K 1 1 = M 1 1 := by funext j; exact k1 1 1 j (by omega)
  have hQ' := fun N sg => hQ hm N K sg k1 k2 k3 k4
  -- the methods move up
  have fin : ∀ (N0 : sl_M) (sg : Int → Int) (left : Int), FSe K N0 → (∀ j, j < 789 ∨ 990 ≤ j → N0 1 1 j = M 1 1 j) → N0 1 1 789 = left → 0 ≤ left → left ≤ 40 → (∀ c, 0 ≤ c → c < left → StC (M 1 1) (N0 1 1) m sg c) → (∀ c d, 0 ≤ c → c < d → d < left → sg c < sg d) → (∀ d, 0 ≤ d → d < M 1 1 789 → M 1 1 (870 + d) ≠ m → ∃ c, 0 ≤ c ∧ c < left ∧ sg c = d) → (∀ d, left ≤ d → d < 40 → N0 1 1 (790 + d) = M 1 1 (790 + d) ∧ N0 1 1 (830 + d) = M 1 1 (830 + d) ∧ N0 1 1 (870 + d) = M 1 1 (870 + d) ∧ N0 1 1 (910 + d) = M 1 1 (910 + d) ∧ N0 1 1 (950 + d) = M 1 1 (950 + d)) → sl_At l mX10_settles 192 [(0, vR 1 0), (3, vI ((ol (M 1 1) m (M 1 1 789).toNat 0).length : Int)), (4, vI m)] [] N0 Q := by
    intro N0 sg left f0 u0 u789 l0 l1 hc hmo hsu hre
    have loop : ∀ (n : Nat) (k : Int) (N : sl_M), k + n = M 1 1 761 - 1 → m ≤ k → FSe K N → (∀ j, j < 761 ∨ 789 ≤ j → N 1 1 j = N0 1 1 j) → N 1 1 761 = M 1 1 761 → (∀ q, 0 ≤ q → q < 3 → N 1 1 (762 + q) = (if m ≤ q ∧ q < k then M 1 1 (762 + (q + 1)) else M 1 1 (762 + q)) ∧ N 1 1 (765 + q) = (if m ≤ q ∧ q < k then M 1 1 (765 + (q + 1)) else M 1 1 (765 + q)) ∧ N 1 1 (768 + q) = (if m ≤ q ∧ q < k then M 1 1 (768 + (q + 1)) else M 1 1 (768 + q)) ∧ N 1 1 (771 + q) = (if m ≤ q ∧ q < k then M 1 1 (771 + (q + 1)) else M 1 1 (771 + q)) ∧ N 1 1 (774 + q) = (if m ≤ q ∧ q < k then M 1 1 (774 + (q + 1)) else M 1 1 (774 + q)) ∧ ∀ x, 0 ≤ x → x < 4 → N 1 1 (777 + 4 * q + x) = (if m ≤ q ∧ q < k then M 1 1 (777 + 4 * (q + 1) + x) else M 1 1 (777 + 4 * q + x))) → sl_At l mX10_settles 192 [(0, vR 1 0), (3, vI ((ol (M 1 1) m (M 1 1 789).toNat 0).length : Int)), (4, vI k)] [] N Q := by
      intro n
      induction n with
      | zero =>
        intro k N hk hmk hF hj h761 hq
        refine vX10_settles_192 fun _ _ _ => ⟨by omega, fun _ => ?_, fun w => by omega⟩
        rw [h761]
        refine ⟨by omega, fun M4 e4' => ?_⟩
        have g4 : ∀ j, j ≠ 761 → M4 1 1 j = N 1 1 j := fun j zz => by rw [e4']; simp only [sl_wr]; rw [if_neg (by omega)]
        have e761 : M4 1 1 761 = M 1 1 761 - 1 := by rw [e4', sl_wr_s]
        have e789 : M4 1 1 789 = left := by rw [g4 789 (by omega), hj 789 (by omega), u789]
        refine hQ' M4 sg (fun o i j zz => by rw [e4']; simp only [sl_wr]; rw [if_neg (by omega)]; exact hF o i j zz) ⟨fun j j0 j1 => by rw [g4 j (by omega), hj j (by omega), u0 j (by omega)], e761, fun q q0 q1 => ?_, by omega, fun c c0 c1 => ?_, fun c d c0 cd d1 => hmo c d c0 cd (by omega), fun d d0 d1 dm => by rw [e789]; exact hsu d d0 d1 dm⟩ ⟨fun q q2 q0 q1 => ?_, fun c c2 c0 c1 => ?_, fun j zz => by rw [g4 j (by omega), hj j (by omega)]; exact u0 j (by omega)⟩
        · rw [e761] at q1
          obtain ⟨a1, a2, a3, a4, a5, a6⟩ := hq q q0 (by omega)
          have mq : mo m q = if m ≤ q ∧ q < k then q + 1 else q := by
            unfold mo
            by_cases w : q < m
            · rw [if_pos w, if_neg (by omega)]
            · rw [if_neg w, if_pos (by omega)]
          rw [mq, g4 _ (by omega), g4 _ (by omega), g4 _ (by omega), g4 _ (by omega), g4 _ (by omega), a1, a2, a3, a4, a5]
          by_cases w : m ≤ q ∧ q < k
          · simp only [if_pos w]
            refine ⟨trivial, trivial, trivial, trivial, trivial, fun x x0 x1 => ?_⟩
            have := a6 x x0 x1
            rw [if_pos w] at this
            rw [g4 _ (by omega)]; exact this
          · simp only [if_neg w]
            refine ⟨trivial, trivial, trivial, trivial, trivial, fun x x0 x1 => ?_⟩
            have := a6 x x0 x1
            rw [if_neg w] at this
            rw [g4 _ (by omega)]; exact this
        · rw [e789] at c1
          refine (hc c c0 c1).up ⟨?_, ?_, ?_, ?_, ?_⟩ <;> rw [g4 _ (by omega), hj _ (by omega)]
        · rw [e761] at q2
          obtain ⟨a1, a2, a3, a4, a5, a6⟩ := hq q q0 q1
          rw [if_neg (by omega)] at a1 a2 a3 a4 a5
          rw [g4 _ (by omega), g4 _ (by omega), g4 _ (by omega), g4 _ (by omega), g4 _ (by omega)]
          exact ⟨a1, a2, a3, a4, a5, fun x x0 x1 => by rw [g4 _ (by omega), a6 x x0 x1, if_neg (by omega)]⟩
        · rw [e789] at c2
          obtain ⟨a1, a2, a3, a4, a5⟩ := hre c c2 c1
          exact ⟨by rw [g4 _ (by omega), hj _ (by omega)]; exact a1, by rw [g4 _ (by omega), hj _ (by omega)]; exact a2, by rw [g4 _ (by omega), hj _ (by omega)]; exact a3, by rw [g4 _ (by omega), hj _ (by omega)]; exact a4, by rw [g4 _ (by omega), hj _ (by omega)]; exact a5⟩
      | succ n ih =>
        intro k N hk hmk hF hj h761 hq
        refine vX10_settles_192 fun _ _ _ => ⟨by omega, fun w => by omega, fun _ => ⟨by omega, by omega, fun M7 e7 => ⟨by omega, by omega, fun M10 e10 => ⟨by omega, by omega, fun M13 e13 => ⟨by omega, by omega, fun M16 e16 => ⟨by omega, by omega, fun M19 e19 => ?_⟩⟩⟩⟩⟩⟩
        have r7 : M7 1 1 (765 + k + 1) = N 1 1 (765 + k + 1) := by rw [e7]; simp only [sl_wr]; rw [if_neg (by omega)]
        have r10 : M10 1 1 (768 + k + 1) = N 1 1 (768 + k + 1) := by rw [e10, e7]; simp only [sl_wr]; rw [if_neg (by omega), if_neg (by omega)]
        have r13 : M13 1 1 (771 + k + 1) = N 1 1 (771 + k + 1) := by rw [e13, e10, e7]; simp only [sl_wr]; rw [if_neg (by omega), if_neg (by omega), if_neg (by omega)]
        have r16 : M16 1 1 (774 + k + 1) = N 1 1 (774 + k + 1) := by rw [e16, e13, e10, e7]; simp only [sl_wr]; rw [if_neg (by omega), if_neg (by omega), if_neg (by omega), if_neg (by omega)]
        obtain ⟨a1, a2, a3, a4, a5, a6⟩ := hq (k + 1) (by omega) (by omega)
        rw [if_neg (by omega)] at a1 a2 a3 a4 a5
        rw [show 762 + k + 1 = 762 + (k + 1) by omega, a1] at e7
        rw [r7, show 765 + k + 1 = 765 + (k + 1) by omega, a2] at e10
        rw [r10, show 768 + k + 1 = 768 + (k + 1) by omega, a3] at e13
        rw [r13, show 771 + k + 1 = 771 + (k + 1) by omega, a4] at e16
        rw [r16, show 774 + k + 1 = 774 + (k + 1) by omega, a5] at e19
        have g19 : ∀ o i j, ¬ (o = 1 ∧ i = 1 ∧ (j = 762 + k ∨ j = 765 + k ∨ j = 768 + k ∨ j = 771 + k ∨ j = 774 + k)) → M19 o i j = N o i j := fun o i j zz => by
          rw [e19, e16, e13, e10, e7]; simp only [sl_wr]; rw [if_neg (by omega), if_neg (by omega), if_neg (by omega), if_neg (by omega), if_neg (by omega)]
        have v19 : M19 1 1 (762 + k) = M 1 1 (762 + (k + 1)) ∧ M19 1 1 (765 + k) = M 1 1 (765 + (k + 1)) ∧ M19 1 1 (768 + k) = M 1 1 (768 + (k + 1)) ∧ M19 1 1 (771 + k) = M 1 1 (771 + (k + 1)) ∧ M19 1 1 (774 + k) = M 1 1 (774 + (k + 1)) := by
          refine ⟨?_, ?_, ?_, ?_, ?_⟩
          · rw [e19, e16, e13, e10, e7]; simp only [sl_wr]; rw [if_neg (by omega), if_neg (by omega), if_neg (by omega), if_neg (by omega), if_pos (by simp)]
          · rw [e19, e16, e13, e10]; simp only [sl_wr]; rw [if_neg (by omega), if_neg (by omega), if_neg (by omega), if_pos (by simp)]
          · rw [e19, e16, e13]; simp only [sl_wr]; rw [if_neg (by omega), if_neg (by omega), if_pos (by simp)]
          · rw [e19, e16]; simp only [sl_wr]; rw [if_neg (by omega), if_pos (by simp)]
          · rw [e19, sl_wr_s]
        have inner : ∀ (i : Nat) (x : Int) (O : sl_M), x + i = 4 → 0 ≤ x → (∀ o a b, ¬ (o = 1 ∧ a = 1 ∧ 777 + 4 * k ≤ b ∧ b < 777 + 4 * k + 4) → O o a b = M19 o a b) → (∀ y, 0 ≤ y → y < x → O 1 1 (777 + 4 * k + y) = M 1 1 (777 + 4 * (k + 1) + y)) → sl_At l mX10_settles 330 [(0, vR 1 0), (3, vI ((ol (M 1 1) m (M 1 1 789).toNat 0).length : Int)), (4, vI k), (5, vI x)] [] O Q := by
          intro i
          induction i with
          | zero =>
            intro x O hx x0 hO hy
            refine vX10_settles_330 fun _ _ _ _ => ⟨fun _ => ⟨by omega, ih (k + 1) O (by omega) (by omega) (fun o a b zz => ?_) (fun j zz => ?_) ?_ (fun q q0 q1 => ?_)⟩, fun w => by omega⟩
            · rw [hO o a b (by omega), g19 o a b (by omega)]; exact hF o a b zz
            · rw [hO 1 1 j (by omega), g19 1 1 j (by omega)]; exact hj j zz
            · rw [hO 1 1 761 (by omega), g19 1 1 761 (by omega)]; exact h761
            · rw [hO 1 1 (762 + q) (by omega), hO 1 1 (765 + q) (by omega), hO 1 1 (768 + q) (by omega), hO 1 1 (771 + q) (by omega), hO 1 1 (774 + q) (by omega)]
              by_cases eq : q = k
              · subst eq
                rw [if_pos ⟨hmk, by omega⟩, if_pos ⟨hmk, by omega⟩, if_pos ⟨hmk, by omega⟩, if_pos ⟨hmk, by omega⟩, if_pos ⟨hmk, by omega⟩]
                exact ⟨v19.1, v19.2.1, v19.2.2.1, v19.2.2.2.1, v19.2.2.2.2, fun y y0 y1 => by rw [if_pos ⟨hmk, by omega⟩]; exact hy y y0 (by omega)⟩
              · obtain ⟨b1, b2, b3, b4, b5, b6⟩ := hq q q0 q1
                have cg : (m ≤ q ∧ q < k + 1) ↔ (m ≤ q ∧ q < k) := by omega
                rw [g19 1 1 (762 + q) (by omega), g19 1 1 (765 + q) (by omega), g19 1 1 (768 + q) (by omega), g19 1 1 (771 + q) (by omega), g19 1 1 (774 + q) (by omega)]
                simp only [cg]
                exact ⟨b1, b2, b3, b4, b5, fun y y0 y1 => by rw [hO 1 1 _ (by omega), g19 1 1 _ (by omega)]; exact b6 y y0 y1⟩
          | succ i ih2 =>
            intro x O hx x0 hO hy
            refine vX10_settles_330 fun _ _ _ _ => ⟨fun w => by omega, fun _ => ⟨by omega, by omega, fun M5 e5 => ⟨by omega, ih2 (x + 1) M5 (by omega) (by omega) (fun o a b zz => ?_) (fun y y0 y1 => ?_)⟩⟩⟩
            · rw [e5]; simp only [sl_wr]; rw [if_neg (by omega)]; exact hO o a b zz
            · have a6' := a6 x x0 (by omega)
              rw [if_neg (by omega)] at a6'
              rw [hO 1 1 (777 + 4 * (k + 1) + x) (by omega), g19 1 1 (777 + 4 * (k + 1) + x) (by omega), a6'] at e5
              by_cases ey : y = x
              · rw [ey, e5, sl_wr_s]
              · rw [e5]; simp only [sl_wr]; rw [if_neg (by omega)]; exact hy y y0 (by omega)
        exact inner 4 0 M19 (by omega) (by omega) (fun _ _ _ _ => rfl) (fun y y0 y1 => by omega)
    refine loop (M 1 1 761 - 1 - m).toNat m N0 (by omega) (by omega) f0 (fun _ _ => rfl) (u0 761 (by omega)) (fun q q0 q1 => ?_)
    rw [u0 _ (by omega), u0 _ (by omega), u0 _ (by omega), u0 _ (by omega), u0 _ (by omega)]
    rw [if_neg (by omega), if_neg (by omega), if_neg (by omega), if_neg (by omega), if_neg (by omega)]
    exact ⟨rfl, rfl, rfl, rfl, rfl, fun x x0 x1 => by rw [u0 _ (by omega), if_neg (by omega)]⟩
  -- the calls
  have loop : ∀ (n : Nat) (c left gone : Int) (N : sl_M) (sg : Int → Int), c + n = M 1 1 789 → 0 ≤ left → left ≤ c → 0 ≤ gone → gone ≤ c → FSe K N → (∀ j, j < 790 ∨ 990 ≤ j → N 1 1 j = M 1 1 j) → (∀ d, left ≤ d → d < 40 → N 1 1 (790 + d) = M 1 1 (790 + d) ∧ N 1 1 (830 + d) = M 1 1 (830 + d) ∧ N 1 1 (870 + d) = M 1 1 (870 + d) ∧ N 1 1 (910 + d) = M 1 1 (910 + d) ∧ N 1 1 (950 + d) = M 1 1 (950 + d)) → gone + (ol (M 1 1) m n c).length = (ol (M 1 1) m (M 1 1 789).toNat 0).length → (∀ i, 0 ≤ i → i < left → StC (M 1 1) (N 1 1) m sg i ∧ sg i < c) → (∀ i j, 0 ≤ i → i < j → j < left → sg i < sg j) → (∀ d, 0 ≤ d → d < c → M 1 1 (870 + d) ≠ m → ∃ i, 0 ≤ i ∧ i < left ∧ sg i = d) → sl_At l mX10_settles 24 [(0, vR 1 0), (1, vI m), (2, vI left), (3, vI gone), (4, vI c)] [] N Q := by
    intro n
    induction n with
    | zero =>
      intro c left gone N sg hc l0 l1 g0 g1 hF hj hd hg hi hmo hsu
      refine vX10_settles_24 fun _ _ _ _ _ => ?_
      rw [hj 789 (by omega)]
      refine ⟨fun _ M2 e2 => ?_, fun w => by omega⟩
      have eg : gone = (ol (M 1 1) m (M 1 1 789).toNat 0).length := by rw [← hg]; show gone = gone + ((0 : Nat) : Int); omega
      rw [eg]
      have r2 : ∀ j, j ≠ 789 → M2 1 1 j = N 1 1 j := fun j zz => by rw [e2]; simp only [sl_wr]; rw [if_neg (by omega)]
      refine fin M2 sg left (fun o i j zz => by rw [e2]; simp only [sl_wr]; rw [if_neg (by omega)]; exact hF o i j zz) (fun j zz => by rw [r2 j (by omega)]; exact hj j (by omega)) (by rw [e2, sl_wr_s]) l0 (by omega) (fun i i0 i1 => (hi i i0 i1).1.up ⟨r2 _ (by omega), r2 _ (by omega), r2 _ (by omega), r2 _ (by omega), r2 _ (by omega)⟩) hmo (fun d d0 d1 dm => hsu d d0 (by omega) dm) (fun d d0 d1 => by rw [r2 _ (by omega), r2 _ (by omega), r2 _ (by omega), r2 _ (by omega), r2 _ (by omega)]; exact hd d d0 d1)
    | succ n ih =>
      intro c left gone N sg hc l0 l1 g0 g1 hF hj hd hg hi hmo hsu
      rw [ol] at hg
      obtain ⟨v1, v2, v3, v4, v5⟩ := hd c (by omega) (by omega)
      refine vX10_settles_24 fun _ _ _ _ _ => ?_
      rw [hj 789 (by omega), v1, v3]
      refine ⟨fun w => by omega, fun _ => ⟨by omega, fun w => ⟨by omega, by omega, fun M7 e7 => ⟨by omega, by omega, fun M10 e10 => ⟨by omega, ?_, fun M14 e14 => ⟨by omega, by omega, fun M17 e17 => ⟨by omega, by omega, fun M20 e20 => ⟨by omega, by omega, ?_⟩⟩⟩⟩⟩⟩, fun w => ⟨by omega, by omega, ?_⟩⟩⟩
      · have gm := (hG.2.2.2.2.1 c (by omega) (by omega)).2.1
        have : cm (M 1 1) c = M 1 1 (870 + c) := rfl
        split <;> omega
      · rw [if_neg w] at hg
        have q7 : M7 1 1 (830 + c) = M 1 1 (830 + c) := by rw [e7]; simp only [sl_wr]; rw [if_neg (by omega)]; exact v2
        have q14 : M14 1 1 (910 + c) = M 1 1 (910 + c) := by rw [e14, e10, e7]; simp only [sl_wr]; rw [if_neg (by omega), if_neg (by omega), if_neg (by omega)]; exact v4
        have q17 : M17 1 1 (950 + c) = M 1 1 (950 + c) := by rw [e17, e14, e10, e7]; simp only [sl_wr]; rw [if_neg (by omega), if_neg (by omega), if_neg (by omega), if_neg (by omega)]; exact v5
        rw [q7] at e10
        rw [q14] at e17
        rw [q17] at e20
        have f20 : ∀ o i j, ¬ (o = 1 ∧ i = 1 ∧ (j = 790 + left ∨ j = 830 + left ∨ j = 870 + left ∨ j = 910 + left ∨ j = 950 + left)) → M20 o i j = N o i j := fun o i j zz => by
          rw [e20, e17, e14, e10, e7]; simp only [sl_wr]; rw [if_neg (by omega), if_neg (by omega), if_neg (by omega), if_neg (by omega), if_neg (by omega)]
        have w20 : M20 1 1 (790 + left) = M 1 1 (790 + c) ∧ M20 1 1 (830 + left) = M 1 1 (830 + c) ∧ M20 1 1 (870 + left) = (if M 1 1 (870 + c) ≤ m then M 1 1 (870 + c) else M 1 1 (870 + c) - 1) ∧ M20 1 1 (910 + left) = M 1 1 (910 + c) ∧ M20 1 1 (950 + left) = M 1 1 (950 + c) := by
          refine ⟨?_, ?_, ?_, ?_, ?_⟩
          · rw [e20, e17, e14, e10, e7]; simp only [sl_wr]; rw [if_neg (by omega), if_neg (by omega), if_neg (by omega), if_neg (by omega), if_pos (by simp)]
          · rw [e20, e17, e14, e10]; simp only [sl_wr]; rw [if_neg (by omega), if_neg (by omega), if_neg (by omega), if_pos (by simp)]
          · rw [e20, e17, e14]; simp only [sl_wr]; rw [if_neg (by omega), if_neg (by omega), if_pos (by simp)]
          · rw [e20, e17]; simp only [sl_wr]; rw [if_neg (by omega), if_pos (by simp)]
          · rw [e20, sl_wr_s]
        refine ih (c + 1) (left + 1) gone M20 (fun i => if i = left then c else sg i) (by omega) (by omega) (by omega) g0 (by omega) (fun o i j zz => by rw [f20 o i j (by omega)]; exact hF o i j zz) (fun j zz => by rw [f20 1 1 j (by omega)]; exact hj j zz) (fun d d0 d1 => ?_) hg (fun i i0 i1 => ?_) (fun i j i0 ij j1 => ?_) (fun d d0 d1 dm => ?_)
        · rw [f20 1 1 _ (by omega), f20 1 1 _ (by omega), f20 1 1 _ (by omega), f20 1 1 _ (by omega), f20 1 1 _ (by omega)]
          exact hd d (by omega) d1
        · by_cases ei : i = left
          · subst ei
            have es : (fun x => if x = i then c else sg x) i = c := if_pos rfl
            refine ⟨?_, by show (fun x => if x = i then c else sg x) i < c + 1; rw [es]; omega⟩
            unfold StC
            rw [es]
            exact ⟨by omega, w, w20.1, w20.2.1, w20.2.2.2.1, w20.2.2.2.2, w20.2.2.1⟩
          · obtain ⟨x1, x2⟩ := hi i i0 (by omega)
            have x3 : StC (M 1 1) (M20 1 1) m sg i := x1.up ⟨f20 1 1 _ (by omega), f20 1 1 _ (by omega), f20 1 1 _ (by omega), f20 1 1 _ (by omega), f20 1 1 _ (by omega)⟩
            have es : (fun x => if x = left then c else sg x) i = sg i := if_neg ei
            refine ⟨?_, by show (fun x => if x = left then c else sg x) i < c + 1; rw [es]; omega⟩
            unfold StC at x3 ⊢
            rw [es]
            exact x3
        · by_cases ej : j = left
          · rw [if_pos ej, if_neg (by omega)]
            exact (hi i i0 (by omega)).2
          · rw [if_neg ej, if_neg (by omega)]
            exact hmo i j i0 ij (by omega)
        · by_cases ed : d = c
          · exact ⟨left, by omega, by omega, by rw [if_pos rfl, ed]⟩
          · obtain ⟨i, i0, i1, i2⟩ := hsu d d0 (by omega) dm
            exact ⟨i, i0, by omega, by rw [if_neg (by omega)]; exact i2⟩
      · rw [if_pos (by omega), List.length_cons] at hg
        refine ih (c + 1) left (gone + 1) N sg (by omega) l0 (by omega) (by omega) (by omega) hF hj (fun d d0 d1 => hd d (by omega) d1) (by omega) (fun i i0 i1 => ⟨(hi i i0 i1).1, by have := (hi i i0 i1).2; omega⟩) hmo (fun d d0 d1 dm => ?_)
        by_cases ed : d = c
        · rw [ed] at dm; exact (w dm).elim
        · exact hsu d d0 (by omega) dm
  exact loop (M 1 1 789).toNat 0 0 0 K (fun _ => 0) (by omega) (by omega) (by omega) (by omega) (by omega) (fun _ _ _ _ => rfl) (fun j _ => by rw [kr]) (fun d d0 d1 => by rw [kr]; exact ⟨rfl, rfl, rfl, rfl, rfl⟩) (by omega) (fun i i0 i1 => by omega) (fun i j i0 ij j1 => by omega) (fun d d0 d1 => by omega)
end S
