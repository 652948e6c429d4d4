/-! State: what a statement does, as the analysis sees it -/
theorem iand7_rng (x : Int) : 0 ≤ iand x 7 ∧ iand x 7 < 8 := by
  unfold iand
  have e1 : (Int32.ofInt x &&& Int32.ofInt 7).toInt = ((Int32.ofInt x).toBitVec &&& (7 : BitVec 32)).toInt := rfl
  rw [e1]
  have hlt : ((Int32.ofInt x).toBitVec &&& (7 : BitVec 32)).toNat ≤ 7 := by
    rw [BitVec.toNat_and]
    exact Nat.and_le_right
  rw [BitVec.toInt_eq_toNat_of_lt (by omega)]
  omega
def rn (r v : Int) : Int := iand (ishr r (3 * v)) 7
theorem rn_rng (r v : Int) : 0 ≤ rn r v ∧ rn r v < 8 := iand7_rng _
def rsl (r m : Int) : Nat → Int → Int → Int
  | 0, _, a => a
  | n + 1, v, a => rsl r m n (v + 1) (if iand (ishr m v) 1 = 0 then a else ior a (ishl 1 (rn r v)))
/-- a set with its variables renamed -/
def rset (r m : Int) : Int := rsl r m 8 0 0
theorem rsl_bt (r m : Int) : ∀ (n : Nat) (v a : Int), 0 ≤ v → v + n ≤ 32 → ∀ w : Nat, (bt (rsl r m n v a) w = true ↔ (bt a w = true ∨ ∃ x : Int, v ≤ x ∧ x < v + n ∧ bt m x.toNat = true ∧ rn r x = w)) := by
  intro n
  induction n with
  | zero =>
    intro v a _ _ w
    constructor
    · exact Or.inl
    · rintro (h | ⟨x, h1, h2, -⟩)
      · exact h
      · omega
  | succ n ih =>
    intro v a h0 h1 w
    show bt (rsl r m n (v + 1) _) w = true ↔ _
    rw [ih (v + 1) _ (by omega) (by omega) w]
    have hh := has_iff (m := m) (k := v) (by omega)
    constructor
    · rintro (h | ⟨x, q1, q2, q3⟩)
      · by_cases c : iand (ishr m v) 1 = 0
        · rw [if_pos c] at h; exact Or.inl h
        · rw [if_neg c, bt_ior, bt_shl (rn_rng r v), Bool.or_eq_true, decide_eq_true_eq] at h
          rcases h with h | h
          · exact Or.inl h
          · refine Or.inr ⟨v, by omega, by omega, ?_, h.symm⟩
            cases e : bt m v.toNat
            · rw [e] at hh; exact absurd hh c
            · rfl
      · exact Or.inr ⟨x, by omega, by omega, q3⟩
    · rintro (h | ⟨x, q1, q2, q3, q4⟩)
      · left
        split
        · exact h
        · rw [bt_ior, h, Bool.true_or]
      · by_cases c : x = v
        · subst c
          left
          rw [q3] at hh
          rw [if_neg (by rw [hh]; decide), bt_ior, bt_shl (rn_rng r x), Bool.or_eq_true, decide_eq_true_eq]
          exact Or.inr q4.symm
        · exact Or.inr ⟨x, by omega, by omega, q3, q4⟩
theorem rset_bt (r m : Int) (w : Nat) : bt (rset r m) w = true ↔ ∃ x : Int, 0 ≤ x ∧ x < 8 ∧ bt m x.toNat = true ∧ rn r x = w := by
  unfold rset
  rw [rsl_bt r m 8 0 0 (by omega) (by omega) w, bt_0]
  simp
theorem rsl_m8 (r m : Int) : ∀ (n : Nat) (v a : Int), m8 a → m8 (rsl r m n v a) := by
  intro n
  induction n with
  | zero => intro v a h; exact h
  | succ n ih =>
    intro v a h
    refine ih (v + 1) _ ?_
    split
    · exact h
    · exact m8_or h (m8_shl (rn_rng r v))
theorem m8_rset (r m : Int) : m8 (rset r m) := rsl_m8 r m 8 0 0 m8_0
section K
variable {l : Launch} {M : sl_M} {Q : sl_R}
theorem kX9_renamedSet {r m : Int} (hQ : Q (some (vI (rset r m))) M) : sl_Runs l mX9_renamedSet [vI r, vI m] M Q := by
  have loop : ∀ (n : Nat) (v a : Int), v = 8 - (n : Int) → n ≤ 8 → Q (some (vI (rsl r m n v a))) M → sl_At l mX9_renamedSet 4 [(0, vI r), (1, vI m), (2, vI a), (3, vI v)] [] M Q := by
    intro n
    induction n with
    | zero =>
      intro v a h1 h2 hQ
      exact vX9_renamedSet_4 fun _ _ _ _ _ => ⟨fun _ => hQ, fun q => by omega⟩
    | succ n ih =>
      intro v a h1 h2 hQ
      refine vX9_renamedSet_4 fun _ _ _ _ _ => ⟨fun q => by omega, fun _ => ⟨fun q => ⟨by omega, ?_⟩, fun q y ey => ⟨by omega, ?_⟩⟩⟩
      · refine ih (v + 1) a (by omega) (by omega) ?_
        unfold rsl at hQ
        rw [if_pos q] at hQ
        exact hQ
      · refine ih (v + 1) y (by omega) (by omega) ?_
        unfold rsl at hQ
        rw [if_neg q] at hQ
        rw [ey]
        exact hQ
  exact eX9_renamedSet (vX9_renamedSet_0 fun _ _ _ => loop 8 0 0 (by omega) (by omega) hQ)
/-- the owner of the method that statement k calls -/
def ro (M : sl_M) (s : Nat) (k : Int) : Nat := 3 * s + (M (s + 10) 6 k).toNat
/-- the state's program as the analysis sees it -/
def StF (M : sl_M) (s : Nat) (P : Pg) : Prop := sl_cls s = 7 ∧ Cd M (s + 10) P ∧ M s 0 2 ≤ 3 ∧ ∀ k, 0 ≤ k → k < P 0 0 → (M (s + 10) 10 k = P 10 k ∧ m8 (P 10 k)) ∧ (P 1 k = 7 → 0 ≤ M (s + 10) 6 k ∧ M (s + 10) 6 k < M s 0 2) ∧ (P 1 k = 0 → 0 ≤ M (s + 10) 6 k ∧ M (s + 10) 6 k < 8) ∧
  P 20 k = (if P 1 k = 2 then 8 else if P 1 k = 3 then 2 else if P 1 k = 4 then 4 else if P 1 k = 7 then M (ro M s k) 0 1 else 1) ∧
  (∀ e, (e = 1 ∨ e = 2 ∨ e = 4 ∨ e = 8) → P 21 (16 * k + e) = (if P 1 k = 7 then rset (M (s + 10) 7 k) (M (ro M s k) 5 e) else if P 1 k = 0 then ishl 1 (M (s + 10) 6 k) else 0)) ∧
  P 22 k = (if P 1 k = 7 then rset (M (s + 10) 7 k) (M (ro M s k) 0 3) else if P 1 k = 0 then ishl 1 (M (s + 10) 6 k) else 0)
variable {s : Nat} {P : Pg}
theorem StF.m21 (h : StF M s P) {k e : Int} (h0 : 0 ≤ k) (h1 : k < P 0 0) (he : e = 1 ∨ e = 2 ∨ e = 4 ∨ e = 8) : m8 (P 21 (16 * k + e)) := by
  obtain ⟨a, b, c, d, q, g⟩ := h.2.2.2 k h0 h1
  rw [q e he]
  split
  · exact m8_rset _ _
  · split
    · exact m8_shl (c (by assumption))
    · exact m8_0
theorem StF.m22 (h : StF M s P) {k : Int} (h0 : 0 ≤ k) (h1 : k < P 0 0) : m8 (P 22 k) := by
  obtain ⟨a, b, c, d, q, g⟩ := h.2.2.2 k h0 h1
  rw [g]
  split
  · exact m8_rset _ _
  · split
    · exact m8_shl (c (by assumption))
    · exact m8_0
theorem StF.mS (hw : WF P) (h : StF M s P) {f t : Int} (hr : Rg P f t) : ∀ a x S, f ≤ a → a ≤ t → Ed P f t a x S → m8 S := by
  obtain ⟨r1, r2, r3, -⟩ := hr
  intro a x S h1 h2 he
  rcases he with ⟨-, e, -⟩ | ⟨-, -, e, he, -, -, rfl⟩
  · rw [e]; exact m8_0
  · exact h.m21 (by omega) (by omega) he
/-- the state's cells -/
def StO (s o : Nat) : Prop := o = s ∨ o = s + 10 ∨ (3 * s ≤ o ∧ o < 3 * s + 3)
theorem StF.frame (hw : WF P) (h : StF M s P) {N : sl_M} (hN : ∀ o i j, StO s o → N o i j = M o i j) : StF N s P := by
  obtain ⟨h1, h2, h3, h4⟩ := h
  have e0 : ∀ i j, N s i j = M s i j := fun i j => hN s i j (Or.inl rfl)
  have e1 : ∀ i j, N (s + 10) i j = M (s + 10) i j := fun i j => hN _ i j (Or.inr (Or.inl rfl))
  refine ⟨h1, ⟨by rw [e1]; exact h2.1, fun k k0 k1 => by rw [e1, e1, e1, e1]; exact h2.2 k k0 k1⟩, by rw [e0]; exact h3, fun k k0 k1 => ?_⟩
  obtain ⟨a, b, c, d, q, g⟩ := h4 k k0 k1
  have er : ro N s k = ro M s k := by unfold ro; rw [e1]
  have e2 : P 1 k = 7 → ∀ i j, N (ro M s k) i j = M (ro M s k) i j := by
    intro h7 i j
    have := b h7
    exact hN _ i j (Or.inr (Or.inr (by unfold ro; omega)))
  refine ⟨by rw [e1]; exact a, fun q => by rw [e1, e0]; exact b q, fun q => by rw [e1]; exact c q, ?_, fun e he => ?_, ?_⟩
  · rw [d, er]
    by_cases h7 : P 1 k = 7
    · rw [e2 h7]
    · simp only [h7, if_false]
  · rw [q e he, er, e1, e1]
    by_cases h7 : P 1 k = 7
    · rw [e2 h7]
    · simp only [h7, if_false]
  · rw [g, er, e1, e1]
    by_cases h7 : P 1 k = 7
    · rw [e2 h7]
    · simp only [h7, if_false]
theorem kX7_hasRoutine (hs : sl_cls s = 7) {m : Int} (hQ : Q (some (vI (if 0 ≤ m ∧ m < M s 0 2 then 1 else 0))) M) : sl_Runs l mX7_hasRoutine [vR s 0, vI m] M Q := by
  refine eX7_hasRoutine (vX7_hasRoutine_0 hs fun _ _ => ?_)
  rw [b_congr (R := 0 ≤ m ∧ m < M s 0 2) (by omega)]
  exact hQ
theorem kX7_isCall (hw : WF P) (h : StF M s P) {k : Int} (hk : 0 ≤ k ∧ k < P 0 0) (hQ : Q (some (vI (if P 1 k = 7 then 1 else 0))) M) : sl_Runs l mX7_isCall [vR s 0, vI k] M Q := by
  have hn := hw.n0
  obtain ⟨a, b, c, d, q, g⟩ := h.2.2.2 k hk.1 hk.2
  refine eX7_isCall (vX7_isCall_0 h.1 fun _ _ => ⟨by omega, ?_⟩)
  rw [(h.2.1.2 k hk.1 hk.2).1, b_congr (R := P 1 k = 7) ?_]
  · exact hQ
  · constructor
    · intro z; omega
    · intro z; have := b z; omega
theorem kX7_exitsOf (hw : WF P) (h : StF M s P) {k : Int} (hk : 0 ≤ k ∧ k < P 0 0) (hQ : Q (some (vI (P 20 k))) M) : sl_Runs l mX7_exitsOf [vR s 0, vI k] M Q := by
  have hn := hw.n0
  obtain ⟨a, b, c, d, q, g⟩ := h.2.2.2 k hk.1 hk.2
  have h3 := h.2.2.1
  refine eX7_exitsOf (vX7_exitsOf_0 h.1 fun _ _ => ⟨by omega, ?_⟩)
  rw [(h.2.1.2 k hk.1 hk.2).1]
  rw [d] at hQ
  refine ⟨fun z => ?_, fun z => ?_, fun z => ?_, fun z => kX7_isCall hw h hk ⟨_, rfl, fun z2 => ?_, fun z2 => ⟨?_, ?_⟩⟩, fun z => ?_⟩
  · rw [if_pos z] at hQ; exact hQ
  · rw [if_neg (by omega), if_pos z] at hQ; exact hQ
  · rw [if_neg (by omega), if_neg (by omega), if_pos z] at hQ; exact hQ
  · exact absurd z (b_eq0.mp z2)
  · have := b z; omega
  · rw [if_neg (by omega), if_neg (by omega), if_neg (by omega), if_pos z] at hQ; exact hQ
  · rw [if_neg (by omega), if_neg (by omega), if_neg (by omega), if_neg (by omega)] at hQ; exact hQ
theorem kX7_setBy (hw : WF P) (h : StF M s P) {k e : Int} (hk : 0 ≤ k ∧ k < P 0 0) (he : e = 1 ∨ e = 2 ∨ e = 4 ∨ e = 8) (hQ : Q (some (vI (P 21 (16 * k + e)))) M) : sl_Runs l mX7_setBy [vR s 0, vI k, vI e] M Q := by
  have hn := hw.n0
  obtain ⟨a, b, c, d, q, g⟩ := h.2.2.2 k hk.1 hk.2
  have h3 := h.2.2.1
  rw [q e he] at hQ
  refine eX7_setBy (vX7_setBy_0 h.1 fun _ _ _ => kX7_isCall hw h hk ⟨_, rfl, fun z => ⟨by omega, ?_⟩, fun z => ?_⟩)
  · rw [if_neg (b_eq0.mp z)] at hQ
    rw [(h.2.1.2 k hk.1 hk.2).1]
    by_cases c0 : P 1 k = 0
    · rw [if_pos c0] at hQ; rw [if_neg (by omega)]; exact hQ
    · rw [if_neg c0] at hQ; rw [if_pos c0]; exact hQ
  · have z := b_ne0.mp z
    have := b z
    rw [if_pos z] at hQ
    exact ⟨by omega, by omega, by omega, kX9_renamedSet ⟨_, rfl, hQ⟩⟩
theorem kX7_changedBy (hw : WF P) (h : StF M s P) {k : Int} (hk : 0 ≤ k ∧ k < P 0 0) (hQ : Q (some (vI (P 22 k))) M) : sl_Runs l mX7_changedBy [vR s 0, vI k] M Q := by
  have hn := hw.n0
  obtain ⟨a, b, c, d, q, g⟩ := h.2.2.2 k hk.1 hk.2
  have h3 := h.2.2.1
  rw [g] at hQ
  refine eX7_changedBy (vX7_changedBy_0 h.1 fun _ _ => kX7_isCall hw h hk ⟨_, rfl, fun z => ⟨by omega, ?_⟩, fun z => ?_⟩)
  · rw [if_neg (b_eq0.mp z)] at hQ
    rw [(h.2.1.2 k hk.1 hk.2).1]
    by_cases c0 : P 1 k = 0
    · rw [if_pos c0] at hQ; rw [if_neg (by omega)]; exact hQ
    · rw [if_neg c0] at hQ; rw [if_pos c0]; exact hQ
  · have z := b_ne0.mp z
    have := b z
    rw [if_pos z] at hQ
    exact ⟨by omega, by omega, kX9_renamedSet ⟨_, rfl, hQ⟩⟩
end K
