/-! Where an operand ends, and whether a division may fail -/
/-- how many operands are wanting before the i-th symbol -/
def Wt (S : Int → Int) : Nat → Int
  | 0 => 1
  | i + 1 => Wt S i + (if ¬ sp_op (S i) then -1 else 1)
/-- n symbols are an expression -/
def WX (S : Int → Int) (n : Int) : Prop := (∀ i : Nat, (i : Int) < n → 0 < Wt S i) ∧ Wt S n.toNat = 0
def pe (S : Int → Int) : Nat → Int → Int → Int
  | 0, _, i => i
  | m + 1, w, i => if w ≤ 0 then i else pe S m (w + (if ¬ sp_op (S i) then -1 else 1)) (i + 1)
theorem Wt_step (S : Int → Int) {i : Int} (h : 0 ≤ i) : Wt S (i + 1).toNat = Wt S i.toNat + (if ¬ sp_op (S i) then -1 else 1) := by
  rw [show (i + 1).toNat = i.toNat + 1 by omega, Wt, show ((i.toNat : Nat) : Int) = i by omega]
/-- an operand that begins at b ends before the expression does, or with it -/
theorem pe_end {S : Int → Int} {n b : Int} (hx : WX S n) (hb : 0 ≤ b ∧ b < n) : ∀ (m : Nat) (i : Int), b ≤ i → i ≤ n → (n - i).toNat < m → (Wt S i.toNat - Wt S b.toNat + 1 ≤ 0 → Wt S i.toNat = Wt S b.toNat - 1) → (pe S m (Wt S i.toNat - Wt S b.toNat + 1) i ≤ n ∧ i ≤ pe S m (Wt S i.toNat - Wt S b.toNat + 1) i ∧ (b < n → Wt S (pe S m (Wt S i.toNat - Wt S b.toNat + 1) i).toNat = Wt S b.toNat - 1)) := by
  intro m
  induction m with
  | zero => intro i h1 h2 h3; omega
  | succ m ih =>
    intro i h1 h2 h3 h4
    rw [pe]
    by_cases q : Wt S i.toNat - Wt S b.toNat + 1 ≤ 0
    · rw [if_pos q]; exact ⟨h2, Int.le_refl _, fun _ => h4 q⟩
    · rw [if_neg q]
      have hs := Wt_step S (i := i) (by omega)
      by_cases e : i = n
      · exfalso
        have z := hx.2
        rw [e] at q
        have := hx.1 b.toNat (by omega)
        omega
      · have e2 : Wt S i.toNat - Wt S b.toNat + 1 + (if ¬ sp_op (S i) then -1 else 1) = Wt S (i + 1).toNat - Wt S b.toNat + 1 := by rw [hs]; omega
        rw [e2]
        have r := ih (i + 1) (by omega) (by omega) (by omega) (fun z => by rw [hs] at z ⊢; split at z <;> rename_i u <;> simp only [u] <;> simp <;> omega)
        exact ⟨r.1, by omega, r.2.2⟩
abbrev Sy (P : Pg) (k : Int) : Int → Int := fun i => P 12 (16 * k + i)
/-- each of the statements from f to t has no symbols, or an expression -/
def EX (P : Pg) (f t : Int) : Prop := ∀ k, f ≤ k → k < t → P 1 k ≠ 7 ∧ (P 11 k = 0 ∨ WX (Sy P k) (P 11 k))
def mfk (P : Pg) (k i : Int) : Prop := (P 12 (16 * k + i) = 47 ∨ P 12 (16 * k + i) = 37) ∧ ¬ (49 ≤ P 12 (16 * k + pe (Sy P k) 13 1 (i + 1)) ∧ P 12 (16 * k + pe (Sy P k) 13 1 (i + 1)) ≤ 57)
def mfi (P : Pg) (k i : Int) : Prop := ∃ x, i ≤ x ∧ x < P 11 k ∧ mfk P k x
def mf (P : Pg) (f t : Int) : Prop := ∃ k, f ≤ k ∧ k < t ∧ mfi P k 0
theorem op_next {S : Int → Int} {n i : Int} (hx : WX S n) (hi : 0 ≤ i ∧ i < n) (h : S i = 47 ∨ S i = 37) (hn : n ≤ 12) : i + 1 < n ∧ i + 1 ≤ pe S 13 1 (i + 1) ∧ pe S 13 1 (i + 1) < n := by
  have hop : sp_op (S i) := by rcases h with h | h <;> rw [h] <;> decide
  have w0 := hx.1 i.toNat (by omega)
  have ws := Wt_step S (i := i) hi.1
  rw [if_neg (fun z => z hop)] at ws
  have i1 : i + 1 < n := by
    refine Int.not_le.mp fun z => ?_
    have := hx.2
    rw [show n = i + 1 by omega] at this
    omega
  have r := pe_end hx (b := i + 1) ⟨by omega, i1⟩ 13 (i + 1) (Int.le_refl _) (by omega) (by omega) (fun z => by omega)
  rw [show Wt S (i + 1).toNat - Wt S (i + 1).toNat + 1 = 1 by omega] at r
  refine ⟨i1, r.2.1, ?_⟩
  have h3 := r.2.2 i1
  have h4 := r.1
  by_cases z : pe S 13 1 (i + 1) = n
  · have := hx.2
    rw [z] at h3
    omega
  · omega
section K
variable {l : Launch} {M : sl_M} {Q : sl_R} {P : Pg} {c : Nat}
theorem kX0_endOfOperand (hc : sl_cls c = 0) (hw : WF P) (hS : CdS M c P) {k b : Int} (hk : 0 ≤ k ∧ k < P 0 0) (hx : WX (Sy P k) (P 11 k)) (hb : 0 ≤ b ∧ b < P 11 k) (hQ : Q (some (vI (pe (Sy P k) 13 1 b))) M) : sl_Runs l mX0_endOfOperand [vR c 0, vI k, vI b] M Q := by
  have hn := hw.n0
  obtain ⟨s1, s2, s3, s4, -⟩ := hS k hk.1 hk.2
  have loop : ∀ (m : Nat) (i w : Int), w = Wt (Sy P k) i.toNat - Wt (Sy P k) b.toNat + 1 → b ≤ i → i ≤ P 11 k → (P 11 k - i).toNat < m → w ≤ 15 → -15 ≤ w → w ≤ 1 + (i - b) → Q (some (vI (pe (Sy P k) m w i))) M → sl_At l mX0_endOfOperand 5 [(0, vR c 0), (1, vI k), (3, vI w), (4, vI i)] [] M Q := by
    intro m
    induction m with
    | zero => intro i w _ _ _ h; omega
    | succ m ih =>
      intro i w ew bi il lm w1 w2 w3 hQ
      rw [pe] at hQ
      refine vX0_endOfOperand_5 hc fun _ _ _ _ => ?_
      rw [s1]
      refine ⟨by omega, fun q => ?_, fun q => ⟨fun q2 => ?_, fun q2 => ?_⟩⟩
      · have e : i = P 11 k := by omega
        have z := hx.2
        have y := hx.1 b.toNat (by omega)
        rw [if_pos (by rw [ew, e]; omega)] at hQ
        exact hQ
      · rw [if_pos q2] at hQ; exact hQ
      · rw [if_neg q2] at hQ
        rw [s4 i (by omega) (by omega)]
        have hs := Wt_step (Sy P k) (i := i) (by omega)
        have d : (if ¬ sp_op (P 12 (16 * k + i)) then (-1 : Int) else 1) = -1 ∨ (if ¬ sp_op (P 12 (16 * k + i)) then (-1 : Int) else 1) = 1 := by split <;> simp
        have hs' : Wt (Sy P k) (i + 1).toNat = Wt (Sy P k) i.toNat + (if ¬ sp_op (P 12 (16 * k + i)) then -1 else 1) := hs
        refine ⟨by omega, by omega, fun y ey => ⟨by omega, ?_⟩⟩
        refine ih (i + 1) y (by omega) (by omega) (by omega) (by omega) (by omega) (by omega) (by omega) ?_
        rw [ey]; exact hQ
  exact eX0_endOfOperand (vX0_endOfOperand_0 hc fun _ _ _ => loop 13 b 1 (by omega) (by omega) (by omega) (by omega) (by omega) (by omega) (by omega) hQ)
theorem kX0_mayFailToDivide (hc : sl_cls c = 0) (hw : WF P) (hC : Cd M c P) (hS : CdS M c P) (hE : EX P 0 (P 0 0)) (hQ : Q (some (vI (cif (mf P 0 (P 0 0)) 1 0))) M) : sl_Runs l mX0_mayFailToDivide [vR c 0] M Q := by
  have hn := hw.n0
  have yes : mf P 0 (P 0 0) → Q (some (vI 1)) M := fun z => by rw [cif1 z] at hQ; exact hQ
  have loop : ∀ (m : Nat) (k : Int), k = P 0 0 - (m : Int) → 0 ≤ k → (∀ x, 0 ≤ x → x < k → ¬ mfi P x 0) → sl_At l mX0_mayFailToDivide 2 [(0, vR c 0), (1, vI k)] [] M Q := by
    intro m
    induction m with
    | zero =>
      intro k ek k0 hno
      refine vX0_mayFailToDivide_2 hc fun _ _ => ⟨fun _ => ?_, fun q => by rw [hC.1] at q; omega⟩
      rw [cif0 (fun ⟨x, x0, x1, hx⟩ => hno x x0 (by omega) hx)] at hQ
      exact hQ
    | succ m ih =>
      intro k ek k0 hno
      have kn : k < P 0 0 := by omega
      obtain ⟨s1, s2, s3, s4, -⟩ := hS k k0 kn
      have hX := (hE k k0 kn).2
      have inner : ∀ (n : Nat) (i : Int), i = P 11 k - (n : Int) → 0 ≤ i → (∀ x, 0 ≤ x → x < i → ¬ mfk P k x) → sl_At l mX0_mayFailToDivide 12 [(0, vR c 0), (1, vI k), (2, vI i)] [] M Q := by
        intro n
        induction n with
        | zero =>
          intro i ei i0 hni
          refine vX0_mayFailToDivide_12 hc fun _ _ _ => ?_
          rw [s1]
          refine ⟨by omega, fun _ => ⟨by omega, ih (k + 1) (by omega) (by omega) (fun x x0 x1 => ?_)⟩, fun q => by omega⟩
          by_cases e : x = k
          · subst e; exact fun ⟨y, y0, y1, hy⟩ => hni y y0 (by omega) hy
          · exact hno x x0 (by omega)
        | succ n ih2 =>
          intro i ei i0 hni
          have hx : WX (Sy P k) (P 11 k) := by
            rcases hX with z | z
            · omega
            · exact z
          have e : sgn P k i = P 12 (16 * k + i) := by unfold sgn; rw [if_neg (by omega)]
          have go : ¬ mfk P k i → sl_At l mX0_mayFailToDivide 12 [(0, vR c 0), (1, vI k), (2, vI (i + 1))] [] M Q := by
            intro z
            refine ih2 (i + 1) (by omega) (by omega) (fun x x0 x1 => ?_)
            by_cases e : x = i
            · rw [e]; exact z
            · exact hni x x0 (by omega)
          have at44 : (P 12 (16 * k + i) = 47 ∨ P 12 (16 * k + i) = 37) → sl_At l mX0_mayFailToDivide 44 [(0, vR c 0), (1, vI k), (2, vI i)] [] M Q := by
            intro ho
            obtain ⟨o1, o2, o3⟩ := op_next hx (i := i) (by omega) ho s2.2
            refine vX0_mayFailToDivide_44 hc fun _ _ _ => ⟨by omega, kX0_endOfOperand hc hw hS ⟨k0, kn⟩ hx (by omega) ⟨_, rfl, kX0_symbol hc hw hS ⟨k0, kn⟩ (by omega) ⟨_, rfl, ?_⟩⟩⟩
            have e2 : sgn P k (pe (Sy P k) 13 1 (i + 1)) = P 12 (16 * k + pe (Sy P k) 13 1 (i + 1)) := by unfold sgn; rw [if_neg (by omega)]
            rw [e2]
            refine ⟨fun q => ?_, fun q => ⟨fun q2 => go fun z => z.2 (by omega), fun q2 => ?_⟩⟩
            · exact yes ⟨k, k0, kn, i, i0, by omega, ho, by omega⟩
            · exact yes ⟨k, k0, kn, i, i0, by omega, ho, by omega⟩
          refine vX0_mayFailToDivide_12 hc fun _ _ _ => ?_
          rw [s1]
          refine ⟨by omega, fun q => by omega, fun _ => kX0_symbol hc hw hS ⟨k0, kn⟩ i0 ⟨_, rfl, ?_⟩⟩
          rw [e]
          exact ⟨fun q => at44 (Or.inl q), fun q => ⟨fun q2 => at44 (Or.inr q2), fun q2 => ⟨by omega, go fun z => by rcases z.1 with u | u <;> omega⟩⟩⟩
      refine vX0_mayFailToDivide_2 hc fun _ _ => ⟨fun q => by rw [hC.1] at q; omega, fun _ => ?_⟩
      exact inner (P 11 k).toNat 0 (by omega) (by omega) (fun x x0 x1 => by omega)
  exact eX0_mayFailToDivide (vX0_mayFailToDivide_0 hc fun _ => loop (P 0 0).toNat 0 (by omega) (by omega) (fun x x0 x1 => by omega))
end K
