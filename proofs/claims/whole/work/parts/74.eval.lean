/-! What an expression comes to: (failure, value); failure 2 a division by 0, 3 a variable that is not set -/
def ev (S D : Int → Int) (B : Int) : Nat → Int → List (Int × Option Int) → Int → Int × Int
  | 0, _, _, v => (0, v)
  | n + 1, i, w, v =>
    if sp_op (S i) then ev S D B n (i + 1) ((S i, none) :: w) v
    else if ¬ (48 ≤ S i ∧ S i ≤ 57) ∧ bt B (S i - 97).toNat = false then (3, 0)
    else match psh w (if 48 ≤ S i ∧ S i ≤ 57 then S i - 48 else D (S i - 97)) with
      | none => (2, 0)
      | some (w', v') => ev S D B n (i + 1) w' v'
/-- what waits, in the class -/
def Wc (N : sl_M) : List (Int × Option Int) → Prop
  | [] => True
  | (o, x) :: t => N 3 8 t.length = o ∧ (match x with | none => N 3 10 t.length = 0 | some y => N 3 10 t.length ≠ 0 ∧ N 3 9 t.length = y) ∧ Wc N t
def FEv (M N : sl_M) : Prop := ∀ o i j, ¬ (o = 3 ∧ (i = 8 ∨ i = 9 ∨ i = 10 ∨ (i = 0 ∧ j = 6))) → N o i j = M o i j
theorem FEv.tr {M N O : sl_M} (h1 : FEv M N) (h2 : FEv N O) : FEv M O := fun o i j z => (h2 o i j z).trans (h1 o i j z)
theorem Wc.keep {N N' : sl_M} : ∀ (w : List (Int × Option Int)), Wc N w → (∀ i j, (i = 8 ∨ i = 9 ∨ i = 10) → j < (w.length : Int) → N' 3 i j = N 3 i j) → Wc N' w := by
  intro w
  induction w with
  | nil => intro _ _; trivial
  | cons a t ih =>
    intro h hE
    obtain ⟨o, x⟩ := a
    obtain ⟨h1, h2, h3⟩ := h
    have l : (((o, x) :: t).length : Int) = (t.length : Int) + 1 := by simp
    refine ⟨by rw [hE 8 _ (by omega) (by omega)]; exact h1, ?_, ih h3 (fun i j hi hj => hE i j hi (by omega))⟩
    rw [hE 10 _ (by omega) (by omega), hE 9 _ (by omega) (by omega)]
    exact h2
section K
variable {l : Launch} {M : sl_M} {Q : sl_R} {P : Pg} {c o : Nat}
theorem kX3_evaluate (hc : sl_cls c = 0) (ho : sl_cls o = 2) (hw : WF P) (hS : CdS M c P) {k : Int} (hk : 0 ≤ k ∧ k < P 0 0) (hv : ∀ i, 0 ≤ i → i < P 11 k → sp_op (P 12 (16 * k + i)) ∨ (48 ≤ P 12 (16 * k + i) ∧ P 12 (16 * k + i) ≤ 57) ∨ (97 ≤ P 12 (16 * k + i) ∧ P 12 (16 * k + i) ≤ 104)) (h0 : M 3 0 6 = 0)
    (hQ : ∀ N v, FEv M N → ((ev (Sy P k) (M o 1) (M o 0 1) (P 11 k).toNat 0 [] 0).1 = 0 → N 3 0 6 = 0 ∧ v = (ev (Sy P k) (M o 1) (M o 0 1) (P 11 k).toNat 0 [] 0).2) → ((ev (Sy P k) (M o 1) (M o 0 1) (P 11 k).toNat 0 [] 0).1 ≠ 0 → N 3 0 6 = (ev (Sy P k) (M o 1) (M o 0 1) (P 11 k).toNat 0 [] 0).1 - 1) → Q (some (vI v)) N) : sl_Runs l mX3_evaluate [vR 3 0, vR c 0, vI k, vR o 0] M Q := by
  have hn := hw.n0
  have c3 : c ≠ 3 := fun z => by rw [z] at hc; revert hc; decide +kernel
  have o3 : o ≠ 3 := fun z => by rw [z] at ho; revert ho; decide +kernel
  obtain ⟨s1, s2, -⟩ := hS k hk.1 hk.2
  -- a failure: the rest does nothing
  have dead9 : ∀ (N : sl_M) (a v i : Int), FEv M N → N 3 0 6 ≠ 0 → ((ev (Sy P k) (M o 1) (M o 0 1) (P 11 k).toNat 0 [] 0).1 ≠ 0 ∧ N 3 0 6 = (ev (Sy P k) (M o 1) (M o 0 1) (P 11 k).toNat 0 [] 0).1 - 1) → sl_At l mX3_evaluate 9 [(0, vR 3 0), (1, vR c 0), (2, vI k), (3, vR o 0), (4, vI a), (5, vI v), (6, vI i)] [] N Q := by
    intro N a v i hf hne he
    have : Q (some (vI v)) N := hQ N v hf (fun z => (he.1 z).elim) (fun _ => he.2)
    exact vX3_evaluate_9 hc ho fun _ _ _ _ _ => ⟨by omega, fun _ => this, fun _ => ⟨fun _ => this, fun q => (q hne).elim⟩⟩
  have dead102 : ∀ (n : Nat) (N : sl_M) (v i : Int), n ≤ 12 → 0 ≤ i → i < 100 → FEv M N → N 3 0 6 ≠ 0 → ((ev (Sy P k) (M o 1) (M o 0 1) (P 11 k).toNat 0 [] 0).1 ≠ 0 ∧ N 3 0 6 = (ev (Sy P k) (M o 1) (M o 0 1) (P 11 k).toNat 0 [] 0).1 - 1) → sl_At l mX3_evaluate 102 [(0, vR 3 0), (1, vR c 0), (2, vI k), (3, vR o 0), (4, vI (n : Int)), (5, vI v), (6, vI i)] [] N Q := by
    intro n
    have at158 : ∀ (n : Nat) (N : sl_M) (v i : Int), n ≤ 12 → 0 ≤ i → i < 100 → FEv M N → N 3 0 6 ≠ 0 → ((ev (Sy P k) (M o 1) (M o 0 1) (P 11 k).toNat 0 [] 0).1 ≠ 0 ∧ N 3 0 6 = (ev (Sy P k) (M o 1) (M o 0 1) (P 11 k).toNat 0 [] 0).1 - 1) → sl_At l mX3_evaluate 158 [(0, vR 3 0), (1, vR c 0), (2, vI k), (3, vR o 0), (4, vI (n : Int)), (5, vI v), (6, vI i)] [] N Q := by
      intro n N v i hn i0 i1 hf hne he
      refine vX3_evaluate_158 hc ho fun _ _ _ _ _ => ⟨fun _ => ⟨by omega, dead9 N _ v _ hf hne he⟩, fun q => ⟨by omega, fun M4 e4 M5 e5 => ⟨by omega, ?_⟩⟩⟩
      have e6 : M5 3 0 6 = N 3 0 6 := by rw [e5, e4]; simp [sl_wr]
      refine dead9 M5 _ v _ (hf.tr fun a b d z => ?_) (by rw [e6]; exact hne) (by rw [e6]; exact he)
      rw [e5, e4]; simp only [sl_wr]; rw [if_neg (by omega), if_neg (by omega)]
    induction n with
    | zero =>
      intro N v i hn i0 i1 hf hne he
      exact vX3_evaluate_102 hc ho fun _ _ _ _ _ => ⟨fun _ => at158 0 N v i hn i0 i1 hf hne he, fun q => by omega⟩
    | succ n ih =>
      intro N v i hn i0 i1 hf hne he
      refine vX3_evaluate_102 hc ho fun _ _ _ _ _ => ⟨fun q => by omega, fun q => ⟨by omega, fun _ => at158 (n + 1) N v i hn i0 i1 hf hne he, fun _ => ⟨by omega, fun _ => ?_, fun z => (z hne).elim⟩⟩⟩
      rw [show ((n + 1 : Nat) : Int) + (-1) = (n : Int) by omega]
      exact ih N 0 i (by omega) i0 i1 hf hne he
  -- an operand comes
  have push : ∀ (w : List (Int × Option Int)) (N : sl_M) (v i : Int), w.length ≤ 12 → 0 ≤ i → i < 12 → FEv M N → N 3 0 6 = 0 → Wc N w → (psh w v = none → (ev (Sy P k) (M o 1) (M o 0 1) (P 11 k).toNat 0 [] 0).1 = 2) → (∀ w' v' N', psh w v = some (w', v') → w'.length ≤ w.length → FEv M N' → N' 3 0 6 = 0 → Wc N' w' → sl_At l mX3_evaluate 9 [(0, vR 3 0), (1, vR c 0), (2, vI k), (3, vR o 0), (4, vI (w'.length : Int)), (5, vI v'), (6, vI (i + 1))] [] N' Q) → sl_At l mX3_evaluate 102 [(0, vR 3 0), (1, vR c 0), (2, vI k), (3, vR o 0), (4, vI (w.length : Int)), (5, vI v), (6, vI i)] [] N Q := by
    intro w
    induction w with
    | nil =>
      intro N v i hl i0 i1 hf h6 hW hN hC
      refine vX3_evaluate_102 hc ho fun _ _ _ _ _ => ⟨fun _ => ?_, fun q => by simp at q⟩
      exact vX3_evaluate_158 hc ho fun _ _ _ _ _ => ⟨fun _ => ⟨by omega, hC [] v N rfl (Nat.le_refl _) hf h6 hW⟩, fun q => by simp at q⟩
    | cons a t ih =>
      intro N v i hl i0 i1 hf h6 hW hN hC
      obtain ⟨op, x⟩ := a
      obtain ⟨h1, h2, h3⟩ := hW
      have ll : (((op, x) :: t).length : Int) = (t.length : Int) + 1 := by simp
      have ll' : ((op, x) :: t).length = t.length + 1 := by simp
      rw [ll]
      have e1 : (t.length : Int) + 1 - 1 = t.length := by omega
      have e2 : (t.length : Int) + 1 + (-1) = t.length := by omega
      refine vX3_evaluate_102 hc ho fun _ _ _ _ _ => ?_
      rw [e1, e2]
      cases x with
      | none =>
        have h2 : N 3 10 t.length = 0 := h2
        refine ⟨fun q => by omega, fun q => ⟨by omega, fun _ => ?_, fun q2 => (q2 h2).elim⟩⟩
        refine vX3_evaluate_158 hc ho fun _ _ _ _ _ => ?_
        rw [e1]
        refine ⟨fun q => by omega, fun q => ⟨by omega, fun M4 e4 M5 e5 => ⟨by omega, ?_⟩⟩⟩
        have r := hC ((op, some v) :: t) v M5 rfl (by simp) (hf.tr fun a b d z => by rw [e5, e4]; simp only [sl_wr]; rw [if_neg (by omega), if_neg (by omega)]) (by rw [e5, e4]; simp [sl_wr]; exact h6) ⟨?_, ⟨?_, ?_⟩, ?_⟩
        · rw [show (((op, some v) :: t).length : Int) = (t.length : Int) + 1 by simp] at r
          exact r
        · rw [e5, e4]; simp [sl_wr]; exact h1
        · rw [e5]; simp [sl_wr]
        · rw [e5, e4]; simp [sl_wr]
        · refine h3.keep t (fun b d hb hd => ?_)
          rw [e5, e4]; simp only [sl_wr]; rw [if_neg (by omega), if_neg (by omega)]
      | some y =>
        obtain ⟨h2, h4⟩ := (h2 : N 3 10 t.length ≠ 0 ∧ N 3 9 t.length = y)
        refine ⟨fun q => by omega, fun q => ⟨by omega, fun z => (h2 z).elim, fun _ => ⟨by omega, fun z => (z h6).elim, fun _ => ⟨by omega, ?_⟩⟩⟩⟩
        rw [h1, h4]
        refine kX3_apply (fun hf2 => ⟨_, rfl, ?_⟩) (fun hf2 => ⟨_, rfl, ?_⟩)
        · have ep : psh ((op, some y) :: t) v = psh t (opv op y v) := by rw [psh, if_neg hf2]
          rw [ep] at hN
          refine ih N (opv op y v) i (by omega) i0 i1 hf h6 h3 hN (fun w' v' N' e a1 a2 a3 a4 => hC w' v' N' (by rw [ep]; exact e) (by omega) a2 a3 a4)
        · have h := hN (by rw [psh, if_pos hf2])
          have e6 : (sl_wr N 3 0 6 1) 3 0 6 = 1 := sl_wr_s
          exact dead102 t.length _ 0 i (by omega) i0 (by omega) (hf.tr fun a b d z => by simp only [sl_wr]; rw [if_neg (by omega)]) (by rw [e6]; omega) (by rw [e6, h]; omega)
  have loop : ∀ (n : Nat) (i v : Int) (w : List (Int × Option Int)) (N : sl_M), i = P 11 k - (n : Int) → 0 ≤ i → (w.length : Int) ≤ i → FEv M N → N 3 0 6 = 0 → Wc N w → ev (Sy P k) (M o 1) (M o 0 1) n i w v = ev (Sy P k) (M o 1) (M o 0 1) (P 11 k).toNat 0 [] 0 → sl_At l mX3_evaluate 9 [(0, vR 3 0), (1, vR c 0), (2, vI k), (3, vR o 0), (4, vI (w.length : Int)), (5, vI v), (6, vI i)] [] N Q := by
    intro n
    induction n with
    | zero =>
      intro i v w N ei i0 hl hf h6 hW he
      refine vX3_evaluate_9 hc ho fun _ _ _ _ _ => ?_
      rw [hf c 9 k (by omega), s1]
      refine ⟨by omega, fun _ => hQ N v hf (fun _ => ⟨h6, ?_⟩) (fun z => ?_), fun q => by omega⟩
      · rw [← he]; rfl
      · rw [← he] at z; exact (z rfl).elim
    | succ n ih =>
      intro i v w N ei i0 hl hf h6 hW he
      have S2 : CdS N c P := hS.frame (fun a b => hf c a b (by omega))
      have eD : N o 1 = M o 1 := by funext j; exact hf o 1 j (by omega)
      have eB : N o 0 1 = M o 0 1 := hf o 0 1 (by omega)
      have es : sgn P k i = P 12 (16 * k + i) := by unfold sgn; rw [if_neg (by omega)]
      rw [ev] at he
      have hvi := hv i i0 (by omega)
      refine vX3_evaluate_9 hc ho fun _ _ _ _ _ => ?_
      rw [hf c 9 k (by omega), s1]
      refine ⟨by omega, fun q => by omega, fun _ => ⟨fun z => (z h6).elim, fun _ => kX0_symbol hc hw S2 hk i0 ⟨_, rfl, ?_⟩⟩⟩
      rw [es]
      have go : ∀ x, x = (if 48 ≤ P 12 (16 * k + i) ∧ P 12 (16 * k + i) ≤ 57 then P 12 (16 * k + i) - 48 else M o 1 (P 12 (16 * k + i) - 97)) → ¬ sp_op (P 12 (16 * k + i)) → ¬ (¬ (48 ≤ P 12 (16 * k + i) ∧ P 12 (16 * k + i) ≤ 57) ∧ bt (M o 0 1) (P 12 (16 * k + i) - 97).toNat = false) → sl_At l mX3_evaluate 102 [(0, vR 3 0), (1, vR c 0), (2, vI k), (3, vR o 0), (4, vI (w.length : Int)), (5, vI x), (6, vI i)] [] N Q := by
        intro x ex q1 q2
        rw [if_neg q1, if_neg q2, ← ex] at he
        refine push w N x i (by omega) i0 (by omega) hf h6 hW (fun z => ?_) (fun w' v' N' z a1 a2 a3 a4 => ?_)
        · rw [z] at he
          rw [← he]
        · rw [z] at he
          exact ih (i + 1) v' w' N' (by omega) (by omega) (by omega) a2 a3 a4 he
      refine ⟨fun q => ⟨fun q2 => ?_, fun q2 => ⟨by omega, fun y ey => go y (by rw [if_pos q2]; exact ey) q (fun z => z.1 q2)⟩⟩, fun q => ⟨fun z => by omega, fun z => ⟨by omega, fun M15 e15 M16 e16 => ⟨by omega, by omega, ?_⟩⟩⟩⟩
      · have hr : 97 ≤ P 12 (16 * k + i) ∧ P 12 (16 * k + i) ≤ 104 := by
          rcases hvi with u | u | u
          · exact (q u).elim
          · exact (q2 u).elim
          · exact u
        have ev1 : sp_var (P 12 (16 * k + i)) = P 12 (16 * k + i) - 97 := by unfold sp_var; rw [if_pos (by omega)]
        rw [ev1]
        refine kX3_valueOf ho (by omega) (fun hb => ⟨_, rfl, ?_⟩) (fun hb => ⟨_, rfl, ?_⟩)
        · rw [eB] at hb
          rw [eD]
          exact go _ (by rw [if_neg q2]) q (fun z => by rw [hb] at z; exact absurd z.2 (by decide))
        · rw [eB] at hb
          rw [if_neg q, if_pos ⟨q2, hb⟩] at he
          have e6 : (sl_wr N 3 0 6 2) 3 0 6 = 2 := sl_wr_s
          have h1 : (ev (Sy P k) (M o 1) (M o 0 1) (P 11 k).toNat 0 [] 0).1 = 3 := by rw [← he]
          exact dead102 w.length _ 0 i (by omega) i0 (by omega) (hf.tr fun a b d z => by simp only [sl_wr]; rw [if_neg (by omega)]) (by rw [e6]; omega) (by rw [e6, h1]; omega)
      · rw [if_pos q] at he
        have r := ih (i + 1) v ((P 12 (16 * k + i), none) :: w) M16 (by omega) (by omega) (by simp; omega) (hf.tr fun a b d z => by rw [e16, e15]; simp only [sl_wr]; rw [if_neg (by omega), if_neg (by omega)]) (by rw [e16, e15]; simp [sl_wr]; exact h6) ⟨?_, ?_, ?_⟩ he
        · rw [show (((P 12 (16 * k + i), none) :: w : List (Int × Option Int)).length : Int) = (w.length : Int) + 1 by simp] at r
          exact r
        · rw [e16, e15]; simp [sl_wr]
        · show M16 3 10 w.length = 0
          rw [e16]; exact sl_wr_s
        · refine hW.keep w (fun b d hb hd => ?_)
          rw [e16, e15]; simp only [sl_wr]; rw [if_neg (by omega), if_neg (by omega)]
  exact eX3_evaluate (vX3_evaluate_0 hc ho fun _ _ => loop (P 11 k).toNat 0 0 [] M (by omega) (by omega) (by simp) (fun _ _ _ _ => rfl) h0 trivial rfl)
end K
