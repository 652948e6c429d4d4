/-! The reference: both programs of its row are laid -/
def inB (b : Int) (i : Nat) (j : Int) : Prop := (i = 16 ∧ j = idiv b 41) ∨ (((17 ≤ i ∧ i ≤ 25) ∨ i = 30 ∨ i = 31) ∧ b ≤ j ∧ j < b + 41) ∨ (26 ≤ i ∧ i ≤ 29 ∧ 4 * b ≤ j ∧ j < 4 * b + 164)
def FB (M N : sl_M) (b : Int) : Prop := ∀ o i j, ¬ (o = 1 ∧ inB b i j) → N o i j = M o i j
def EqB (M N : sl_M) (b : Int) : Prop := ∀ i j, inB b i j → N 1 i j = M 1 i j
def LaB (M : sl_M) (b : Int) (P : Pg) : Prop := Ld M b P ∧ LdN M b P ∧ (∀ k, 0 ≤ k → k < P 0 0 → WYk M b P k) ∧ (0 < P 0 0 → LvS P 0 (P 0 0 - 1) (Lf M b)) ∧ M 1 30 (b + P 0 0) = 0 ∧ SuS P (Sf M b)
/-- the row R, read with or without calls, is the well formed program P -/
def RdB (R : Int → Int) (b : Int) (P : Pg) : Prop := WF P ∧ PR R b P ∧ PRf R P ∧ PR22 R P
def FLa (M N : sl_M) : Prop := ∀ o i j, ¬ (o = 1 ∧ 16 ≤ i ∧ i ≤ 31) → N o i j = M o i j
section K
variable {l : Launch} {M : sl_M} {Q : sl_R} {P : Pg} {b : Int}
theorem WE.eq {N : sl_M} {q w k e S : Int} (h : WE M q w P k e S) (hw : 0 ≤ w ∧ w < 4) (hE : ∀ i j, 26 ≤ i → i ≤ 29 → 4 * q ≤ j → j < 4 * q + 4 → N 1 i j = M 1 i j) : WE N q w P k e S := by
  unfold WE at h ⊢
  rw [hE 26 _ (by omega) (by omega) (by omega) (by omega), hE 27 _ (by omega) (by omega) (by omega) (by omega), hE 28 _ (by omega) (by omega) (by omega) (by omega), hE 29 _ (by omega) (by omega) (by omega) (by omega)]
  exact h
theorem WYk.eq {N : sl_M} {k : Int} (h : WYk M b P k) (h25 : N 1 25 (b + k) = M 1 25 (b + k)) (hE : ∀ i j, 26 ≤ i → i ≤ 29 → 4 * (b + k) ≤ j → j < 4 * (b + k) + 4 → N 1 i j = M 1 i j) : WYk N b P k := by
  obtain ⟨h1, h2⟩ := h
  refine ⟨fun z => ?_, fun z1 z2 => ?_⟩
  · obtain ⟨a1, a2⟩ := h1 z
    rw [h25]
    refine ⟨a1, fun s hs => ?_⟩
    rw [hE 26 _ (by omega) (by omega) (by omega) (by omega), hE 27 _ (by omega) (by omega) (by omega) (by omega), hE 28 _ (by omega) (by omega) (by omega) (by omega), hE 29 _ (by omega) (by omega) (by omega) (by omega)]
    exact a2 s hs
  · obtain ⟨a1, a2, a3⟩ := h2 z1 z2
    rw [h25]
    refine ⟨a1, fun e he he2 => ?_, fun w w0 w1 => ?_⟩
    · obtain ⟨w, w0, w1, w2⟩ := a2 e he he2
      exact ⟨w, w0, w1, w2.eq (by omega) hE⟩
    · obtain ⟨e, he, he2, w2⟩ := a3 w w0 w1
      exact ⟨e, he, he2, w2.eq (by omega) hE⟩
theorem LvS.cong {f t : Int} {A B : Int → Int} (h : LvS P f t A) (hE : ∀ k, f ≤ k → k ≤ t → B k = A k) : LvS P f t B := by
  unfold LvS at h ⊢
  intro k k0 k1
  rw [hE k k0 k1]
  exact h k k0 k1
theorem LaB.eq {N : sl_M} (h : LaB M b P) (hw : WF P) (hE : EqB M N b) : LaB N b P := by
  have hn := hw.n0
  obtain ⟨h1, h2, h3, h4, h5, h6⟩ := h
  have hb := h1.1
  have E : ∀ i k, ((17 ≤ i ∧ i ≤ 25) ∨ i = 30 ∨ i = 31) → 0 ≤ k → k ≤ P 0 0 → N 1 i (b + k) = M 1 i (b + k) := fun i k hi k0 k1 => hE i _ (Or.inr (Or.inl ⟨hi, by omega, by omega⟩))
  refine ⟨⟨hb, ?_, fun k k0 k1 => ?_⟩, fun k k0 k1 => ?_, fun k k0 k1 => ?_, fun z => ?_, ?_, fun k k0 k1 => ?_⟩
  · rw [hE 16 _ (Or.inl ⟨rfl, rfl⟩)]; exact h1.2.1
  · rw [E 17 k (by omega) k0 (by omega), E 18 k (by omega) k0 (by omega), E 19 k (by omega) k0 (by omega), E 20 k (by omega) k0 (by omega), E 23 k (by omega) k0 (by omega)]
    exact h1.2.2 k k0 k1
  · rw [E 21 k (by omega) k0 (by omega), E 22 k (by omega) k0 (by omega), E 24 k (by omega) k0 (by omega)]
    exact h2 k k0 k1
  · exact (h3 k k0 k1).eq (E 25 k (by omega) k0 (by omega)) (fun i j i1 i2 j1 j2 => hE i j (Or.inr (Or.inr ⟨i1, i2, by omega, by omega⟩)))
  · exact (h4 z).cong fun k k0 k1 => E 30 k (by omega) k0 (by omega)
  · rw [E 30 _ (by omega) (by omega) (by omega)]; exact h5
  · have := h6 k k0 k1
    unfold Sf at this ⊢
    rw [E 31 k (by omega) k0 (by omega)]
    exact this
theorem LaB.laf (h : LaB M 0 P) : LaF M P := by
  obtain ⟨h1, h2, h3, h4, h5, h6⟩ := h
  rw [Int.zero_add] at h5
  exact ⟨h1, h2, h3, h4, h5, h6⟩
theorem RdB.ed {R : Int → Int} (h : RdB R b P) : ∀ k x S, 0 ≤ k → k < P 0 0 → Ed P 0 (P 0 0 - 1) k x S → m8 S := by
  intro k x S k0 k1 he
  rcases he with ⟨-, e, -⟩ | ⟨-, -, e, he, -, -, rfl⟩
  · rw [e]; exact m8_0
  · exact (h.2.2.2 k k0 k1).2.2.1 e he
theorem lays_block (hb : b = 0 ∨ b = 41) (hR : RdB (M 1 1) b P) (hQ : ∀ N, FB M N b → LaB N b P → sl_At l mX10_lays 2 [(0, vR 1 0), (1, vI (b + 41))] [] N Q) : sl_At l mX10_lays 2 [(0, vR 1 0), (1, vI b)] [] M Q := by
  have hw := hR.1
  have hn := hw.n0
  have loop : ∀ (m : Nat) (k : Int) (N : sl_M), k = P 0 0 - (m : Int) → 0 ≤ k → FB M N b → Ld N b P → LdN N b P → (∀ q, 0 ≤ q → q < k → WYk N b P q) → sl_At l mX10_lays 15 [(0, vR 1 0), (1, vI b), (2, vI k)] [] N Q := by
    intro m
    induction m with
    | zero =>
      intro k N ek k0 hF hL hN hW
      have ek : k = P 0 0 := by omega
      subst ek
      refine vX10_lays_15 fun _ _ _ => kX10_manyOf hL ⟨_, rfl, fun _ => ?_, fun q => by omega⟩
      refine kX10_laysLive hw hL hN hW (fun q q0 q1 => (hR.2.2.2 q q0 q1).2.1) hR.ed (fun O f1 f2 f3 f4 => ⟨rfl, by omega, hQ O ?_ ?_⟩)
      · intro o i j z
        rw [← hF o i j z]
        refine f1 o i j fun y => z ⟨y.1, ?_⟩
        unfold inB
        omega
      · exact ⟨f1.ld hL, f1.ldn hN, fun q q0 q1 => f1.wy (hW q q0 q1), f2, f3, f4⟩
    | succ m ih =>
      intro k N ek k0 hF hL hN hW
      have kn : k < P 0 0 := by omega
      have e1 : N 1 1 = M 1 1 := by funext j; exact hF 1 1 j (by unfold inB; omega)
      refine vX10_lays_15 fun _ _ _ => kX10_manyOf hL ⟨_, rfl, fun q => by omega, fun _ => ?_⟩
      refine kX10_laysWays hw hL hN (by rw [e1]; exact hR.2.2.1) ⟨k0, kn⟩ (fun O f1 f2 => ⟨rfl, by omega, ih (k + 1) O (by omega) (by omega) ?_ (f2.ld hL) ?_ ?_⟩)
      · intro o i j z
        rw [← hF o i j z]
        refine f2 o i j fun y => z ⟨y.1, ?_⟩
        unfold inB
        omega
      · intro q q0 q1
        rw [f2 1 21 _ (by omega), f2 1 22 _ (by omega), f2 1 24 _ (by omega)]
        exact hN q q0 q1
      · intro q q0 q1
        by_cases qe : q = k
        · subst qe; exact f1
        · exact (hW q q0 (by omega)).eq (f2 1 25 _ (by omega)) (fun i j i1 i2 j1 j2 => f2 1 i j (by omega))
  refine vX10_lays_2 fun _ _ => ⟨fun q => by omega, fun _ => ?_⟩
  refine kX10_laysStatements hb hw hR.2.1 (fun N f1 f2 f3 => ⟨rfl, loop (P 0 0).toNat 0 N (by omega) (by omega) ?_ f2 f3 (fun q q0 q1 => by omega)⟩)
  intro o i j z
  refine f1 o i j fun y => z ⟨y.1, ?_⟩
  unfold inB
  omega
theorem kX10_lays {P' : Pg} (h0 : RdB (M 1 1) 0 P) (h1 : RdB (M 1 1) 41 P') (hQ : ∀ N, FLa M N → LaB N 0 P → LaB N 41 P' → Q none N) : sl_Runs l mX10_lays [vR 1 0] M Q := by
  refine eX10_lays (vX10_lays_0 fun _ => lays_block (Or.inl rfl) h0 fun N f1 l1 => ?_)
  have e1 : N 1 1 = M 1 1 := by funext j; exact f1 1 1 j (by unfold inB; omega)
  refine lays_block (P := P') (Or.inr rfl) (by rw [e1]; exact h1) fun O f2 l2 => ?_
  refine vX10_lays_2 fun _ _ => ⟨fun _ => hQ O ?_ ?_ l2, fun q => by omega⟩
  · intro o i j z
    rw [f2 o i j (by unfold inB; omega), f1 o i j (by unfold inB; omega)]
  · refine l1.eq h0.1 fun i j hij => f2 1 i j ?_
    have z0 : idiv 0 41 = 0 := by decide +kernel
    have z1 : idiv (0 + 41) 41 = 1 := by decide +kernel
    rintro ⟨-, hz⟩
    unfold inB at hij hz
    rw [z0] at hij
    rw [z1] at hz
    omega
end K
