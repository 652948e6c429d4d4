/-! What is told; the states that are kept -/
def tal (a b c t n m s w : Int) : Int := if w = 0 then a else if w = 1 then b else if w = 2 then c else if w = 3 then t else if w = 4 then n else if w = 5 then m else s
/-- numbers that come to a checksum -/
def dg (f : Int → Int) : Nat → Int → Int64 → Int64
  | 0, _, h => h
  | n + 1, w, h => dg f n (w + 1) (((31 : Int64) * h) + ((Int32.ofInt (f w)).toInt64))
def dgS (P : Pg) : Nat → Int → Int64 → Int64
  | 0, _, h => h
  | n + 1, k, h => dgS P n (k + 1) (dg (fun i => P 12 (16 * k + i)) (P 11 k).toNat 0 (dg (prp P k) 7 0 h))
noncomputable def dgM (R : Int → Int) : Nat → Int → Int64 → Int64
  | 0, _, h => h
  | n + 1, m, h => dgM R n (m + 1) (dg (mPr R m) 6 0 h)
noncomputable def dgA (P : Pg) (R : Int → Int) (f : Int → Int) : Int64 := dgM R (R 761).toNat 0 (dgS P (P 0 0).toNat 0 (dg f 7 0 2251))
theorem irem_dec : ∀ n : Nat, n < 16 → irem (n : Int) 6 = ((n % 6 : Nat) : Int) ∧ irem (n : Int) 8 = ((n % 8 : Nat) : Int) := by decide +kernel
theorem irem6 {x : Int} (h : 0 ≤ x ∧ x < 16) : irem x 6 = x % 6 := by
  have := (irem_dec x.toNat (by omega)).1
  rw [show ((x.toNat : Nat) : Int) = x by omega] at this
  rw [this]; omega
theorem irem8 {x : Int} (h : 0 ≤ x ∧ x < 16) : irem x 8 = x % 8 := by
  have := (irem_dec x.toNat (by omega)).2
  rw [show ((x.toNat : Nat) : Int) = x by omega] at this
  rw [this]; omega
/-- what keeping a state changes -/
def FKs (M N : sl_M) (at_ : Int) : Prop := ∀ o i j, ¬ (o = 1 ∧ ((i = 0 ∧ (j = 2 ∨ j = 3)) ∨ (i = 2 ∧ 990 * at_ ≤ j ∧ j < 990 * at_ + 990))) → N o i j = M o i j
section K
variable {l : Launch} {M : sl_M} {Q : sl_R} {R rho : Int → Int} {P : Pg}
theorem kX10_keepsState (h3 : 0 ≤ M 1 0 3 ∧ M 1 0 3 < 6) (h2 : 0 ≤ M 1 0 2 ∧ M 1 0 2 ≤ 6) (hQ : ∀ N, FKs M N (M 1 0 3) → N 1 0 3 = (M 1 0 3 + 1) % 6 → N 1 0 2 = min (M 1 0 2 + 1) 6 → (∀ k, 0 ≤ k → k < 990 → N 1 2 (990 * M 1 0 3 + k) = M 1 1 k) → Q none N) : sl_Runs l mX10_keepsState [vR 1 0] M Q := by
  have loop : ∀ (n : Nat) (x : Int) (N : sl_M), x = 990 - n → 0 ≤ x → FKs M N (M 1 0 3) → N 1 0 3 = M 1 0 3 → N 1 0 2 = M 1 0 2 → (∀ k, 0 ≤ k → k < x → N 1 2 (990 * M 1 0 3 + k) = M 1 1 k) → sl_At l mX10_keepsState 2 [(0, vR 1 0), (1, vI x)] [] N Q := by
    intro n
    induction n with
    | zero =>
      intro x N hx x0 hF a3 a2 hk
      refine vX10_keepsState_2 fun _ _ => ⟨fun _ => ?_, fun z => by omega⟩
      rw [a3, irem6 (by omega)]
      intro M2 e2
      have b2 : M2 1 0 2 = M 1 0 2 := by rw [e2]; simp only [sl_wr]; rw [if_neg (by omega)]; exact a2
      rw [b2]
      refine ⟨by split <;> omega, fun M5 e5 => hQ M5 (fun o i j z => ?_) ?_ ?_ (fun k k0 k1 => ?_)⟩
      · rw [e5, e2]; simp only [sl_wr]; rw [if_neg (by omega), if_neg (by omega)]; exact hF o i j z
      · rw [e5, e2]; simp [sl_wr]
      · rw [e5, sl_wr_s]; split <;> omega
      · rw [e5, e2]; simp only [sl_wr]; rw [if_neg (by omega), if_neg (by omega)]; exact hk k k0 (by omega)
    | succ n ih =>
      intro x N hx x0 hF a3 a2 hk
      refine vX10_keepsState_2 fun _ _ => ⟨fun z => by omega, fun _ => ?_⟩
      rw [a3, hF 1 1 x (by omega)]
      refine ⟨by omega, by omega, fun M8 e8 => ⟨by omega, ih (x + 1) M8 (by omega) (by omega) (fun o i j z => ?_) ?_ ?_ (fun k k0 k1 => ?_)⟩⟩
      · rw [e8]; simp only [sl_wr]; rw [if_neg (by omega)]; exact hF o i j z
      · rw [e8]; simp only [sl_wr]; rw [if_neg (by omega)]; exact a3
      · rw [e8]; simp only [sl_wr]; rw [if_neg (by omega)]; exact a2
      · by_cases ek : k = x
        · rw [ek, e8, sl_wr_s]
        · rw [e8]; simp only [sl_wr]; rw [if_neg (by omega)]; exact hk k k0 (by omega)
  exact eX10_keepsState (vX10_keepsState_0 fun _ => loop 990 0 M (by omega) (by omega) (fun _ _ _ _ => rfl) rfl rfl (fun k k0 k1 => by omega))
theorem kX10_back (ht : Tl M) (h3 : 0 ≤ M 1 0 3 ∧ M 1 0 3 < 6) (h2 : 0 ≤ M 1 0 2 ∧ M 1 0 2 ≤ 6) (hN : M 1 0 2 = 0 → ∀ N, FR M N 2 → Q (some (vI (-3))) N) (hQ : M 1 0 2 ≠ 0 → ∀ N, (∀ o i j, ¬ (o = 1 ∧ ((i = 0 ∧ (j = 2 ∨ j = 3)) ∨ (i = 1 ∧ 0 ≤ j ∧ j < 990))) → N o i j = M o i j) → N 1 0 3 = (M 1 0 3 + 5) % 6 → N 1 0 2 = M 1 0 2 - 1 → (∀ k, 0 ≤ k → k < 990 → N 1 1 k = M 1 2 (990 * ((M 1 0 3 + 5) % 6) + k)) → Q (some (vI (M 1 0 2 - 1))) N) : sl_Runs l mX10_back [vR 1 0] M Q := by
  refine eX10_back (vX10_back_0 fun _ => ⟨fun z => ?_, fun z => kX10_no ht (fun N f => ⟨_, rfl, hN (by omega) N f⟩)⟩)
  rw [show M 1 0 3 + 6 - 1 = M 1 0 3 + 5 by omega, irem6 (by omega)]
  intro M2 e2
  have b2 : M2 1 0 2 = M 1 0 2 := by rw [e2]; simp only [sl_wr]; rw [if_neg (by omega)]
  rw [b2]
  refine ⟨by omega, fun M4 e4 => ?_⟩
  have loop : ∀ (n : Nat) (x : Int) (N : sl_M), x = 990 - n → 0 ≤ x → (∀ o i j, ¬ (o = 1 ∧ ((i = 0 ∧ (j = 2 ∨ j = 3)) ∨ (i = 1 ∧ 0 ≤ j ∧ j < 990))) → N o i j = M o i j) → N 1 0 3 = (M 1 0 3 + 5) % 6 → N 1 0 2 = M 1 0 2 - 1 → (∀ k, 0 ≤ k → k < x → N 1 1 k = M 1 2 (990 * ((M 1 0 3 + 5) % 6) + k)) → sl_At l mX10_back 40 [(0, vR 1 0), (1, vI x)] [] N Q := by
    intro n
    induction n with
    | zero =>
      intro x N hx x0 hF a3 a2 hk
      refine vX10_back_40 fun _ _ => ⟨fun _ => ?_, fun w => by omega⟩
      rw [a2]
      exact hQ z N hF a3 a2 (fun k k0 k1 => hk k k0 (by omega))
    | succ n ih =>
      intro x N hx x0 hF a3 a2 hk
      refine vX10_back_40 fun _ _ => ⟨fun w => by omega, fun _ => ?_⟩
      rw [a3, hF 1 2 _ (by omega)]
      refine ⟨by omega, by omega, fun M8 e8 => ⟨by omega, ih (x + 1) M8 (by omega) (by omega) (fun o i j z => ?_) ?_ ?_ (fun k k0 k1 => ?_)⟩⟩
      · rw [e8]; simp only [sl_wr]; rw [if_neg (by omega)]; exact hF o i j z
      · rw [e8]; simp only [sl_wr]; rw [if_neg (by omega)]; exact a3
      · rw [e8]; simp only [sl_wr]; rw [if_neg (by omega)]; exact a2
      · by_cases ek : k = x
        · rw [ek, e8, sl_wr_s]
        · rw [e8]; simp only [sl_wr]; rw [if_neg (by omega)]; exact hk k k0 (by omega)
  refine loop 990 0 M4 (by omega) (by omega) (fun o i j w => ?_) ?_ ?_ (fun k k0 k1 => by omega)
  · rw [e4, e2]; simp only [sl_wr]; rw [if_neg (by omega), if_neg (by omega)]
  · rw [e4, e2]; simp [sl_wr]
  · rw [e4, sl_wr_s]
theorem kX10_type (ht : Tl M) (h7 : 0 ≤ M 1 0 7 ∧ M 1 0 7 ≤ 160) {c : Int} (hB : ¬ (0 ≤ c ∧ c ≤ 127) → ∀ N, FR M N 1 → Q (some (vI (-2))) N) (hF : (0 ≤ c ∧ c ≤ 127) → M 1 0 7 = 160 → ∀ N, FR M N 3 → Q (some (vI (-4))) N) (hQ : (0 ≤ c ∧ c ≤ 127) → M 1 0 7 ≠ 160 → ∀ N, (∀ o i j, ¬ (o = 1 ∧ ((i = 0 ∧ j = 7) ∨ (i = 9 ∧ j = M 1 0 7))) → N o i j = M o i j) → N 1 0 7 = M 1 0 7 + 1 → N 1 9 (M 1 0 7) = c → Q (some (vI (M 1 0 7 + 1))) N) : sl_Runs l mX10_type [vR 1 0, vI c] M Q := by
  refine eX10_type (vX10_type_0 fun _ _ => ⟨fun z => ⟨fun z2 => ⟨by omega, fun M4 e4 => ?_⟩, fun z2 => kX10_full ht (fun N f => ⟨_, rfl, hF z (by omega) N f⟩)⟩, fun z => kX10_bad ht (fun N f => ⟨_, rfl, hB z N f⟩)⟩)
  have a : M4 1 0 7 = M 1 0 7 := by rw [e4]; simp only [sl_wr]; rw [if_neg (by omega)]
  rw [a]
  refine ⟨by omega, fun M6 e6 => ?_⟩
  have b : M6 1 0 7 = M 1 0 7 + 1 := by rw [e6, sl_wr_s]
  rw [b]
  refine hQ z z2 M6 (fun o i j w => ?_) b ?_
  · rw [e6, e4]; simp only [sl_wr]; rw [if_neg (by omega), if_neg (by omega)]
  · rw [e6, e4]; simp [sl_wr]
theorem kX9_type (hC : Cs M P) (ht : Tc M) (h7 : 0 ≤ M 0 0 1 ∧ M 0 0 1 ≤ 160) {c : Int} (hB : ¬ (0 ≤ c ∧ c ≤ 127) → ∀ N, CR M N P 1 → Q (some (vI (-2))) N) (hF : (0 ≤ c ∧ c ≤ 127) → M 0 0 1 = 160 → ∀ N, CR M N P 3 → Q (some (vI (-4))) N) (hQ : (0 ≤ c ∧ c ≤ 127) → M 0 0 1 ≠ 160 → ∀ N, (∀ o i j, ¬ (o = 0 ∧ ((i = 0 ∧ j = 1) ∨ (i = 1 ∧ j = M 0 0 1))) → N o i j = M o i j) → N 0 0 1 = M 0 0 1 + 1 → N 0 1 (M 0 0 1) = c → Q (some (vI (M 0 0 1 + 1))) N) : sl_Runs l mX9_type [vR 0 0, vI c] M Q := by
  refine eX9_type (vX9_type_0 fun _ _ => ⟨fun z => kX9_refuse hC ht (by omega) (fun N f => ⟨_, rfl, hB (by omega) N f⟩), fun z => ⟨fun z2 => ⟨fun z3 => ⟨by omega, fun M4 e4 => ?_⟩, fun z3 => kX9_refuse hC ht (by omega) (fun N f => ⟨_, rfl, hF (by omega) (by omega) N f⟩)⟩, fun z2 => kX9_refuse hC ht (by omega) (fun N f => ⟨_, rfl, hB (by omega) N f⟩)⟩⟩)
  have a : M4 0 0 1 = M 0 0 1 := by rw [e4]; simp only [sl_wr]; rw [if_neg (by omega)]
  rw [a]
  refine ⟨by omega, fun M6 e6 => ?_⟩
  have b : M6 0 0 1 = M 0 0 1 + 1 := by rw [e6, sl_wr_s]
  rw [b]
  refine hQ (by omega) (by omega) M6 (fun o i j w => ?_) b ?_
  · rw [e6, e4]; simp only [sl_wr]; rw [if_neg (by omega), if_neg (by omega)]
  · rw [e6, e4]; simp [sl_wr]
theorem kX10_clear (hQ : Q (some (vI (M 1 0 7))) (sl_wr M 1 0 7 0)) : sl_Runs l mX10_clear [vR 1 0] M Q := eX10_clear (vX10_clear_0 fun _ N e => by rw [e]; exact hQ)
theorem kX9_clear (hQ : Q (some (vI (M 0 0 1))) (sl_wr M 0 0 1 0)) : sl_Runs l mX9_clear [vR 0 0] M Q := eX9_clear (vX9_clear_0 fun _ N e => by rw [e]; exact hQ)
theorem kX9_spare (h : 0 ≤ M 0 0 4 ∧ M 0 0 4 < 8) (hQ : Q (some (vR (10 + ((M 0 0 4 + 1) % 8).toNat) 0)) M) : sl_Runs l mX9_spare [vR 0 0] M Q := by
  refine eX9_spare (vX9_spare_0 fun _ => ?_)
  rw [irem8 (by omega)]
  exact ⟨by omega, hQ⟩
theorem kX9_advance (h : 0 ≤ M 0 0 4 ∧ M 0 0 4 < 8) (h5 : 0 ≤ M 0 0 5 ∧ M 0 0 5 ≤ 6) (hQ : ∀ N, (∀ o i j, ¬ ((o = 0 ∧ i = 0 ∧ (j = 4 ∨ j = 5)) ∨ (o = 6 ∧ i = 0 ∧ j = 1)) → N o i j = M o i j) → N 0 0 4 = (M 0 0 4 + 1) % 8 → N 0 0 5 = min (M 0 0 5 + 1) 6 → N 6 0 1 = 0 → Q none N) : sl_Runs l mX9_advance [vR 0 0] M Q := by
  refine eX9_advance (vX9_advance_0 fun _ => ?_)
  rw [irem8 (by omega)]
  intro M1 e1
  have a : M1 0 0 5 = M 0 0 5 := by rw [e1]; simp only [sl_wr]; rw [if_neg (by omega)]
  rw [a]
  refine ⟨by omega, fun M3 e3 => kX1_forget ⟨rfl, hQ _ (fun o i j z => ?_) ?_ ?_ ?_⟩⟩
  · rw [e3, e1]; simp only [sl_wr]; rw [if_neg (by omega), if_neg (by omega), if_neg (by omega)]
  · rw [e3, e1]; simp [sl_wr]
  · rw [e3]; simp [sl_wr]
  · exact sl_wr_s
theorem kX9_back (hC : Cs M P) (ht : Tc M) (h5 : 0 ≤ M 0 0 5 ∧ M 0 0 5 ≤ 6) (hN : M 0 0 5 = 0 → ∀ N, CR M N P 2 → Q (some (vI (-3))) N) (hQ : M 0 0 5 ≠ 0 → ∀ N, (∀ o i j, ¬ ((o = 0 ∧ i = 0 ∧ (j = 4 ∨ j = 5)) ∨ (o = 6 ∧ i = 0 ∧ j = 1)) → N o i j = M o i j) → N 0 0 4 = (M 0 0 4 + 7) % 8 → N 0 0 5 = M 0 0 5 - 1 → N 6 0 1 = 0 → Q (some (vI (M 0 0 5 - 1))) N) : sl_Runs l mX9_back [vR 0 0] M Q := by
  have h := hC.1
  refine eX9_back (vX9_back_0 fun _ => ⟨fun z => ?_, fun z => kX9_refuse hC ht (by omega) (fun N f => ⟨_, rfl, hN (by omega) N f⟩)⟩)
  rw [show M 0 0 4 + 8 - 1 = M 0 0 4 + 7 by omega, irem8 (by omega)]
  intro M1 e1
  have a : M1 0 0 5 = M 0 0 5 := by rw [e1]; simp only [sl_wr]; rw [if_neg (by omega)]
  rw [a]
  refine ⟨by omega, fun M3 e3 => kX1_forget ⟨rfl, ?_⟩⟩
  have b : (sl_wr M3 6 0 1 0) 0 0 5 = M 0 0 5 - 1 := by rw [e3]; simp [sl_wr]
  show Q (some (vI ((sl_wr M3 6 0 1 0) 0 0 5))) (sl_wr M3 6 0 1 0)
  rw [b]
  refine hQ z _ (fun o i j z => ?_) ?_ b ?_
  · rw [e3, e1]; simp only [sl_wr]; rw [if_neg (by omega), if_neg (by omega), if_neg (by omega)]
  · rw [e3, e1]; simp [sl_wr]
  · exact sl_wr_s
/-! told -/
abbrev talC (M : sl_M) (R rho : Int → Int) : Int → Int := tal (M 0 3 0) (M 0 3 1) (M 0 3 2) (M 0 0 1) (ly R rho 0 0) (R 761) (M 0 0 5)
abbrev talR (M : sl_M) (rho : Int → Int) : Int → Int := tal (M 1 0 4) (M 1 0 5) (M 1 0 6) (M 1 0 7) (ly (M 1 1) rho 0 0) (M 1 1 761) (M 1 0 2)
theorem kX9_tally (hC : Ci M R rho) {w : Int} (hw : 0 ≤ w ∧ w ≤ 6) (hQ : Q (some (vI (talC M R rho w))) M) : sl_Runs l mX9_tally [vR 0 0, vI w] M Q := by
  have h1 := hC.1
  have c1 := cls_psm h1
  have hS := hC.2.1
  unfold talC tal at hQ
  refine eX9_tally (vX9_tally_0 fun _ _ => ⟨fun z => ?_, fun z => ?_, fun z => ?_, fun z => ?_, fun z => ⟨fun z2 => by omega, fun _ => ⟨fun _ => by omega, ?_⟩⟩⟩)
  · rw [if_neg (by omega), if_neg (by omega), if_neg (by omega), if_pos z] at hQ; exact hQ
  · rw [if_neg (by omega), if_neg (by omega), if_neg (by omega), if_neg (by omega), if_pos z] at hQ
    refine kX9_present h1 ⟨_, rfl, c1, ?_⟩
    rw [hS.2.2.1.2.1.1]; exact hQ
  · rw [if_neg (by omega), if_neg (by omega), if_neg (by omega), if_neg (by omega), if_neg (by omega), if_pos z] at hQ
    refine kX9_present h1 ⟨_, rfl, c1, ?_⟩
    rw [hS.2.2.2.1]; exact hQ
  · rw [if_neg (by omega), if_neg (by omega), if_neg (by omega), if_neg (by omega), if_neg (by omega), if_neg (by omega)] at hQ; exact hQ
  · rw [if_neg (by omega)]
    have : w = 0 ∨ w = 1 ∨ w = 2 := by omega
    rcases this with e | e | e <;> subst e <;> exact hQ
noncomputable def qTold (f : Int → Int) (w : Int) : Int × Int := if 0 ≤ w ∧ w ≤ 6 then (f w, 0) else (-2, 1)
theorem kX9_told (hC : Ci M R rho) (ht : Tc M) {w : Int} (hQ : ∀ N, CR M N (ly R rho) (qTold (talC M R rho) w).2 → Q (some (vI (qTold (talC M R rho) w).1)) N) : sl_Runs l mX9_told [vR 0 0, vI w] M Q := by
  have hcs := hC.cs
  have bad : ¬ (0 ≤ w ∧ w ≤ 6) → sl_RI l mX9_refuse [vR 0 0, vI (-2)] M (fun y M => Q (some (vI y)) M) := fun z => kX9_refuse hcs ht (by omega) (fun N f => ⟨_, rfl, askc hQ (if_neg z) f⟩)
  exact eX9_told (vX9_told_0 fun _ _ => ⟨fun z => bad (by omega), fun z => ⟨fun z2 => kX9_tally hC (by omega) ⟨_, rfl, askc hQ (if_pos (by omega)) (CF.rf.cr hcs)⟩, fun z2 => bad (by omega)⟩⟩)
theorem kX10_toldOf (hG : Good (M 1 1) rho) {w : Int} (hw : 0 ≤ w ∧ w ≤ 6) (hQ : ∀ N, FLa M N → (w ≠ 4 → N = M) → (w = 4 → LaB N 0 (ly (M 1 1) rho)) → Q (some (vI (talR M rho w))) N) : sl_Runs l mX10_toldOf [vR 1 0, vI w] M Q := by
  have rf : FLa M M := fun _ _ _ _ => rfl
  have hr := hG.rda
  have q0 : w ≠ 4 → Q (some (vI (talR M rho w))) M := fun z => hQ M rf (fun _ => rfl) (fun u => (z u).elim)
  unfold talR tal at hQ q0
  refine eX10_toldOf (vX10_toldOf_0 fun _ _ => ⟨fun z => ?_, fun z => ?_, fun z => ?_, fun z => ?_, fun z => ?_, fun z => ?_, fun z => ?_⟩)
  · have := q0 (by omega); rw [if_pos z] at this; exact this
  · have := q0 (by omega); rw [if_neg (by omega), if_pos z] at this; exact this
  · have := q0 (by omega); rw [if_neg (by omega), if_neg (by omega), if_pos z] at this; exact this
  · have := q0 (by omega); rw [if_neg (by omega), if_neg (by omega), if_neg (by omega), if_pos z] at this; exact this
  · rw [if_neg (by omega), if_neg (by omega), if_neg (by omega), if_neg (by omega), if_pos z] at hQ
    refine kX10_lays hr.1 hr.2.1 fun N f1 l1 l2 => ⟨rfl, kX10_manyOf l1.1 ⟨_, rfl, hQ N f1 (fun u => (u z).elim) (fun _ => l1)⟩⟩
  · have := q0 (by omega); rw [if_neg (by omega), if_neg (by omega), if_neg (by omega), if_neg (by omega), if_neg (by omega), if_pos z] at this; exact this
  · have := q0 (by omega); rw [if_neg (by omega), if_neg (by omega), if_neg (by omega), if_neg (by omega), if_neg (by omega), if_neg (by omega)] at this; exact this
theorem kX10_told (hG : Good (M 1 1) rho) (ht : Tl M) {w : Int} (hQ : ∀ N, FR M N (qTold (talR M rho) w).2 → Q (some (vI (qTold (talR M rho) w).1)) N) : sl_Runs l mX10_told [vR 1 0, vI w] M Q := by
  refine eX10_told (vX10_told_0 fun _ _ => ⟨fun z => kX10_bad ht (fun N f => ⟨_, rfl, ask hQ (if_neg z) f⟩), fun z => kX10_toldOf hG z (fun N f _ _ => ⟨_, rfl, ask hQ (if_pos z) f.fq.fr⟩)⟩)
end K
