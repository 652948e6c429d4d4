/-! An expression is read -/
abbrev sym (c : Int) : Prop := sp_op c ∨ (48 ≤ c ∧ c ≤ 57) ∨ (97 ≤ c ∧ c ≤ 104)
/-- (1 read or 0 not, where it goes on or the fault, how many symbols, the symbols) -/
def exA (t : Int → Int) (L : Int) : Nat → Int → Int → Int → (Int → Int) → Int × Int × Int × (Int → Int)
  | 0, i, w, p, S => if w ≤ 0 then (1, p, i, S) else (0, sp t L p, i, S)
  | n + 1, i, w, p, S => if w ≤ 0 then (1, p, i, S) else if sym (ch t L (sp t L p)) then exA t L n (i + 1) (w + (if sp_op (ch t L (sp t L p)) then 1 else -1)) (sp t L p + 1) (fun q => if q = i then ch t L (sp t L p) else S q) else (0, sp t L p, i, S)
theorem sym_lt {t : Int → Int} {L p : Int} (h : sym (ch t L p)) : p < L := by
  refine Classical.byContradiction fun q => ?_
  unfold sym ch at h
  rw [if_pos (by omega)] at h
  rcases h with h | h | h
  · revert h; decide
  · omega
  · omega
section K
variable {l : Launch} {M : sl_M} {Q : sl_R}
theorem kX10_readsE (h7 : 0 ≤ M 1 0 7 ∧ M 1 0 7 ≤ 160) (h9 : 0 ≤ M 1 0 9 ∧ M 1 0 9 ≤ M 1 0 7) (hc : ∀ q, 0 ≤ q → q < M 1 0 7 → 0 ≤ M 1 9 q) {k : Int} (hk : 0 ≤ k ∧ k < 40) (h0 : M 1 12 (241 + k) = 0) (hQ : ∀ N r, r = exA (M 1 9) (M 1 0 7) 12 0 1 (M 1 0 9) (fun i => M 1 12 ((281 + 12 * k) + i)) → (∀ (o i : Nat) (j : Int), ¬ (o = 1 ∧ ((i = 0 ∧ (j = 9 ∨ j = 10)) ∨ (i = 12 ∧ (j = 241 + k ∨ (281 + 12 * k ≤ j ∧ j < 293 + 12 * k))))) → N o i j = M o i j) → (r.1 = 1 → N 1 0 9 = r.2.1) → (r.1 = 0 → N 1 0 10 = r.2.1) → N 1 12 (241 + k) = r.2.2.1 → (∀ i, 0 ≤ i → i < 12 → N 1 12 ((281 + 12 * k) + i) = r.2.2.2 i) → Q (some (vI r.1)) N) : sl_Runs l mX10_readsE [vR 1 0, vI k] M Q := by
  generalize hr : exA (M 1 9) (M 1 0 7) 12 0 1 (M 1 0 9) (fun i => M 1 12 ((281 + 12 * k) + i)) = r at *
  have loop : ∀ (n : Nat) (i w : Int) (N : sl_M) (S : Int → Int), i + (n : Int) = 12 → 0 ≤ i → -1 ≤ w → w ≤ i + 1 → (∀ (o i : Nat) (j : Int), ¬ (o = 1 ∧ ((i = 0 ∧ (j = 9 ∨ j = 10)) ∨ (i = 12 ∧ (j = 241 + k ∨ (281 + 12 * k ≤ j ∧ j < 293 + 12 * k))))) → N o i j = M o i j) → (0 ≤ N 1 0 9 ∧ N 1 0 9 ≤ M 1 0 7) → N 1 12 (241 + k) = i → (∀ a, 0 ≤ a → a < 12 → N 1 12 ((281 + 12 * k) + a) = S a) → exA (M 1 9) (M 1 0 7) n i w (N 1 0 9) S = r → sl_At l mX10_readsE 2 [(0, vR 1 0), (1, vI k), (2, vI w)] [] N Q := by
    intro n
    induction n with
    | zero =>
      intro i w N S hi i0 w0 w1 fN n9 n241 nS eR
      have b7 : N 1 0 7 = M 1 0 7 := fN 1 0 7 (by omega)
      have b9 : N 1 9 = M 1 9 := by funext q; exact fN 1 9 q (by omega)
      unfold exA at eR
      by_cases c : w ≤ 0
      · rw [if_pos c] at eR
        have hd := hQ N r rfl fN (fun _ => by rw [← eR]) (fun q => by rw [← eR] at q; exact absurd q (by show ¬ ((1 : Int) = 0); omega)) (by rw [← eR]; exact n241) (fun a a0 a1 => by rw [← eR]; exact nS a a0 a1)
        rw [← eR] at hd
        exact vX10_readsE_2 fun _ _ _ => ⟨fun _ => hd, fun q => (q c).elim⟩
      · rw [if_neg c] at eR
        refine vX10_readsE_2 fun _ _ _ => ⟨fun q => (c q).elim, fun _ => kX10_take (by rw [b7]; exact h7) (by rw [b7]; exact n9) (by rw [b7, b9]; exact hc) (fun O fO o9 o10 => ⟨_, rfl, ?_⟩)⟩
        rw [b7, b9] at o10 ⊢
        have fO' : ∀ (o i : Nat) (j : Int), ¬ (o = 1 ∧ ((i = 0 ∧ (j = 9 ∨ j = 10)) ∨ (i = 12 ∧ (j = 241 + k ∨ (281 + 12 * k ≤ j ∧ j < 293 + 12 * k))))) → O o i j = M o i j := fun o i j q => by rw [fO o i j (by omega)]; exact fN o i j q
        have o241 : O 1 12 (241 + k) = 12 := by rw [fO 1 12 _ (by omega), n241]; omega
        have hd := hQ O r rfl fO' (fun q => by rw [← eR] at q; exact absurd q (by show ¬ ((0 : Int) = 1); omega)) (fun _ => by rw [← eR]; exact o10) (by rw [← eR, o241]; show 12 = i; omega) (fun a a0 a1 => by rw [← eR, fO 1 12 _ (by omega)]; exact nS a a0 a1)
        rw [← eR] at hd
        have at52 : ∀ x3 x4 : Int, sl_At l mX10_readsE 52 [(0, vR 1 0), (1, vI k), (2, vI w), (3, vI x3), (4, vI x4)] [] O Q := fun x3 x4 => vX10_readsE_52 fun _ _ _ _ _ => ⟨by omega, fun q => (q o241).elim, fun _ => hd⟩
        exact ⟨fun _ => vX10_readsE_33 fun _ _ _ _ => ⟨fun _ => at52 _ _, fun q => (q (by omega)).elim⟩, fun _ y6 _ => ⟨fun _ => at52 _ _, fun _ => ⟨fun _ => hd, fun _ => at52 _ _⟩⟩⟩
    | succ n ih =>
      intro i w N S hi i0 w0 w1 fN n9 n241 nS eR
      have b7 : N 1 0 7 = M 1 0 7 := fN 1 0 7 (by omega)
      have b9 : N 1 9 = M 1 9 := by funext q; exact fN 1 9 q (by omega)
      unfold exA at eR
      by_cases c : w ≤ 0
      · rw [if_pos c] at eR
        have hd := hQ N r rfl fN (fun _ => by rw [← eR]) (fun q => by rw [← eR] at q; exact absurd q (by show ¬ ((1 : Int) = 0); omega)) (by rw [← eR]; exact n241) (fun a a0 a1 => by rw [← eR]; exact nS a a0 a1)
        rw [← eR] at hd
        exact vX10_readsE_2 fun _ _ _ => ⟨fun _ => hd, fun q => (q c).elim⟩
      · rw [if_neg c] at eR
        refine vX10_readsE_2 fun _ _ _ => ⟨fun q => (c q).elim, fun _ => kX10_take (by rw [b7]; exact h7) (by rw [b7]; exact n9) (by rw [b7, b9]; exact hc) (fun O fO o9 o10 => ⟨_, rfl, ?_⟩)⟩
        rw [b7, b9] at o9 o10 ⊢
        have rr := sp_rng (t := M 1 9) n9.2
        have fO' : ∀ (o i : Nat) (j : Int), ¬ (o = 1 ∧ ((i = 0 ∧ (j = 9 ∨ j = 10)) ∨ (i = 12 ∧ (j = 241 + k ∨ (281 + 12 * k ≤ j ∧ j < 293 + 12 * k))))) → O o i j = M o i j := fun o i j q => by rw [fO o i j (by omega)]; exact fN o i j q
        have o241 : O 1 12 (241 + k) = i := by rw [fO 1 12 _ (by omega)]; exact n241
        have oS : ∀ a, 0 ≤ a → a < 12 → O 1 12 ((281 + 12 * k) + a) = S a := fun a a0 a1 => by rw [fO 1 12 _ (by omega)]; exact nS a a0 a1
        generalize hcv : ch (M 1 9) (M 1 0 7) (sp (M 1 9) (M 1 0 7) (N 1 0 9)) = cv at *
        by_cases sy : sym cv
        · rw [if_pos sy] at eR
          have lt := sym_lt (t := M 1 9) (L := M 1 0 7) (p := sp (M 1 9) (M 1 0 7) (N 1 0 9)) (by rw [hcv]; exact sy)
          rw [if_pos lt] at o9
          have at52 : ∀ x4 : Int, (x4 = 0 ↔ sp_op cv) → sl_At l mX10_readsE 52 [(0, vR 1 0), (1, vI k), (2, vI w), (3, vI cv), (4, vI x4)] [] O Q := by
            intro x4 hx4
            refine vX10_readsE_52 fun _ _ _ _ _ => ⟨by omega, fun _ => ?_, fun q => (q (by omega)).elim⟩
            rw [o241]
            refine ⟨by omega, fun M4 e4' => ?_⟩
            have a241 : M4 1 12 (241 + k) = i := by rw [e4']; simp only [sl_wr]; rw [if_neg (by omega)]; exact o241
            rw [a241]
            refine ⟨by omega, fun M6 e6 => ⟨by split <;> omega, fun y9 ey => ?_⟩⟩
            have ey' : y9 = w + (if sp_op cv then 1 else -1) := by
              rw [ey]
              by_cases q : sp_op cv
              · rw [if_pos q, if_pos (hx4.mpr q)]
              · rw [if_neg q, if_neg (fun z => q (hx4.mp z))]
            have f6 : ∀ (o i' : Nat) (j : Int), ¬ (o = 1 ∧ i' = 12 ∧ (j = 241 + k ∨ j = (281 + 12 * k) + i)) → M6 o i' j = O o i' j := fun o i' j q => by rw [e6, e4']; simp only [sl_wr]; rw [if_neg (by omega), if_neg (by omega)]
            have m9 : M6 1 0 9 = sp (M 1 9) (M 1 0 7) (N 1 0 9) + 1 := by rw [f6 1 0 9 (by omega)]; exact o9
            refine ih (i + 1) y9 M6 (fun q => if q = i then cv else S q) (by omega) (by omega) (by rw [ey']; split <;> omega) (by rw [ey']; split <;> omega) (fun o i' j q => by rw [f6 o i' j (by omega)]; exact fO' o i' j q) (by rw [m9]; omega) (by rw [e6]; exact sl_wr_s) (fun a a0 a1 => ?_) (by rw [ey', m9]; exact eR)
            by_cases ea : a = i
            · rw [if_pos ea, e6, e4', ea]; simp only [sl_wr]; rw [if_neg (by omega), if_pos ⟨trivial, trivial, trivial⟩]
            · rw [if_neg ea, f6 1 12 _ (by omega)]; exact oS a a0 a1
          have dig : (48 ≤ cv ∧ cv ≤ 57) → ¬ sp_op cv := fun q z => by unfold sp_op at z; omega
          have let' : (97 ≤ cv ∧ cv ≤ 104) → ¬ sp_op cv := fun q z => by unfold sp_op at z; omega
          exact ⟨fun q => vX10_readsE_33 fun _ _ _ _ => ⟨fun _ => at52 1 ⟨fun z => by omega, fun z => (dig q z).elim⟩, fun q => (q (by omega)).elim⟩, fun q y6 ey6 => ⟨fun q2 => by rw [if_pos q2] at ey6; exact at52 y6 ⟨fun z => by omega, fun z => (let' q2 z).elim⟩, fun q2 => ⟨fun q3 => (sy.elim (fun z => (q3 z).elim) (fun z => z.elim (fun z => (q z).elim) (fun z => (q2 z).elim))), fun q3 => by rw [if_neg q2] at ey6; exact at52 y6 ⟨fun _ => q3, fun _ => ey6⟩⟩⟩⟩
        · rw [if_neg sy] at eR
          have hd := hQ O r rfl fO' (fun q => by rw [← eR] at q; exact absurd q (by show ¬ ((0 : Int) = 1); omega)) (fun _ => by rw [← eR]; exact o10) (by rw [← eR]; exact o241) (fun a a0 a1 => by rw [← eR]; exact oS a a0 a1)
          rw [← eR] at hd
          exact ⟨fun q => (sy (Or.inr (Or.inl q))).elim, fun q y6 _ => ⟨fun q2 => (sy (Or.inr (Or.inr q2))).elim, fun q2 => ⟨fun _ => hd, fun q3 => (sy (Or.inl q3)).elim⟩⟩⟩
  exact eX10_readsE (vX10_readsE_0 fun _ _ => loop 12 0 1 M _ (by omega) (by omega) (by omega) (by omega) (fun _ _ _ _ => rfl) h9 h0 (fun _ _ _ => rfl) hr)
end K
