/-! The text: blanks are passed over -/
def sk (t : Int → Int) (L : Int) : Nat → Int → Int
  | 0, p => p
  | n + 1, p => if L ≤ p then p else if t p ≠ 32 then p else sk t L n (p + 1)
/-- where the next byte stands, and which it is; -1: none -/
def sp (t : Int → Int) (L p : Int) : Int := sk t L (L - p).toNat p
def ch (t : Int → Int) (L p : Int) : Int := if L ≤ p then -1 else t p
theorem sk_rng {t : Int → Int} {L : Int} : ∀ (n : Nat) (p : Int), p ≤ L → p + n = L → p ≤ sk t L n p ∧ sk t L n p ≤ L := by
  intro n
  induction n with
  | zero => intro p h _; exact ⟨Int.le_refl _, h⟩
  | succ n ih =>
    intro p h hn
    unfold sk
    split
    · exact ⟨Int.le_refl _, h⟩
    · split
      · exact ⟨Int.le_refl _, h⟩
      · have := ih (p + 1) (by omega) (by omega); omega
theorem sp_rng {t : Int → Int} {L p : Int} (h : p ≤ L) : p ≤ sp t L p ∧ sp t L p ≤ L := sk_rng _ _ h (by omega)
theorem sp_end {t : Int → Int} {L p : Int} (h : L ≤ p) : sp t L p = p := by
  unfold sp; rw [show (L - p).toNat = 0 by omega]; rfl
theorem sp_at {t : Int → Int} {L p : Int} (h : p < L) (h2 : t p ≠ 32) : sp t L p = p := by
  unfold sp; rw [show (L - p).toNat = (L - p - 1).toNat + 1 by omega, sk, if_neg (by omega), if_pos h2]
theorem sp_go {t : Int → Int} {L p : Int} (h : p < L) (h2 : t p = 32) : sp t L p = sp t L (p + 1) := by
  unfold sp
  rw [show (L - p).toNat = (L - (p + 1)).toNat + 1 by omega, sk, if_neg (by omega), if_neg (fun q => q h2)]
section K
variable {l : Launch} {M : sl_M} {Q : sl_R}
theorem kX10_look (h7 : 0 ≤ M 1 0 7 ∧ M 1 0 7 ≤ 160) (h9 : 0 ≤ M 1 0 9 ∧ M 1 0 9 ≤ M 1 0 7) (hQ : ∀ N, (∀ (o i : Nat) (j : Int), ¬ (o = 1 ∧ i = 0 ∧ (j = 9 ∨ j = 10)) → N o i j = M o i j) → N 1 0 9 = sp (M 1 9) (M 1 0 7) (M 1 0 9) → N 1 0 10 = sp (M 1 9) (M 1 0 7) (M 1 0 9) → Q (some (vI (ch (M 1 9) (M 1 0 7) (sp (M 1 9) (M 1 0 7) (M 1 0 9))))) N) : sl_Runs l mX10_look [vR 1 0] M Q := by
  have loop : ∀ (n : Nat) (N : sl_M), (∀ (o i : Nat) (j : Int), ¬ (o = 1 ∧ i = 0 ∧ (j = 9 ∨ j = 10)) → N o i j = M o i j) → 0 ≤ N 1 0 9 → N 1 0 9 + (n : Int) = M 1 0 7 → sp (M 1 9) (M 1 0 7) (N 1 0 9) = sp (M 1 9) (M 1 0 7) (M 1 0 9) → sl_At l mX10_look 0 [(0, vR 1 0)] [] N Q := by
    intro n
    have fin : ∀ (N N2 : sl_M), (∀ (o i : Nat) (j : Int), ¬ (o = 1 ∧ i = 0 ∧ (j = 9 ∨ j = 10)) → N o i j = M o i j) → 0 ≤ N 1 0 9 → N 1 0 9 ≤ M 1 0 7 → N 1 0 9 = sp (M 1 9) (M 1 0 7) (M 1 0 9) → N2 = sl_wr N 1 0 10 (N 1 0 9) → ((¬ (N2 1 0 7 ≤ N2 1 0 9)) → (0 ≤ N2 1 0 9 ∧ N2 1 0 9 < 160)) ∧ Q (some (vI (if N2 1 0 7 ≤ N2 1 0 9 then (-1) else N2 1 9 (N2 1 0 9)))) N2 := by
      intro N N2 fN n0 n1 e e2
      have f2 : ∀ (o i : Nat) (j : Int), ¬ (o = 1 ∧ i = 0 ∧ j = 10) → N2 o i j = N o i j := fun o i j q => by rw [e2]; simp only [sl_wr]; rw [if_neg q]
      have a7 : N2 1 0 7 = M 1 0 7 := by rw [f2 1 0 7 (by omega)]; exact fN 1 0 7 (by omega)
      have a9 : N2 1 0 9 = N 1 0 9 := f2 1 0 9 (by omega)
      have ar : N2 1 9 = M 1 9 := by funext q; rw [f2 1 9 q (by omega)]; exact fN 1 9 q (by omega)
      rw [a7, a9, ar, e]
      rw [e] at n0 n1
      refine ⟨fun q => by omega, hQ N2 (fun o i j q => by rw [f2 o i j (by omega)]; exact fN o i j q) (by rw [a9]; exact e) (by rw [e2, sl_wr_s]; exact e)⟩
    induction n with
    | zero =>
      intro N fN n0 hn es
      have b7 : N 1 0 7 = M 1 0 7 := fN 1 0 7 (by omega)
      have e : N 1 0 9 = sp (M 1 9) (M 1 0 7) (M 1 0 9) := by rw [← es, sp_end (by omega)]
      exact vX10_look_0 fun _ => ⟨fun _ N2 e2 => fin N N2 fN n0 (by omega) e e2, fun q => by omega⟩
    | succ n ih =>
      intro N fN n0 hn es
      have b7 : N 1 0 7 = M 1 0 7 := fN 1 0 7 (by omega)
      have b9 : N 1 9 (N 1 0 9) = M 1 9 (N 1 0 9) := fN 1 9 _ (by omega)
      refine vX10_look_0 fun _ => ⟨fun q => by omega, fun _ => ⟨by omega, ?_⟩⟩
      rw [b9]
      refine ⟨fun q N2 e2 => fin N N2 fN n0 (by omega) (by rw [← es, sp_at (by omega) q]) e2, fun q => ⟨by omega, fun N2 e2 => ?_⟩⟩
      have q' : M 1 9 (N 1 0 9) = 32 := Classical.byContradiction q
      have a9 : N2 1 0 9 = N 1 0 9 + 1 := by rw [e2]; exact sl_wr_s
      refine ih N2 (fun o i j z => ?_) (by omega) (by omega) (by rw [a9, ← sp_go (by omega) q']; exact es)
      rw [e2]; simp only [sl_wr]; rw [if_neg (by omega)]; exact fN o i j z
  exact eX10_look (loop (M 1 0 7 - M 1 0 9).toNat M (fun _ _ _ _ => rfl) h9.1 (by omega) rfl)
theorem kX10_take (h7 : 0 ≤ M 1 0 7 ∧ M 1 0 7 ≤ 160) (h9 : 0 ≤ M 1 0 9 ∧ M 1 0 9 ≤ M 1 0 7) (hc : ∀ q, 0 ≤ q → q < M 1 0 7 → 0 ≤ M 1 9 q) (hQ : ∀ N, (∀ (o i : Nat) (j : Int), ¬ (o = 1 ∧ i = 0 ∧ (j = 9 ∨ j = 10)) → N o i j = M o i j) → N 1 0 9 = (if sp (M 1 9) (M 1 0 7) (M 1 0 9) < M 1 0 7 then sp (M 1 9) (M 1 0 7) (M 1 0 9) + 1 else M 1 0 7) → N 1 0 10 = sp (M 1 9) (M 1 0 7) (M 1 0 9) → Q (some (vI (ch (M 1 9) (M 1 0 7) (sp (M 1 9) (M 1 0 7) (M 1 0 9))))) N) : sl_Runs l mX10_take [vR 1 0] M Q := by
  have r := sp_rng (t := M 1 9) h9.2
  refine eX10_take (vX10_take_0 fun _ => kX10_look h7 h9 (fun N f a b => ⟨_, rfl, ?_⟩))
  have e : (if 0 ≤ ch (M 1 9) (M 1 0 7) (sp (M 1 9) (M 1 0 7) (M 1 0 9)) then (1 : Int) else 0) = (if sp (M 1 9) (M 1 0 7) (M 1 0 9) < M 1 0 7 then 1 else 0) := by
    unfold ch
    by_cases c : sp (M 1 9) (M 1 0 7) (M 1 0 9) < M 1 0 7
    · rw [if_neg (show ¬ (M 1 0 7 ≤ sp (M 1 9) (M 1 0 7) (M 1 0 9)) by omega), if_pos (hc _ (by omega) c), if_pos c]
    · rw [if_pos (show M 1 0 7 ≤ sp (M 1 9) (M 1 0 7) (M 1 0 9) by omega), if_neg (by omega), if_neg c]
  show sl_rg (N 1 0 9 + if 0 ≤ ch (M 1 9) (M 1 0 7) (sp (M 1 9) (M 1 0 7) (M 1 0 9)) then 1 else 0) ∧ (∀ M5, M5 = sl_wr N 1 0 9 (N 1 0 9 + if 0 ≤ ch (M 1 9) (M 1 0 7) (sp (M 1 9) (M 1 0 7) (M 1 0 9)) then 1 else 0) → Q _ M5)
  rw [e, a]
  refine ⟨by split <;> omega, fun N5 e5 => hQ N5 (fun o i j q => ?_) ?_ ?_⟩
  · rw [e5]; simp only [sl_wr]; rw [if_neg (by omega)]; exact f o i j q
  · rw [e5, sl_wr_s]; split <;> omega
  · rw [e5]; simp only [sl_wr]; rw [if_neg (by omega)]; exact b
theorem kX4_look (h0 : M 2 0 0 ≠ 0) (h7 : 0 ≤ M 2 0 1 ∧ M 2 0 1 ≤ 160) (h9 : 0 ≤ M 2 0 4 ∧ M 2 0 4 ≤ M 2 0 1) (hQ : ∀ N, (∀ (o i : Nat) (j : Int), ¬ (o = 2 ∧ i = 0 ∧ j = 4) → N o i j = M o i j) → N 2 0 4 = sp (M 0 1) (M 2 0 1) (M 2 0 4) → Q (some (vI (ch (M 0 1) (M 2 0 1) (sp (M 0 1) (M 2 0 1) (M 2 0 4))))) N) : sl_Runs l mX4_look [vR 2 0] M Q := by
  have loop : ∀ (n : Nat) (N : sl_M), (∀ (o i : Nat) (j : Int), ¬ (o = 2 ∧ i = 0 ∧ j = 4) → N o i j = M o i j) → 0 ≤ N 2 0 4 → N 2 0 4 + (n : Int) = M 2 0 1 → sp (M 0 1) (M 2 0 1) (N 2 0 4) = sp (M 0 1) (M 2 0 1) (M 2 0 4) → sl_At l mX4_look 0 [(0, vR 2 0)] [] N Q := by
    intro n
    induction n with
    | zero =>
      intro N fN n0 hn es
      have b7 : N 2 0 1 = M 2 0 1 := fN 2 0 1 (by omega)
      have e : N 2 0 4 = sp (M 0 1) (M 2 0 1) (M 2 0 4) := by rw [← es, sp_end (by omega)]
      have hd := hQ N fN e
      unfold ch at hd
      rw [← e, if_pos (by omega)] at hd
      exact vX4_look_0 fun _ => ⟨fun _ => ⟨fun _ => hd, fun q => by omega⟩, fun q => by omega⟩
    | succ n ih =>
      intro N fN n0 hn es
      have b7 : N 2 0 1 = M 2 0 1 := fN 2 0 1 (by omega)
      have b9 : N 0 1 (N 2 0 4) = M 0 1 (N 2 0 4) := fN 0 1 _ (by omega)
      have b0 : N 2 0 0 = M 2 0 0 := fN 2 0 0 (by omega)
      refine vX4_look_0 fun _ => ⟨fun q => by omega, fun _ => ⟨by omega, by omega, ?_⟩⟩
      rw [b9]
      refine ⟨fun q => ⟨fun z => by omega, fun _ => ?_⟩, fun q => ⟨by omega, fun N2 e2 => ?_⟩⟩
      · have e : N 2 0 4 = sp (M 0 1) (M 2 0 1) (M 2 0 4) := by rw [← es, sp_at (by omega) q]
        have hd := hQ N fN e
        unfold ch at hd
        rw [← e, if_neg (by omega)] at hd
        exact hd
      · have q' : M 0 1 (N 2 0 4) = 32 := Classical.byContradiction q
        have a9 : N2 2 0 4 = N 2 0 4 + 1 := by rw [e2]; exact sl_wr_s
        refine ih N2 (fun o i j z => ?_) (by omega) (by omega) (by rw [a9, ← sp_go (by omega) q']; exact es)
        rw [e2]; simp only [sl_wr]; rw [if_neg (by omega)]; exact fN o i j z
  exact eX4_look (loop (M 2 0 1 - M 2 0 4).toNat M (fun _ _ _ _ => rfl) h9.1 (by omega) rfl)
theorem kX4_expect (h0 : M 2 0 0 ≠ 0) (h7 : 0 ≤ M 2 0 1 ∧ M 2 0 1 ≤ 160) (h9 : 0 ≤ M 2 0 4 ∧ M 2 0 4 ≤ M 2 0 1) {c : Int} (hc : 0 ≤ c) (hY : ch (M 0 1) (M 2 0 1) (sp (M 0 1) (M 2 0 1) (M 2 0 4)) = c → sp (M 0 1) (M 2 0 1) (M 2 0 4) < M 2 0 1 → ∀ N, (∀ (o i : Nat) (j : Int), ¬ (o = 2 ∧ i = 0 ∧ j = 4) → N o i j = M o i j) → N 2 0 4 = sp (M 0 1) (M 2 0 1) (M 2 0 4) + 1 → Q (some (vI 1)) N) (hN : ch (M 0 1) (M 2 0 1) (sp (M 0 1) (M 2 0 1) (M 2 0 4)) ≠ c → ∀ N, (∀ (o i : Nat) (j : Int), ¬ (o = 2 ∧ i = 0 ∧ j = 4) → N o i j = M o i j) → N 2 0 4 = sp (M 0 1) (M 2 0 1) (M 2 0 4) → Q (some (vI 0)) N) : sl_Runs l mX4_expect [vR 2 0, vI c] M Q := by
  have r := sp_rng (t := M 0 1) h9.2
  refine eX4_expect (vX4_expect_0 fun _ _ => kX4_look h0 h7 h9 (fun N f a => ⟨_, rfl, fun z => ?_, fun z => hN z N f a⟩))
  have lt : sp (M 0 1) (M 2 0 1) (M 2 0 4) < M 2 0 1 := by
    refine Classical.byContradiction fun q => ?_
    unfold ch at z
    rw [if_pos (by omega)] at z; omega
  rw [a]
  refine ⟨by omega, fun N5 e5 => hY z lt N5 (fun o i j q => ?_) (by rw [e5]; exact sl_wr_s)⟩
  rw [e5]; simp only [sl_wr]; rw [if_neg q]; exact f o i j q
end K
