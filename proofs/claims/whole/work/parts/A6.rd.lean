/-! A program that is being read, abstractly: position, how many blocks are open, the row, the open statements -/
abbrev RdS : Type := Int × Int × (Int → Int) × (Int → Int)
abbrev tpo (d : Int) (k : Int → Int) : Int := if d = 0 then -1 else k (d - 1)
abbrev sid (d : Int) (B k : Int → Int) : Int := if d = 0 then 0 else B (161 + k (d - 1))
abbrev isJ (x : Int) : Prop := x = 3 ∨ x = 4
abbrev isO (x : Int) : Prop := x = 5 ∨ x = 6
/-- a statement more -/
def nwB (B : Int → Int) (u s x c : Int) : Int → Int := fun j =>
  if j = 0 then B 0 + 1 else if j = 1 + B 0 then x else if j = 81 + B 0 then u else if j = 121 + B 0 then s else if j = 161 + B 0 then 0 else if j = 201 + B 0 then (if x = 0 then c - 97 else -1) else if j = 241 + B 0 then 0 else if j = 41 + B 0 then B 0 + 1 else if (41 ≤ j ∧ j < 41 + B 0) ∧ j - 41 ≤ u ∧ u < B j then B 0 + 1 else B j
/-- its symbols -/
def exB (B : Int → Int) (k : Int) (r : Int × Int × Int × (Int → Int)) : Int → Int := fun j => if j = 241 + k then r.2.2.1 else if 281 + 12 * k ≤ j ∧ j < 293 + 12 * k then r.2.2.2 (j - (281 + 12 * k)) else B j
abbrev stB (B : Int → Int) (u s x c : Int) (r : Int × Int × Int × (Int → Int)) : Int → Int := exB (nwB B u s x c) (B 0) r
abbrev stP (t : Int → Int) (L q x : Int) : Int := if x = 0 then sp t L (q + 1) + 1 else q + 1
def stE (t : Int → Int) (L q x : Int) (B : Int → Int) : Int × Int × Int × (Int → Int) := if isJ x then (1, stP t L q x, 0, fun i => B ((281 + 12 * B 0) + i)) else exA t L 12 0 1 (stP t L q x) (fun i => B ((281 + 12 * B 0) + i))
def inL (d : Int) (B k : Int → Int) : Prop := ∃ a, 0 ≤ a ∧ a < d ∧ B (1 + k a) = 6
def rdB (x d : Int) (B k : Int → Int) : Prop := x = -1 ∨ B 0 = 40 ∨ (isJ x ∧ ¬ inL d B k)
/-- a statement that begins with the byte at q -/
noncomputable def rdS (t : Int → Int) (L q d : Int) (B k : Int → Int) : Int × RdS :=
  @ite _ (rdB (kdA (t q)) d B k) (Classical.propDecidable _) (0, q, d, B, k)
  (if kdA (t q) = 0 ∧ ch t L (sp t L (q + 1)) ≠ 61 then (0, sp t L (q + 1), d, B, k)
  else if (stE t L q (kdA (t q)) B).1 = 0 then (0, (stE t L q (kdA (t q)) B).2.1, d, B, k)
  else if ch t L (sp t L (stE t L q (kdA (t q)) B).2.1) ≠ (if isO (kdA (t q)) then 123 else 59) then (0, sp t L (stE t L q (kdA (t q)) B).2.1, d, B, k)
  else (1, sp t L (stE t L q (kdA (t q)) B).2.1 + 1, (if isO (kdA (t q)) then d + 1 else d), stB B (tpo d k) (sid d B k) (kdA (t q)) (t q) (stE t L q (kdA (t q)) B), fun a => if a = d then B 0 else k a))
abbrev elB (B : Int → Int) (u : Int) : Int → Int := fun j => if j = 161 + u then 1 else B j
/-- a block is closed -/
def rdC (t : Int → Int) (L q d : Int) (B k : Int → Int) : Int × RdS :=
  if B (1 + k (d - 1)) = 5 ∧ B (161 + k (d - 1)) = 0 then (if ch t L (sp t L (q + 1)) = 123 then (1, sp t L (q + 1) + 1, d, elB B (k (d - 1)), k) else (1, sp t L (q + 1), d - 1, B, k)) else (1, q + 1, d - 1, B, k)
noncomputable def rdT (t : Int → Int) (L q d : Int) (B k : Int → Int) : Int × RdS := if t q = 125 ∧ 0 < d then rdC t L q d B k else rdS t L q d B k
noncomputable def rdL (t : Int → Int) (L : Int) : Nat → RdS → Int × RdS
  | 0, s => (0, s)
  | n + 1, s => if L ≤ sp t L s.1 then (if s.2.1 = 0 then 1 else 0, sp t L s.1, s.2) else if (rdT t L (sp t L s.1) s.2.1 s.2.2.1 s.2.2.2).1 = 0 then rdT t L (sp t L s.1) s.2.1 s.2.2.1 s.2.2.2 else rdL t L n (rdT t L (sp t L s.1) s.2.1 s.2.2.1 s.2.2.2).2
/-! What an expression that was read is -/
theorem exA_gen {t : Int → Int} {L : Int} : ∀ (n : Nat) (i w p : Int) (S : Int → Int), i + (n : Int) = 12 → 0 ≤ i → p ≤ L → 0 ≤ w → Wt S i.toNat = w → (∀ a : Nat, (a : Int) < i → 0 < Wt S a) → (∀ a, 0 ≤ a → a < i → sym (S a)) → ((exA t L n i w p S).1 = 0 ∨ (exA t L n i w p S).1 = 1) ∧ p + ((exA t L n i w p S).2.2.1 - i) ≤ (exA t L n i w p S).2.1 ∧ (exA t L n i w p S).2.1 ≤ L ∧ i ≤ (exA t L n i w p S).2.2.1 ∧ (exA t L n i w p S).2.2.1 ≤ 12 ∧ (∀ a, 0 ≤ a → a < (exA t L n i w p S).2.2.1 → sym ((exA t L n i w p S).2.2.2 a)) ∧ ((exA t L n i w p S).1 = 1 → WX (exA t L n i w p S).2.2.2 (exA t L n i w p S).2.2.1) := by
  intro n
  induction n with
  | zero =>
    intro i w p S hi i0 hp w0 hw hW hS
    have r := sp_rng (t := t) hp
    unfold exA
    by_cases c : w ≤ 0
    · rw [if_pos c]
      exact ⟨Or.inr rfl, by show p + (i - i) ≤ p; omega, hp, Int.le_refl _, by show i ≤ 12; omega, hS, fun _ => ⟨hW, by show Wt S i.toNat = 0; omega⟩⟩
    · rw [if_neg c]
      exact ⟨Or.inl rfl, by show p + (i - i) ≤ sp t L p; omega, r.2, Int.le_refl _, by show i ≤ 12; omega, hS, fun z => absurd z (by show ¬ ((0 : Int) = 1); omega)⟩
  | succ n ih =>
    intro i w p S hi i0 hp w0 hw hW hS
    have r := sp_rng (t := t) hp
    unfold exA
    by_cases c : w ≤ 0
    · rw [if_pos c]
      exact ⟨Or.inr rfl, by show p + (i - i) ≤ p; omega, hp, Int.le_refl _, by show i ≤ 12; omega, hS, fun _ => ⟨hW, by show Wt S i.toNat = 0; omega⟩⟩
    · rw [if_neg c]
      by_cases sy : sym (ch t L (sp t L p))
      · rw [if_pos sy]
        have lt := sym_lt sy
        generalize ch t L (sp t L p) = cv at *
        have ag : ∀ q, 0 ≤ q → q < i → S q = (fun q => if q = i then cv else S q) q := fun q q0 q1 => by show S q = if q = i then cv else S q; rw [if_neg (by omega)]
        have e1 : Wt (fun q => if q = i then cv else S q) (i + 1).toNat = w + (if sp_op cv then 1 else -1) := by
          rw [Wt_step _ i0, ← Wt_cong (S := S) i.toNat (fun q q0 q1 => ag q q0 (by omega)), hw]
          show w + (if ¬ sp_op (if i = i then cv else S i) then -1 else 1) = _
          rw [if_pos rfl]
          by_cases o : sp_op cv
          · rw [if_neg (fun z => z o), if_pos o]
          · rw [if_pos o, if_neg o]
        have h := ih (i + 1) (w + (if sp_op cv then 1 else -1)) (sp t L p + 1) (fun q => if q = i then cv else S q) (by omega) (by omega) (by omega) (by split <;> omega) e1 (fun a ha => ?_) (fun a a0 a1 => ?_)
        · obtain ⟨h1, h2, h3, h4, h5, h6, h7⟩ := h
          exact ⟨h1, by omega, h3, by omega, h5, h6, h7⟩
        · rw [← Wt_cong (S := S) a (fun q q0 q1 => ag q q0 (by omega))]
          by_cases ea : (a : Int) = i
          · rw [show a = i.toNat by omega, hw]; omega
          · exact hW a (by omega)
        · show sym (if a = i then cv else S a)
          by_cases ea : a = i
          · rw [if_pos ea]; exact sy
          · rw [if_neg ea]; exact hS a a0 (by omega)
      · rw [if_neg sy]
        exact ⟨Or.inl rfl, by show p + (i - i) ≤ sp t L p; omega, r.2, Int.le_refl _, by show i ≤ 12; omega, hS, fun z => absurd z (by show ¬ ((0 : Int) = 1); omega)⟩
theorem exA_cong {t : Int → Int} {L : Int} : ∀ (n : Nat) (i w p : Int) (S S' : Int → Int), (∀ a, 0 ≤ a → a < 12 → S a = S' a) → (exA t L n i w p S).1 = (exA t L n i w p S').1 ∧ (exA t L n i w p S).2.1 = (exA t L n i w p S').2.1 ∧ (exA t L n i w p S).2.2.1 = (exA t L n i w p S').2.2.1 ∧ ∀ a, 0 ≤ a → a < 12 → (exA t L n i w p S).2.2.2 a = (exA t L n i w p S').2.2.2 a := by
  intro n
  induction n with
  | zero =>
    intro i w p S S' h
    unfold exA
    by_cases c : w ≤ 0
    · rw [if_pos c, if_pos c]; exact ⟨rfl, rfl, rfl, h⟩
    · rw [if_neg c, if_neg c]; exact ⟨rfl, rfl, rfl, h⟩
  | succ n ih =>
    intro i w p S S' h
    unfold exA
    by_cases c : w ≤ 0
    · rw [if_pos c, if_pos c]; exact ⟨rfl, rfl, rfl, h⟩
    · rw [if_neg c, if_neg c]
      by_cases sy : sym (ch t L (sp t L p))
      · rw [if_pos sy, if_pos sy]
        refine ih _ _ _ _ _ (fun a a0 a1 => ?_)
        show (if a = i then _ else S a) = if a = i then _ else S' a
        by_cases ea : a = i
        · rw [if_pos ea, if_pos ea]
        · rw [if_neg ea, if_neg ea]; exact h a a0 a1
      · rw [if_neg sy, if_neg sy]; exact ⟨rfl, rfl, rfl, h⟩
/-- what comes of the expression of a statement -/
theorem stE_ok {t : Int → Int} {L q x : Int} {B : Int → Int} (hp : stP t L q x ≤ L) : ((stE t L q x B).1 = 0 ∨ (stE t L q x B).1 = 1) ∧ stP t L q x + (stE t L q x B).2.2.1 ≤ (stE t L q x B).2.1 ∧ (stE t L q x B).2.1 ≤ L ∧ 0 ≤ (stE t L q x B).2.2.1 ∧ (stE t L q x B).2.2.1 ≤ 12 ∧ (∀ a, 0 ≤ a → a < (stE t L q x B).2.2.1 → sym ((stE t L q x B).2.2.2 a)) ∧ ((stE t L q x B).1 = 1 → ((stE t L q x B).2.2.1 = 0 ∨ WX (stE t L q x B).2.2.2 (stE t L q x B).2.2.1) ∧ ((stE t L q x B).2.2.1 = 0 ↔ isJ x)) := by
  unfold stE
  by_cases j : isJ x
  · rw [if_pos j]
    exact ⟨Or.inr rfl, by show stP t L q x + 0 ≤ stP t L q x; omega, hp, Int.le_refl _, by show (0 : Int) ≤ 12; omega, fun a a0 a1 => absurd a1 (by show ¬ (a < (0 : Int)); omega), fun _ => ⟨Or.inl rfl, fun _ => j, fun _ => rfl⟩⟩
  · rw [if_neg j]
    obtain ⟨h1, h2, h3, h4, h5, h6, h7⟩ := exA_gen (t := t) (L := L) 12 0 1 (stP t L q x) (fun i => B ((281 + 12 * B 0) + i)) (by omega) (by omega) hp (by omega) rfl (fun a ha => by omega) (fun a a0 a1 => by omega)
    refine ⟨h1, by omega, h3, h4, h5, h6, fun z => ⟨Or.inr (h7 z), fun e => ?_, fun e => (j e).elim⟩⟩
    have := (h7 z).2
    rw [e] at this
    exact absurd this (by show ¬ ((1 : Int) = 0); omega)
