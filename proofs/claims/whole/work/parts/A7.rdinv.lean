/-! What holds all along while a program is read -/
def TGt (R : Int → Int) (t : Int) : Prop := R (1 + t) ≠ 7 ∧ (R (1 + t) = 0 → 0 ≤ R (201 + t) ∧ R (201 + t) < 8) ∧ (0 ≤ R (241 + t) ∧ R (241 + t) ≤ 12) ∧ EV (tp R) t ∧ ((R (1 + t) = 3 ∨ R (1 + t) = 4) → la (tp R) 0 40 (R (81 + t)) ≠ -1) ∧ (R (241 + t) = 0 ↔ (R (1 + t) = 3 ∨ R (1 + t) = 4)) ∧ (R (161 + t) = 0 ∨ R (161 + t) = 1)
def TGp (p : Int) (B : Int → Int) : Prop := WF (tp B) ∧ WF2 (tp B) ∧ wt (tp B) (B 0).toNat ≤ p ∧ ∀ t, 0 ≤ t → t < B 0 → TGt B t
def Sck (d : Int) (B k : Int → Int) : Prop := ∀ a, 0 ≤ a → a < d → (0 ≤ k a ∧ k a < B 0) ∧ isO (B (1 + k a)) ∧ B (41 + k a) = B 0 ∧ B (81 + k a) = (if a = 0 then -1 else k (a - 1)) ∧ (B (1 + k a) = 6 → B (161 + k a) = 0) ∧ ∀ x, 0 ≤ x → x < B 0 → B (81 + x) = k a → B (121 + x) ≤ B (161 + k a)
def RIv (L p d : Int) (B k : Int → Int) : Prop := (0 ≤ p ∧ p ≤ L) ∧ (0 ≤ d ∧ d ≤ B 0) ∧ TGp p B ∧ Sck d B k ∧ ∀ j, ¬ (0 ≤ j ∧ j ≤ 760) → B j = 0
theorem TGp.tg {p : Int} {B : Int → Int} (h : TGp p B) (hp : p ≤ 160) : TG B := ⟨h.1, h.2.1, Int.le_trans h.2.2.1 hp, h.2.2.2⟩
section S
variable {B : Int → Int} {u s x c : Int} {r : Int × Int × Int × (Int → Int)} {d p : Int} {k : Int → Int}
theorem stB_o {j : Int} (h0 : j ≠ 0) (h1 : j ≠ 1 + B 0) (h2 : j ≠ 81 + B 0) (h3 : j ≠ 121 + B 0) (h4 : j ≠ 161 + B 0) (h5 : j ≠ 201 + B 0) (h6 : j ≠ 241 + B 0) (h7 : ¬ (281 + 12 * B 0 ≤ j ∧ j < 293 + 12 * B 0)) (h8 : ¬ (41 ≤ j ∧ j ≤ 41 + B 0)) (h9 : 0 ≤ B 0) : stB B u s x c r j = B j := by
  unfold stB exB nwB
  rw [if_neg h6, if_neg h7, if_neg h0, if_neg h1, if_neg h2, if_neg h3, if_neg h4, if_neg h5, if_neg h6, if_neg (by omega), if_neg (by omega)]
theorem stB_old (hn : 0 ≤ B 0 ∧ B 0 < 40) {j : Int} (j0 : 0 ≤ j) (j1 : j < B 0) : stB B u s x c r (1 + j) = B (1 + j) ∧ stB B u s x c r (81 + j) = B (81 + j) ∧ stB B u s x c r (121 + j) = B (121 + j) ∧ stB B u s x c r (161 + j) = B (161 + j) ∧ stB B u s x c r (201 + j) = B (201 + j) ∧ stB B u s x c r (241 + j) = B (241 + j) ∧ (∀ i, 0 ≤ i → i < 12 → stB B u s x c r ((281 + 12 * j) + i) = B ((281 + 12 * j) + i)) ∧ stB B u s x c r (41 + j) = (if j ≤ u ∧ u < B (41 + j) then B 0 + 1 else B (41 + j)) := by
  refine ⟨stB_o (by omega) (by omega) (by omega) (by omega) (by omega) (by omega) (by omega) (by omega) (by omega) (by omega), stB_o (by omega) (by omega) (by omega) (by omega) (by omega) (by omega) (by omega) (by omega) (by omega) (by omega), stB_o (by omega) (by omega) (by omega) (by omega) (by omega) (by omega) (by omega) (by omega) (by omega) (by omega), stB_o (by omega) (by omega) (by omega) (by omega) (by omega) (by omega) (by omega) (by omega) (by omega) (by omega), stB_o (by omega) (by omega) (by omega) (by omega) (by omega) (by omega) (by omega) (by omega) (by omega) (by omega), stB_o (by omega) (by omega) (by omega) (by omega) (by omega) (by omega) (by omega) (by omega) (by omega) (by omega), fun i i0 i1 => stB_o (by omega) (by omega) (by omega) (by omega) (by omega) (by omega) (by omega) (by omega) (by omega) (by omega), ?_⟩
  unfold stB exB nwB
  rw [if_neg (show ¬ (41 + j = 241 + B 0) by omega), if_neg (by omega), if_neg (by omega), if_neg (by omega), if_neg (by omega), if_neg (by omega), if_neg (by omega), if_neg (by omega), if_neg (show ¬ (41 + j = 241 + B 0) by omega), if_neg (by omega)]
  by_cases q : j ≤ u ∧ u < B (41 + j)
  · rw [if_pos q, if_pos ⟨by omega, by omega, q.2⟩]
  · rw [if_neg q, if_neg (by omega)]
theorem stB_new (hn : 0 ≤ B 0 ∧ B 0 < 40) : stB B u s x c r 0 = B 0 + 1 ∧ stB B u s x c r (1 + B 0) = x ∧ stB B u s x c r (81 + B 0) = u ∧ stB B u s x c r (121 + B 0) = s ∧ stB B u s x c r (161 + B 0) = 0 ∧ stB B u s x c r (201 + B 0) = (if x = 0 then c - 97 else -1) ∧ stB B u s x c r (241 + B 0) = r.2.2.1 ∧ stB B u s x c r (41 + B 0) = B 0 + 1 ∧ ∀ i, 0 ≤ i → i < 12 → stB B u s x c r ((281 + 12 * B 0) + i) = r.2.2.2 i := by
  unfold stB exB nwB
  refine ⟨?_, ?_, ?_, ?_, ?_, ?_, if_pos rfl, ?_, fun i i0 i1 => ?_⟩
  · rw [if_neg (by omega), if_neg (by omega), if_pos rfl]
  · rw [if_neg (by omega), if_neg (by omega), if_neg (by omega), if_pos rfl]
  · rw [if_neg (by omega), if_neg (by omega), if_neg (by omega), if_neg (by omega), if_pos rfl]
  · rw [if_neg (by omega), if_neg (by omega), if_neg (by omega), if_neg (by omega), if_neg (by omega), if_pos rfl]
  · rw [if_neg (by omega), if_neg (by omega), if_neg (by omega), if_neg (by omega), if_neg (by omega), if_neg (by omega), if_pos rfl]
  · rw [if_neg (show ¬ (201 + B 0 = 241 + B 0) by omega), if_neg (by omega), if_neg (by omega), if_neg (by omega), if_neg (by omega), if_neg (by omega), if_neg (by omega), if_pos rfl]
  · rw [if_neg (show ¬ (41 + B 0 = 241 + B 0) by omega), if_neg (by omega), if_neg (by omega), if_neg (by omega), if_neg (by omega), if_neg (by omega), if_neg (by omega), if_neg (by omega), if_neg (by omega), if_pos rfl]
  · rw [if_neg (by omega), if_pos (by omega)]
    rw [show (281 + 12 * B 0) + i - (281 + 12 * B 0) = i by omega]
theorem stB_grw (hn : 0 ≤ B 0 ∧ B 0 < 40) : Grw (tp B) (tp (stB B u s x c r)) u s x := by
  obtain ⟨a0, a1, a2, a3, a4, a5, a6, a7, a8⟩ := stB_new (u := u) (s := s) (x := x) (c := c) (r := r) hn
  refine ⟨a0, ⟨a1, a2, a7, a3⟩, fun j j0 j1 => ?_⟩
  obtain ⟨b1, b2, b3, b4, b5, b6, b7, b8⟩ := stB_old (u := u) (s := s) (x := x) (c := c) (r := r) hn j0 j1
  exact ⟨b1, b2, b3, b8⟩
theorem la_eq {P P' : Pg} {f n : Int} (h : ∀ j, 0 ≤ j → j < n → P' 1 j = P 1 j ∧ P' 2 j = P 2 j ∧ P 2 j < n) : ∀ (m : Nat) (a : Int), a < n → la P' f m a = la P f m a := by
  intro m
  induction m with
  | zero => intro a _; rfl
  | succ m ih =>
    intro a ha
    rw [la, la]
    by_cases c : a < f ∨ a < 0
    · rw [if_pos c, if_pos c]
    · rw [if_neg c, if_neg c]
      obtain ⟨a1, a2, a3⟩ := h a (by omega) ha
      rw [a1, a2, ih (P 2 a) a3]
theorem EV_cong {P P' : Pg} {k : Int} (h11 : P' 11 k = P 11 k) (h12 : ∀ i, 0 ≤ i → i < P 11 k → P' 12 (16 * k + i) = P 12 (16 * k + i)) (h : EV P k) : EV P' k := by
  refine ⟨?_, fun i i0 i1 => ?_⟩
  · rw [h11]
    refine h.1.elim Or.inl (fun z => Or.inr (WX_cong (fun q q0 q1 => ?_) z))
    exact (h12 q q0 q1).symm
  · rw [h11] at i1
    rw [h12 i i0 i1]; exact h.2 i i0 i1
theorem tp12 {R : Int → Int} {k i : Int} (i0 : 0 ≤ i) (i1 : i < 16) : tp R 12 (16 * k + i) = R ((281 + 12 * k) + i) := by
  show R ((281 + (12 * ((16 * k + i) / 16))) + (16 * k + i) % 16) = _
  rw [show (16 * k + i) / 16 = k by omega, show (16 * k + i) % 16 = i by omega]
theorem TGt.old {B' : Int → Int} {t : Int} (h : TGt B t) (e1 : B' (1 + t) = B (1 + t)) (e2 : B' (201 + t) = B (201 + t)) (e3 : B' (241 + t) = B (241 + t)) (e4 : ∀ i, 0 ≤ i → i < 12 → B' ((281 + 12 * t) + i) = B ((281 + 12 * t) + i)) (e5 : la (tp B') 0 40 (B' (81 + t)) = la (tp B) 0 40 (B (81 + t))) (e6 : B' (161 + t) = 0 ∨ B' (161 + t) = 1) : TGt B' t := by
  obtain ⟨h1, h2, h3, h4, h5, h6, h7⟩ := h
  unfold TGt
  rw [e1, e2, e3, e5]
  refine ⟨h1, h2, h3, EV_cong (P := tp B) (P' := tp B') e3 (fun i i0 i1 => ?_) h4, h5, h6, e6⟩
  have i2 : i < B (241 + t) := i1
  rw [tp12 i0 (by omega), tp12 i0 (by omega)]
  exact e4 i i0 (by omega)
theorem wt_eq {P P' : Pg} : ∀ n : Nat, (∀ j : Int, 0 ≤ j → j < n → P' 11 j = P 11 j ∧ P' 1 j = P 1 j) → wt P' n = wt P n := by
  intro n
  induction n with
  | zero => intro _; rfl
  | succ n ih =>
    intro h
    rw [wt, wt, ih (fun j j0 j1 => h j j0 (by omega))]
    obtain ⟨a, b⟩ := h n (by omega) (by omega)
    rw [a, b]
/-- the open statements lie one inside the other -/
theorem Sck.mono (h : Sck d B k) (hw : WF (tp B)) : ∀ (n : Nat) (a b : Int), 0 ≤ a → a + n = b → b < d → k a ≤ k b := by
  intro n
  induction n with
  | zero => intro a b _ e _; rw [show b = a by omega]; omega
  | succ n ih =>
    intro a b a0 e hb
    obtain ⟨h1, -, -, h4, -⟩ := h b (by omega) hb
    rw [if_neg (by omega)] at h4
    have pr : -1 ≤ B (81 + k b) ∧ B (81 + k b) < k b := hw.pr (k := k b) h1.1 h1.2
    have := ih a (b - 1) a0 (by omega) (by omega)
    omega
theorem Sck.opn (h : Sck d B k) (d0 : 0 ≤ d) : Opn (tp B) (tpo d k) := by
  by_cases c : d = 0
  · exact Or.inl (if_pos c)
  · obtain ⟨h1, h2, h3, -⟩ := h (d - 1) (by omega) (by omega)
    refine Or.inr ?_
    rw [show tpo d k = k (d - 1) from if_neg c]
    exact ⟨h1, h3, h2⟩
theorem Sck.lup (h : Sck d B k) (hw : WF (tp B)) : ∀ (m : Nat) (a : Int), 0 ≤ a → a < d → (k a).toNat < m → (la (tp B) 0 m (k a) ≠ -1 ↔ ∃ b, 0 ≤ b ∧ b ≤ a ∧ B (1 + k b) = 6) := by
  intro m
  induction m with
  | zero => intro a _ _ z; omega
  | succ m ih =>
    intro a a0 a1 hm
    obtain ⟨h1, h2, h3, h4, -⟩ := h a a0 a1
    have pr : -1 ≤ B (81 + k a) ∧ B (81 + k a) < k a := hw.pr (k := k a) h1.1 h1.2
    rw [la, if_neg (by omega)]
    show (if B (1 + k a) = 6 then k a else la (tp B) 0 m (B (81 + k a))) ≠ -1 ↔ _
    by_cases c6 : B (1 + k a) = 6
    · rw [if_pos c6]
      exact ⟨fun _ => ⟨a, a0, Int.le_refl _, c6⟩, fun _ => by omega⟩
    · rw [if_neg c6]
      by_cases c0 : a = 0
      · rw [if_pos c0] at h4
        rw [h4]
        have : la (tp B) 0 m (-1) = -1 := by
          cases m with
          | zero => rfl
          | succ m => rw [la, if_pos (Or.inl (by omega))]
        rw [this]
        refine ⟨fun z => (z rfl).elim, fun ⟨b, b0, b1, b2⟩ => ?_⟩
        exact (c6 (by rw [show a = b by omega]; exact b2)).elim
      · rw [if_neg c0] at h4
        have h1' := (h (a - 1) (by omega) (by omega)).1
        rw [h4, ih (a - 1) (by omega) (by omega) (by omega)]
        constructor
        · rintro ⟨b, b0, b1, b2⟩; exact ⟨b, b0, by omega, b2⟩
        · rintro ⟨b, b0, b1, b2⟩
          refine ⟨b, b0, ?_, b2⟩
          by_cases e : b = a
          · rw [e] at b2; exact (c6 b2).elim
          · omega
/-- a loop is open: as the class sees it -/
theorem Sck.inlo (h : Sck d B k) (hw : WF (tp B)) (d0 : 0 ≤ d) : (tpo d k ≠ -1 ∧ (B (1 + tpo d k) = 6 ∨ la (tp B) 0 40 (B (81 + tpo d k)) ≠ -1)) ↔ inL d B k := by
  have n0 := hw.n0
  have e0 : tp B 0 0 = B 0 := rfl
  by_cases c : d = 0
  · rw [show tpo d k = -1 from if_pos c]
    exact ⟨fun z => (z.1 rfl).elim, fun ⟨a, a0, a1, _⟩ => by omega⟩
  · rw [show tpo d k = k (d - 1) from if_neg c]
    obtain ⟨h1, -⟩ := h (d - 1) (by omega) (by omega)
    have l := h.lup hw 41 (d - 1) (by omega) (by omega) (by omega)
    have e : la (tp B) 0 41 (k (d - 1)) ≠ -1 ↔ (B (1 + k (d - 1)) = 6 ∨ la (tp B) 0 40 (B (81 + k (d - 1))) ≠ -1) := by
      rw [la, if_neg (by omega)]
      show (if B (1 + k (d - 1)) = 6 then k (d - 1) else la (tp B) 0 40 (B (81 + k (d - 1)))) ≠ -1 ↔ _
      by_cases c6 : B (1 + k (d - 1)) = 6
      · rw [if_pos c6]; exact ⟨fun _ => Or.inl c6, fun _ => by omega⟩
      · rw [if_neg c6]; exact ⟨Or.inr, fun z => z.elim (fun y => (c6 y).elim) id⟩
    rw [← e, l]
    constructor
    · rintro ⟨-, b, b0, b1, b2⟩; exact ⟨b, b0, by omega, b2⟩
    · rintro ⟨b, b0, b1, b2⟩; exact ⟨by omega, b, b0, by omega, b2⟩
theorem Sck.l40 (h : Sck d B k) (hw : WF (tp B)) (hi : inL d B k) : la (tp B) 0 40 (tpo d k) ≠ -1 := by
  have n0 := hw.n0
  have e0 : tp B 0 0 = B 0 := rfl
  obtain ⟨b, b0, b1, b2⟩ := hi
  rw [show tpo d k = k (d - 1) from if_neg (by omega)]
  obtain ⟨h1, -⟩ := h (d - 1) (by omega) (by omega)
  exact (h.lup hw 40 (d - 1) (by omega) (by omega) (by omega)).mpr ⟨b, b0, by omega, b2⟩
end S
