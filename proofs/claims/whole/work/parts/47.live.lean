/-! Liveness: what repeated passes come to -/
/-- r is what k's own reads and its edges give, L being known behind -/
def LA (P : Pg) (f t : Int) (L : Int → Int) (k r : Int) : Prop := m8 r ∧ ∀ v, v < 8 → (bt r v = true ↔ (bt (P 10 k) v = true ∨ ∃ x S, Ed P f t k x S ∧ 0 ≤ x ∧ bt S v = false ∧ bt (L x) v = true))
def LI (P : Pg) (f t : Int) (L : Int → Int) : Prop := ∀ k, f ≤ k → k ≤ t → m8 (L k) ∧ ∀ v, v < 8 → bt (L k) v = true → (Lv P f t v k ∧ (bt (P 10 k) v = true ∨ ∃ x S, Ed P f t k x S ∧ 0 ≤ x ∧ bt S v = false ∧ bt (L x) v = true))
theorem LI.zero {P : Pg} {f t : Int} {L : Int → Int} (h : ∀ k, f ≤ k → k ≤ t → L k = 0) : LI P f t L := fun k h1 h2 => by
  rw [h k h1 h2]
  exact ⟨m8_0, fun v _ q => by rw [bt_0] at q; cases q⟩
/-- one statement is looked at anew: the set grows -/
theorem LI.step {P : Pg} (hw : WF P) {f t : Int} (hr : Rg P f t) {L : Int → Int} (h : LI P f t L) {k r : Int} (hk : f ≤ k ∧ k ≤ t) (hA : LA P f t L k r) : LI P f t (up L k r) ∧ ∀ y v, v < 8 → f ≤ y → y ≤ t → bt (L y) v = true → bt (up L k r y) v = true := by
  have grow : ∀ y v, v < 8 → f ≤ y → y ≤ t → bt (L y) v = true → bt (up L k r y) v = true := by
    intro y v hv y1 y2 q
    by_cases c : y = k
    · subst c
      rw [up_s]
      exact (hA.2 v hv).mpr ((h y y1 y2).2 v hv q).2
    · rw [up_o c]; exact q
  refine ⟨fun y y1 y2 => ?_, grow⟩
  have ext : ∀ v, v < 8 → (bt (P 10 y) v = true ∨ ∃ x S, Ed P f t y x S ∧ 0 ≤ x ∧ bt S v = false ∧ bt (L x) v = true) → (bt (P 10 y) v = true ∨ ∃ x S, Ed P f t y x S ∧ 0 ≤ x ∧ bt S v = false ∧ bt (up L k r x) v = true) := by
    rintro v hv (q | ⟨x, S, q1, q2, q3, q4⟩)
    · exact Or.inl q
    · have := (fw_ed hw hr ⟨y1, y2⟩ q1 q2).1
      exact Or.inr ⟨x, S, q1, q2, q3, grow x v hv this.1 this.2 q4⟩
  by_cases c : y = k
  · subst c
    rw [up_s]
    refine ⟨hA.1, fun v hv q => ?_⟩
    have q' := (hA.2 v hv).mp q
    refine ⟨?_, ext v hv q'⟩
    rcases q' with q | ⟨x, S, q1, q2, q3, q4⟩
    · exact Lv.base y1 y2 q
    · have := (fw_ed hw hr ⟨y1, y2⟩ q1 q2).1
      exact Lv.step y1 y2 q1 q2 q3 ((h x this.1 this.2).2 v hv q4).1
  · rw [up_o c]
    obtain ⟨a, b⟩ := h y y1 y2
    exact ⟨a, fun v hv q => ⟨(b v hv q).1, ext v hv (b v hv q).2⟩⟩
/-- nothing grows any more: it is the set -/
theorem LI.done {P : Pg} (hw : WF P) {f t : Int} (hr : Rg P f t) {L : Int → Int} (h : LI P f t L) (hc : ∀ k, f ≤ k → k ≤ t → LA P f t L k (L k)) : LvS P f t L := by
  intro k k1 k2
  refine ⟨(h k k1 k2).1, fun v hv => ⟨fun q => ((h k k1 k2).2 v hv q).1, fun q => ?_⟩⟩
  have := q (fun y => f ≤ y → y ≤ t → bt (L y) v = true) (fun a a1 a2 q _ _ => ((hc a a1 a2).2 v hv).mpr (Or.inl q)) (fun a x S a1 a2 he hx hS ih _ _ => by
    have z := (fw_ed hw hr ⟨a1, a2⟩ he hx).1
    exact ((hc a a1 a2).2 v hv).mpr (Or.inr ⟨x, S, he, hx, hS, ih z.1 z.2⟩))
  exact this k1 k2
/-! how many bits there are -/
def pcn (m : Int) : Nat := (bt m 0).toNat + (bt m 1).toNat + (bt m 2).toNat + (bt m 3).toNat + (bt m 4).toNat + (bt m 5).toNat + (bt m 6).toNat + (bt m 7).toNat
theorem tn_le (b : Bool) : b.toNat ≤ 1 := by cases b <;> decide
theorem pcn_le (m : Int) : pcn m ≤ 8 := by
  unfold pcn
  have := tn_le (bt m 0); have := tn_le (bt m 1); have := tn_le (bt m 2); have := tn_le (bt m 3)
  have := tn_le (bt m 4); have := tn_le (bt m 5); have := tn_le (bt m 6); have := tn_le (bt m 7)
  omega
theorem tn_mono {a b : Bool} (h : a = true → b = true) : a.toNat ≤ b.toNat := by cases a <;> cases b <;> simp_all
theorem tn_eq {a b : Bool} (h : a.toNat = b.toNat) : a = b := by cases a <;> cases b <;> simp_all
theorem pcn_mono {a b : Int} (h : ∀ v, v < 8 → bt a v = true → bt b v = true) : pcn a ≤ pcn b := by
  unfold pcn
  have := tn_mono (h 0 (by decide)); have := tn_mono (h 1 (by decide)); have := tn_mono (h 2 (by decide)); have := tn_mono (h 3 (by decide))
  have := tn_mono (h 4 (by decide)); have := tn_mono (h 5 (by decide)); have := tn_mono (h 6 (by decide)); have := tn_mono (h 7 (by decide))
  omega
theorem pcn_strict {a b : Int} (ha : m8 a) (hb : m8 b) (h : ∀ v, v < 8 → bt a v = true → bt b v = true) (hne : a ≠ b) : pcn a < pcn b := by
  refine Nat.lt_of_not_le fun q => hne (m8_ext ha hb fun v hv => ?_)
  unfold pcn at q
  have := tn_mono (h 0 (by decide)); have := tn_mono (h 1 (by decide)); have := tn_mono (h 2 (by decide)); have := tn_mono (h 3 (by decide))
  have := tn_mono (h 4 (by decide)); have := tn_mono (h 5 (by decide)); have := tn_mono (h 6 (by decide)); have := tn_mono (h 7 (by decide))
  rcases (show v = 0 ∨ v = 1 ∨ v = 2 ∨ v = 3 ∨ v = 4 ∨ v = 5 ∨ v = 6 ∨ v = 7 by omega) with rfl | rfl | rfl | rfl | rfl | rfl | rfl | rfl <;> exact tn_eq (by omega)
def cnt (L : Int → Int) (f : Int) : Nat → Nat
  | 0 => 0
  | n + 1 => cnt L f n + pcn (L (f + n))
theorem cnt_le (L : Int → Int) (f : Int) : ∀ n, cnt L f n ≤ 8 * n := by
  intro n
  induction n with
  | zero => exact Nat.le_refl _
  | succ n ih =>
    have := pcn_le (L (f + n))
    show cnt L f n + _ ≤ _
    omega
theorem cnt_mono {L L' : Int → Int} {f : Int} : ∀ n : Nat, (∀ i : Nat, i < n → pcn (L (f + i)) ≤ pcn (L' (f + i))) → cnt L f n ≤ cnt L' f n := by
  intro n
  induction n with
  | zero => intro _; exact Nat.le_refl _
  | succ n ih =>
    intro h
    have := ih (fun i hi => h i (by omega))
    have := h n (by omega)
    show cnt L f n + _ ≤ cnt L' f n + _
    omega
theorem cnt_strict {L L' : Int → Int} {f : Int} : ∀ n : Nat, (∀ i : Nat, i < n → pcn (L (f + i)) ≤ pcn (L' (f + i))) → (∃ i : Nat, i < n ∧ pcn (L (f + i)) < pcn (L' (f + i))) → cnt L f n < cnt L' f n := by
  intro n
  induction n with
  | zero => rintro _ ⟨i, h, -⟩; omega
  | succ n ih =>
    rintro h ⟨i, h1, h2⟩
    show cnt L f n + _ < cnt L' f n + _
    have := h n (by omega)
    by_cases c : i = n
    · subst c
      have := cnt_mono (L := L) (L' := L') (f := f) i (fun j hj => h j (by omega))
      omega
    · have := ih (fun j hj => h j (by omega)) ⟨i, by omega, h2⟩
      omega
/-- a pass that has changed something has more -/
theorem cnt_grow {L L' : Int → Int} {f t : Int} (hft : f ≤ t) (h1 : ∀ k, f ≤ k → k ≤ t → m8 (L k)) (h2 : ∀ k, f ≤ k → k ≤ t → m8 (L' k)) (h3 : ∀ k v, v < 8 → f ≤ k → k ≤ t → bt (L k) v = true → bt (L' k) v = true) (h4 : ∃ k, f ≤ k ∧ k ≤ t ∧ L k ≠ L' k) : cnt L f (t - f + 1).toNat < cnt L' f (t - f + 1).toNat := by
  obtain ⟨k, k1, k2, k3⟩ := h4
  refine cnt_strict _ (fun i hi => pcn_mono (fun v hv => h3 _ v hv (by omega) (by omega))) ⟨(k - f).toNat, by omega, ?_⟩
  rw [show f + ((k - f).toNat : Int) = k by omega]
  exact pcn_strict (h1 k k1 k2) (h2 k k1 k2) (fun v hv => h3 k v hv k1 k2) k3
