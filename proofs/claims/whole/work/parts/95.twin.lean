/-! Spans that are alike: what is to be found -/
/-- nobody is replaced by w -/
def nwd (to : Int → Int) (w : Int) : Prop := ∀ k, 0 ≤ k → k < 8 → to k ≠ w
/-- w is to replace v -/
noncomputable def rp (to : Int → Int) (v w : Int) : Option (Int → Int) := if to v = w then some to else @ite _ (to v = -1 ∧ nwd to w) (Classical.propDecidable _) (some (up to v w)) none
theorem rp_eq {to : Int → Int} {v w : Int} (h : to v = w) : rp to v w = some to := if_pos h
theorem rp_new {to : Int → Int} {v w : Int} (h : to v ≠ w) (h1 : to v = -1) (h2 : nwd to w) : rp to v w = some (up to v w) := by
  unfold rp; rw [if_neg h, if_pos ⟨h1, h2⟩]
theorem rp_no {to : Int → Int} {v w : Int} (h : to v ≠ w) (h1 : ¬ (to v = -1 ∧ nwd to w)) : rp to v w = none := by
  unfold rp; rw [if_neg h, if_neg h1]
theorem rp_some {to to' : Int → Int} {v w : Int} (h : rp to v w = some to') : (to v = w ∧ to' = to) ∨ (to v ≠ w ∧ to v = -1 ∧ nwd to w ∧ to' = up to v w) := by
  by_cases c : to v = w
  · rw [rp_eq c] at h; injection h with e; exact Or.inl ⟨c, e.symm⟩
  · by_cases d : to v = -1 ∧ nwd to w
    · rw [rp_new c d.1 d.2] at h; injection h with e; exact Or.inr ⟨c, d.1, d.2, e.symm⟩
    · rw [rp_no c d] at h; cases h
/-- n symbols of k and of t, from the i-th on -/
noncomputable def sm (P : Pg) (k t : Int) : Nat → Int → (Int → Int) → Option (Int → Int)
  | 0, _, to => some to
  | n + 1, i, to => if (97 ≤ P 12 (16 * k + i) ∧ P 12 (16 * k + i) ≤ 104) ∧ 97 ≤ P 12 (16 * t + i) ∧ P 12 (16 * t + i) ≤ 104 then (rp to (P 12 (16 * k + i) - 97) (P 12 (16 * t + i) - 97)).bind (sm P k t n (i + 1)) else if P 12 (16 * k + i) = P 12 (16 * t + i) then sm P k t n (i + 1) to else none
noncomputable def nm1 (P : Pg) (k t : Int) (to : Int → Int) : Option (Int → Int) := (sm P k t (P 11 k).toNat 0 to).bind fun to' => if P 1 k = 0 then rp to' (P 6 k) (P 6 t) else some to'
noncomputable def nms (P : Pg) (i f : Int) : Nat → Int → (Int → Int) → Option (Int → Int)
  | 0, _, to => some to
  | n + 1, x, to => (nm1 P (i + x) (f + x) to).bind (nms P i f n (x + 1))
/-- statement f + x has the shape and the place of statement i + x -/
def shp (P : Pg) (i f x : Int) : Prop := P 1 (i + x) ≠ 7 ∧ P 1 (i + x) = P 1 (f + x) ∧ P 5 (i + x) = P 5 (f + x) ∧ P 11 (i + x) = P 11 (f + x) ∧ ((P 2 (i + x) < i ∧ P 2 (f + x) < f) ∨ (i ≤ P 2 (i + x) ∧ f ≤ P 2 (f + x) ∧ P 2 (i + x) - i = P 2 (f + x) - f ∧ P 4 (i + x) = P 4 (f + x)))
def mtc (P : Pg) (i j f : Int) (to : Int → Int) : Prop := (∀ x, 0 ≤ x → x < P 3 j - i → shp P i f x) ∧ nms P i f (P 3 j - i).toNat 0 (fun _ => -1) = some to
/-- a renaming, packed -/
def pn (to : Int → Int) : Nat → Int → Int → Int
  | 0, _, a => a
  | n + 1, v, a => pn to n (v + 1) (if to v = -1 then a else ior a (ishl (to v) (3 * v)))
def pkn (to : Int → Int) : Int := pn to 8 0 0
/-- how many steps from k to j in their block; the n-th behind k -/
def cnB (P : Pg) (j : Int) : Nat → Int → Nat
  | 0, _ => 0
  | n + 1, k => if k < j then 1 + cnB P j n (P 3 k) else 0
def lst (P : Pg) : Nat → Int → Int
  | 0, k => k
  | n + 1, k => if k = -1 then -1 else lst P n (fol P k)
/-- the last statement of the span from f on that might be alike -/
abbrev lsf (P : Pg) (i j f : Int) : Int := lst P (cnB P j 40 i) f
def Cnd (P : Pg) (i j f : Int) (to : Int → Int) : Prop := lsf P i j f ≠ -1 ∧ P 3 (lsf P i j f) - f = P 3 j - i ∧ (P 3 j ≤ f ∨ P 3 (lsf P i j f) ≤ i) ∧ (∀ x, 0 ≤ x → x < P 3 j - i → shp P i f x) ∧ sB P f (lsf P i j f) = 0 ∧ sX P f (P 3 (lsf P i j f) - 1) = sX P i (P 3 j - 1) ∧ sI P f (lsf P i j f) = rset (pkn to) (sI P i j) ∧ sO P f (lsf P i j f) = rset (pkn to) (sO P i j)
noncomputable def cand (P : Pg) (i j f : Int) : Option (Int → Int) := (nms P i f (P 3 j - i).toNat 0 (fun _ => -1)).bind fun to => @ite _ (Cnd P i j f to) (Classical.propDecidable _) (some to) none
/-- those that are taken, from f on; fr: what is free -/
noncomputable def tks (P : Pg) (i j : Int) : Nat → Int → Int → List (Int × (Int → Int))
  | 0, _, _ => []
  | n + 1, f, fr => if f < fr then tks P i j n (f + 1) fr else match cand P i j f with
    | none => tks P i j n (f + 1) fr
    | some to => (f, to) :: tks P i j n (f + 1) (f + (P 3 j - i))
noncomputable abbrev tka (P : Pg) (i j : Int) : List (Int × (Int → Int)) := tks P i j (P 0 0).toNat 0 0
/-! the packed renaming -/
theorem bt_ishl {x k : Int} (hk : 0 ≤ k ∧ k < 32) {n : Nat} (hn : n < 32) : bt (ishl x k) n = (decide (k.toNat ≤ n) && bt x (n - k.toNat)) := by
  unfold bt ishl
  rw [sl_ofT]
  have hd : ∀ n : Nat, n < 32 → ((Int32.ofInt (n : Int) &&& 31).toBitVec.smod 32).toNat = n := by decide +kernel
  have e : ((k.toNat : Nat) : Int) = k := by omega
  have h1 := hd k.toNat (by omega)
  rw [e] at h1
  rw [Int32.toBitVec_shiftLeft, BitVec.shiftLeft_eq', h1, BitVec.getLsbD_shiftLeft]
  by_cases c : k.toNat ≤ n
  · rw [decide_eq_true c, decide_eq_true hn, decide_eq_false (show ¬ n < k.toNat by omega)]; simp
  · rw [decide_eq_false c, decide_eq_true (show n < k.toNat by omega)]; simp
theorem bt_ishr {x k : Int} (hk : 0 ≤ k ∧ k < 32) {n : Nat} (hn : k.toNat + n < 32) : bt (ishr x k) n = bt x (k.toNat + n) := by
  unfold bt ishr
  rw [sl_ofT]
  have hd : ∀ n : Nat, n < 32 → ((Int32.ofInt (n : Int) &&& 31).toBitVec.smod 32).toNat = n := by decide +kernel
  have e : ((k.toNat : Nat) : Int) = k := by omega
  have h1 := hd k.toNat (by omega)
  rw [e] at h1
  rw [Int32.toBitVec_shiftRight, BitVec.sshiftRight_eq', h1, BitVec.getLsbD_sshiftRight]
  have : decide (32 ≤ n) = false := decide_eq_false (by omega)
  simp [show ¬ 32 ≤ n by omega, show k.toNat + n < 32 from hn]
theorem bt_7 : ∀ b : Nat, b < 32 → bt 7 b = decide (b < 3) := by decide +kernel
theorem bt_lt8 : ∀ x : Nat, x < 8 → ∀ b : Nat, b < 32 → 3 ≤ b → bt (x : Int) b = false := by decide +kernel
theorem rn_bt {r v : Int} (hv : 0 ≤ v ∧ v < 8) {b : Nat} (hb : b < 3) : bt (rn r v) b = bt r (3 * v.toNat + b) := by
  unfold rn
  rw [bt_iand, bt_7 b (by omega), decide_eq_true hb, Bool.and_true, bt_ishr (by omega) (by omega)]
  congr 1; omega
theorem pn_bt {to : Int → Int} (ht : ∀ v, 0 ≤ v → v < 8 → -1 ≤ to v ∧ to v < 8) : ∀ (n : Nat) (v a : Int), 0 ≤ v → v + n = 8 → ∀ b : Nat, b < 24 → (bt (pn to n v a) b = true ↔ (bt a b = true ∨ ∃ u, v ≤ u ∧ u < 8 ∧ to u ≠ -1 ∧ 3 * u.toNat ≤ b ∧ bt (to u) (b - 3 * u.toNat) = true)) := by
  intro n
  induction n with
  | zero =>
    intro v a v0 hv b hb
    rw [pn]
    constructor
    · exact fun z => Or.inl z
    · rintro (z | ⟨u, u0, u1, _⟩)
      · exact z
      · omega
  | succ n ih =>
    intro v a v0 hv b hb
    rw [pn, ih (v + 1) _ (by omega) (by omega) b hb]
    by_cases c : to v = -1
    · rw [if_pos c]
      constructor
      · rintro (z | ⟨u, u0, u1, u2⟩)
        · exact Or.inl z
        · exact Or.inr ⟨u, by omega, u1, u2⟩
      · rintro (z | ⟨u, u0, u1, u2, u3⟩)
        · exact Or.inl z
        · have : u ≠ v := fun e => u2 (by rw [e]; exact c)
          exact Or.inr ⟨u, by omega, u1, u2, u3⟩
    · rw [if_neg c, bt_ior, Bool.or_eq_true, bt_ishl (by omega) (by omega), Bool.and_eq_true, decide_eq_true_iff]
      have e3 : (3 * v).toNat = 3 * v.toNat := by omega
      rw [e3]
      constructor
      · rintro ((z | z) | ⟨u, u0, u1, u2⟩)
        · exact Or.inl z
        · exact Or.inr ⟨v, by omega, by omega, c, z.1, z.2⟩
        · exact Or.inr ⟨u, by omega, u1, u2⟩
      · rintro (z | ⟨u, u0, u1, u2, u3⟩)
        · exact Or.inl (Or.inl z)
        · by_cases eu : u = v
          · rw [eu] at u3; exact Or.inl (Or.inr u3)
          · exact Or.inr ⟨u, by omega, u1, u2, u3⟩
/-- the packed renaming renames -/
theorem rn_pkn {to : Int → Int} (ht : ∀ v, 0 ≤ v → v < 8 → -1 ≤ to v ∧ to v < 8) {v : Int} (hv : 0 ≤ v ∧ v < 8) (hc : to v ≠ -1) : rn (pkn to) v = to v := by
  have tv := ht v hv.1 hv.2
  have rr := rn_rng (pkn to) v
  have m1 : m8 (rn (pkn to) v) := ⟨rr.1, by omega⟩
  have m2 : m8 (to v) := ⟨by omega, by omega⟩
  have hi : ∀ x : Int, 0 ≤ x → x < 8 → ∀ b : Nat, b < 32 → 3 ≤ b → bt x b = false := by
    intro x x0 x1 b b0 b1
    have := bt_lt8 x.toNat (by omega) b b0 b1
    rwa [show ((x.toNat : Nat) : Int) = x by omega] at this
  refine m8_ext m1 m2 (fun b hb => ?_)
  by_cases h3 : b < 3
  · rw [rn_bt hv h3]
    refine bt_iffT ?_
    unfold pkn
    rw [pn_bt ht 8 0 0 (by omega) (by omega) _ (by omega), bt_0]
    constructor
    · rintro (z | ⟨u, u0, u1, u2, u3, u4⟩)
      · cases z
      · have tu := ht u u0 u1
        have : 3 * v.toNat + b - 3 * u.toNat < 3 := by
          refine Nat.not_le.mp fun q => ?_
          have := hi (to u) (by omega) tu.2 (3 * v.toNat + b - 3 * u.toNat) (by omega) q
          rw [this] at u4; cases u4
        have eu : u = v := by omega
        rw [eu, show 3 * v.toNat + b - 3 * v.toNat = b by omega] at u4
        exact u4
    · intro z
      exact Or.inr ⟨v, hv.1, hv.2, hc, by omega, by rw [show 3 * v.toNat + b - 3 * v.toNat = b by omega]; exact z⟩
  · rw [hi _ rr.1 rr.2 b (by omega) (by omega), hi _ (by omega) tv.2 b (by omega) (by omega)]
/-! what a replacement keeps -/
/-- variables, one to one -/
def Inj (to : Int → Int) : Prop := (∀ v, 0 ≤ v → v < 8 → -1 ≤ to v ∧ to v < 8) ∧ ∀ u v, 0 ≤ u → u < 8 → 0 ≤ v → v < 8 → to u = to v → to u ≠ -1 → u = v
theorem Inj.rp {to to' : Int → Int} (h : Inj to) {v w : Int} (hv : 0 ≤ v ∧ v < 8) (hw : 0 ≤ w ∧ w < 8) (e : rp to v w = some to') : Inj to' ∧ ∀ x, 0 ≤ x → x < 8 → (to' x ≠ -1 ↔ (to x ≠ -1 ∨ x = v)) := by
  rcases rp_some e with ⟨e1, e2⟩ | ⟨e1, e2, e3, e4'⟩
  · subst e2
    refine ⟨h, fun x x0 x1 => ⟨fun z => Or.inl z, fun z => ?_⟩⟩
    rcases z with z | z
    · exact z
    · rw [z, e1]; omega
  · subst e4'
    refine ⟨⟨fun x x0 x1 => ?_, fun a b a0 a1 b0 b1 hab hn => ?_⟩, fun x x0 x1 => ?_⟩
    · by_cases c : x = v
      · rw [c, up_s]; omega
      · rw [up_o c]; exact h.1 x x0 x1
    · by_cases ca : a = v
      · by_cases cb : b = v
        · omega
        · rw [ca, up_s, up_o cb] at hab
          exact (e3 b b0 b1 hab.symm).elim
      · by_cases cb : b = v
        · rw [cb, up_s, up_o ca] at hab
          exact (e3 a a0 a1 hab).elim
        · rw [up_o ca, up_o cb] at hab
          rw [up_o ca] at hn
          exact h.2 a b a0 a1 b0 b1 hab hn
    · by_cases c : x = v
      · rw [c, up_s]
        exact ⟨fun _ => Or.inr rfl, fun _ => by omega⟩
      · rw [up_o c]
        exact ⟨fun z => Or.inl z, fun z => by rcases z with z | z; exact z; exact (c z).elim⟩
theorem Inj.none : Inj (fun _ => -1) := ⟨fun v _ _ => ⟨by show (-1 : Int) ≤ -1; omega, by show (-1 : Int) < 8; omega⟩, fun u v _ _ _ _ _ h => (h rfl).elim⟩
/-- what stands stays -/
def Ext (to to' : Int → Int) : Prop := ∀ v, to v ≠ -1 → to' v = to v
theorem Ext.rf {to : Int → Int} : Ext to to := fun _ _ => rfl
theorem Ext.tr {a b c : Int → Int} (h1 : Ext a b) (h2 : Ext b c) : Ext a c := fun v hv => by rw [h2 v (by rw [h1 v hv]; exact hv), h1 v hv]
theorem rp_ext {to to' : Int → Int} {v w : Int} (e : rp to v w = some to') : Ext to to' ∧ to' v = w := by
  rcases rp_some e with ⟨e1, e2⟩ | ⟨e1, e2, e3, e4'⟩
  · subst e2; exact ⟨Ext.rf, e1⟩
  · subst e4'
    refine ⟨fun x hx => ?_, up_s⟩
    by_cases c : x = v
    · rw [c] at hx; exact (hx e2).elim
    · exact up_o c
section T
variable {P : Pg}
theorem sm_spec {k t : Int} : ∀ (n : Nat) (i : Int) (to to' : Int → Int), Inj to → sm P k t n i to = some to' → Inj to' ∧ Ext to to' ∧ (∀ x, 0 ≤ x → x < 8 → (to' x ≠ -1 ↔ (to x ≠ -1 ∨ x ∈ (sy P k n i).filterMap vo))) ∧ ∀ y, i ≤ y → y < i + n → (97 ≤ P 12 (16 * k + y) ∧ P 12 (16 * k + y) ≤ 104 → P 12 (16 * t + y) = 97 + to' (P 12 (16 * k + y) - 97)) ∧ (¬ (97 ≤ P 12 (16 * k + y) ∧ P 12 (16 * k + y) ≤ 104) → P 12 (16 * t + y) = P 12 (16 * k + y)) := by
  intro n
  induction n with
  | zero =>
    intro i to to' hI e
    rw [sm] at e
    injection e with e
    subst e
    refine ⟨hI, Ext.rf, fun x x0 x1 => ?_, fun y y0 y1 => by omega⟩
    simp [sy]
  | succ n ih =>
    intro i to to' hI e
    rw [sm] at e
    by_cases c : (97 ≤ P 12 (16 * k + i) ∧ P 12 (16 * k + i) ≤ 104) ∧ 97 ≤ P 12 (16 * t + i) ∧ P 12 (16 * t + i) ≤ 104
    · rw [if_pos c] at e
      cases hr : rp to (P 12 (16 * k + i) - 97) (P 12 (16 * t + i) - 97) with
      | none => rw [hr] at e; cases e
      | some to1 =>
        rw [hr] at e
        have e : sm P k t n (i + 1) to1 = some to' := e
        obtain ⟨j1, j2⟩ := hI.rp (v := P 12 (16 * k + i) - 97) (w := P 12 (16 * t + i) - 97) (by omega) (by omega) hr
        obtain ⟨x1, x2, x3, x4⟩ := ih (i + 1) to1 to' j1 e
        have rx := rp_ext hr
        refine ⟨x1, rx.1.tr x2, fun x x0 x1' => ?_, fun y y0 y1 => ?_⟩
        · rw [x3 x x0 x1', j2 x x0 x1', sy, List.filterMap_cons_some (b := P 12 (16 * k + i) - 97) (by unfold vo; rw [if_pos c.1]), List.mem_cons]
          constructor
          · rintro ((z | z) | z)
            · exact Or.inl z
            · exact Or.inr (Or.inl z)
            · exact Or.inr (Or.inr z)
          · rintro (z | z | z)
            · exact Or.inl (Or.inl z)
            · exact Or.inl (Or.inr z)
            · exact Or.inr z
        · by_cases ey : y = i
          · subst ey
            refine ⟨fun _ => ?_, fun z => (z c.1).elim⟩
            have := x2 (P 12 (16 * k + y) - 97) (by rw [rx.2]; omega)
            rw [this, rx.2]; omega
          · exact x4 y (by omega) (by omega)
    · rw [if_neg c] at e
      by_cases d : P 12 (16 * k + i) = P 12 (16 * t + i)
      · rw [if_pos d] at e
        obtain ⟨x1, x2, x3, x4⟩ := ih (i + 1) to to' hI e
        have nv : ¬ (97 ≤ P 12 (16 * k + i) ∧ P 12 (16 * k + i) ≤ 104) := fun z => c ⟨z, by omega⟩
        refine ⟨x1, x2, fun x x0 x1' => ?_, fun y y0 y1 => ?_⟩
        · rw [x3 x x0 x1', sy, List.filterMap_cons_none (by unfold vo; rw [if_neg nv])]
        · by_cases ey : y = i
          · subst ey
            exact ⟨fun z => (nv z).elim, fun _ => d.symm⟩
          · exact x4 y (by omega) (by omega)
      · rw [if_neg d] at e; cases e
/-- names in the range -/
def N8 (P : Pg) (k : Int) : Prop := P 1 k = 0 → 0 ≤ P 6 k ∧ P 6 k < 8
theorem nm1_spec {k t : Int} (hl : 0 ≤ P 11 k) (hk : N8 P k) (ht : P 1 k = P 1 t → N8 P t) (h1 : P 1 k = P 1 t) {to to' : Int → Int} (hI : Inj to) (e : nm1 P k t to = some to') : Inj to' ∧ Ext to to' ∧ (∀ x, 0 ≤ x → x < 8 → (to' x ≠ -1 ↔ (to x ≠ -1 ∨ x ∈ oc P k))) ∧ (P 1 k = 0 → P 6 t = to' (P 6 k)) ∧ ∀ y, 0 ≤ y → y < P 11 k → (97 ≤ P 12 (16 * k + y) ∧ P 12 (16 * k + y) ≤ 104 → P 12 (16 * t + y) = 97 + to' (P 12 (16 * k + y) - 97)) ∧ (¬ (97 ≤ P 12 (16 * k + y) ∧ P 12 (16 * k + y) ≤ 104) → P 12 (16 * t + y) = P 12 (16 * k + y)) := by
  unfold nm1 at e
  cases hs : sm P k t (P 11 k).toNat 0 to with
  | none => rw [hs] at e; cases e
  | some to1 =>
    rw [hs] at e
    have e : (if P 1 k = 0 then rp to1 (P 6 k) (P 6 t) else some to1) = some to' := e
    obtain ⟨x1, x2, x3, x4⟩ := sm_spec (P 11 k).toNat 0 to to1 hI hs
    unfold oc
    by_cases c : P 1 k = 0
    · rw [if_pos c] at e
      have r1 := hk c
      have r2 := ht h1 (by rw [← h1]; exact c)
      obtain ⟨j1, j2⟩ := x1.rp r1 r2 e
      have rx := rp_ext e
      refine ⟨j1, x2.tr rx.1, fun x x0 x1' => ?_, fun _ => rx.2.symm, fun y y0 y1 => ?_⟩
      · rw [j2 x x0 x1', x3 x x0 x1', if_pos c, List.mem_append, List.mem_singleton]
        constructor
        · rintro ((z | z) | z)
          · exact Or.inl z
          · exact Or.inr (Or.inl z)
          · exact Or.inr (Or.inr z)
        · rintro (z | z | z)
          · exact Or.inl (Or.inl z)
          · exact Or.inl (Or.inr z)
          · exact Or.inr z
      · have q := x4 y y0 (by omega)
        refine ⟨fun z => ?_, q.2⟩
        rw [q.1 z]
        have d : to1 (P 12 (16 * k + y) - 97) ≠ -1 := by
          refine (x3 _ (by omega) (by omega)).mpr (Or.inr ?_)
          refine List.mem_filterMap.mpr ⟨P 12 (16 * k + y), ?_, by unfold vo; rw [if_pos z]⟩
          have : ∀ (n : Nat) (i : Int), i ≤ y → y < i + n → P 12 (16 * k + y) ∈ sy P k n i := by
            intro n
            induction n with
            | zero => intro i _ _; omega
            | succ n ih =>
              intro i i0 i1
              rw [sy]
              by_cases ei : y = i
              · rw [← ei]; exact List.mem_cons_self ..
              · exact List.mem_cons_of_mem _ (ih (i + 1) (by omega) (by omega))
          exact this _ 0 y0 (by omega)
        rw [rx.1 _ d]
    · rw [if_neg c] at e
      injection e with e
      subst e
      refine ⟨x1, x2, fun x x0 x1' => ?_, fun z => (c z).elim, fun y y0 y1 => x4 y y0 (by omega)⟩
      rw [x3 x x0 x1', if_neg c, List.append_nil]
theorem oc_lt {k v : Int} (hk : N8 P k) (h : v ∈ oc P k) : 0 ≤ v ∧ v < 8 := by
  unfold oc at h
  rcases List.mem_append.mp h with h | h
  · obtain ⟨x, _, hx⟩ := List.mem_filterMap.mp h
    unfold vo at hx
    split at hx
    · injection hx with e; omega
    · cases hx
  · by_cases c : P 1 k = 0
    · rw [if_pos c, List.mem_singleton] at h
      rw [h]; exact hk c
    · rw [if_neg c] at h; cases h
theorem nms_spec {i f : Int} : ∀ (n : Nat) (x : Int) (to to' : Int → Int), (∀ y, x ≤ y → y < x + n → 0 ≤ P 11 (i + y) ∧ N8 P (i + y) ∧ N8 P (f + y) ∧ P 1 (i + y) = P 1 (f + y)) → Inj to → nms P i f n x to = some to' → Inj to' ∧ Ext to to' ∧ (∀ v, 0 ≤ v → v < 8 → (to' v ≠ -1 ↔ (to v ≠ -1 ∨ v ∈ ocs P n (i + x)))) ∧ ∀ y, x ≤ y → y < x + n → (P 1 (i + y) = 0 → P 6 (f + y) = to' (P 6 (i + y))) ∧ ∀ z, 0 ≤ z → z < P 11 (i + y) → (97 ≤ P 12 (16 * (i + y) + z) ∧ P 12 (16 * (i + y) + z) ≤ 104 → P 12 (16 * (f + y) + z) = 97 + to' (P 12 (16 * (i + y) + z) - 97)) ∧ (¬ (97 ≤ P 12 (16 * (i + y) + z) ∧ P 12 (16 * (i + y) + z) ≤ 104) → P 12 (16 * (f + y) + z) = P 12 (16 * (i + y) + z)) := by
  intro n
  induction n with
  | zero =>
    intro x to to' hy hI e
    rw [nms] at e
    injection e with e
    subst e
    refine ⟨hI, Ext.rf, fun v v0 v1 => ?_, fun y y0 y1 => by omega⟩
    simp [ocs]
  | succ n ih =>
    intro x to to' hy hI e
    rw [nms] at e
    cases h1 : nm1 P (i + x) (f + x) to with
    | none => rw [h1] at e; cases e
    | some to1 =>
      rw [h1] at e
      have e : nms P i f n (x + 1) to1 = some to' := e
      obtain ⟨a1, a2, a3, a4⟩ := hy x (by omega) (by omega)
      obtain ⟨b1, b2, b3, b4, b5⟩ := nm1_spec a1 a2 (fun _ => a3) a4 hI h1
      obtain ⟨c1, c2, c3, c4⟩ := ih (x + 1) to1 to' (fun y y0 y1 => hy y (by omega) (by omega)) b1 e
      refine ⟨c1, b2.tr c2, fun v v0 v1 => ?_, fun y y0 y1 => ?_⟩
      · rw [c3 v v0 v1, b3 v v0 v1, ocs, List.mem_append, show i + (x + 1) = i + x + 1 by omega]
        constructor
        · rintro ((z | z) | z)
          · exact Or.inl z
          · exact Or.inr (Or.inl z)
          · exact Or.inr (Or.inr z)
        · rintro (z | z | z)
          · exact Or.inl (Or.inl z)
          · exact Or.inl (Or.inr z)
          · exact Or.inr z
      · by_cases ey : y = x
        · subst ey
          have dom : ∀ v, v ∈ oc P (i + y) → to' v = to1 v := fun v hv => by
            have r := oc_lt a2 hv
            exact c2 v ((b3 v r.1 r.2).mpr (Or.inr hv))
          refine ⟨fun z => ?_, fun z z0 z1 => ⟨fun w => ?_, (b5 z z0 z1).2⟩⟩
          · rw [b4 z, dom (P 6 (i + y)) (by unfold oc; rw [if_pos z]; exact List.mem_append_right _ (List.mem_singleton.mpr rfl))]
          · rw [(b5 z z0 z1).1 w, dom]
            unfold oc
            refine List.mem_append_left _ (List.mem_filterMap.mpr ⟨P 12 (16 * (i + y) + z), ?_, by unfold vo; rw [if_pos w]⟩)
            have : ∀ (n : Nat) (i' : Int), i' ≤ z → z < i' + n → P 12 (16 * (i + y) + z) ∈ sy P (i + y) n i' := by
              intro n
              induction n with
              | zero => intro i' _ _; omega
              | succ n ih =>
                intro i' i0 i1
                rw [sy]
                by_cases ei : z = i'
                · rw [← ei]; exact List.mem_cons_self ..
                · exact List.mem_cons_of_mem _ (ih (i' + 1) (by omega) (by omega))
            exact this _ 0 z0 (by omega)
        · exact c4 y (by omega) (by omega)
/-- the next one of a span's block -/
theorem isp_next (hw : WF P) (h2 : WF2 P) {k j : Int} (hs : isp P k j) (hk : k < j) : fol P k = P 3 k ∧ isp P (P 3 k) j ∧ k < P 3 k := by
  have hs' := hs
  obtain ⟨s1, s2, s3, s4, s5⟩ := hs
  have pk := hw.pr (k := k) s1 (by omega)
  have le := hw.bt (k := j) (j := k) (by omega) s3 s1 (by omega) hk
  have ak := hw.af (k := k) s1 (by omega)
  have rg := RG.of hw h2 hs'
  have aj := hw.af (k := j) (by omega) s3
  -- its parent
  have p3 := hw.pr (k := P 3 k) (by omega) (by omega)
  have top : P 2 (P 3 k) < k := by
    refine Int.not_le.mp fun q => ?_
    have up := hw.up (k := P 3 k) (by omega) (by omega) (by omega)
    have a3 := hw.af (k := P 3 k) (by omega) (by omega)
    by_cases e : P 2 (P 3 k) = k
    · rw [e] at up; omega
    · have := hw.ins (j := k) (k := P 2 (P 3 k)) s1 (by omega) (by omega) (by omega)
      omega
  have t := rg.2.2.2.2.2 (P 3 k - k) (by omega) (by omega) (by rw [show k + (P 3 k - k) = P 3 k by omega]; exact top)
  rw [show k + (P 3 k - k) = P 3 k by omega] at t
  refine ⟨?_, ⟨by omega, le, s3, by omega, by omega⟩, ak.1⟩
  unfold fol
  rw [if_pos ⟨by omega, by omega, by omega⟩]
theorem lst_self (hw : WF P) (h2 : WF2 P) : ∀ (n : Nat) (k j : Int), isp P k j → j - k < n → lst P (cnB P j n k) k = j := by
  intro n
  induction n with
  | zero => intro k j hs h; have := hs.2.1; omega
  | succ n ih =>
    intro k j hs h
    rw [cnB]
    by_cases c : k < j
    · obtain ⟨f1, f2, f3⟩ := isp_next hw h2 hs c
      rw [if_pos c, Nat.add_comm, lst, if_neg (by have := hs.1; omega), f1]
      exact ih (P 3 k) j f2 (by omega)
    · rw [if_neg c, lst]; have := hs.2.1; omega
theorem lst_m1 : ∀ n : Nat, lst P n (-1) = -1 := by
  intro n
  cases n with
  | zero => rfl
  | succ n => rw [lst, if_pos rfl]
theorem fol_isp (hw : WF P) {f k : Int} (hs : isp P f k) (h : fol P k ≠ -1) : isp P f (fol P k) := by
  obtain ⟨s1, s2, s3, s4, s5⟩ := hs
  have ak := hw.af (k := k) (by omega) s3
  unfold fol at h ⊢
  by_cases c : P 3 k < P 0 0 ∧ P 2 (P 3 k) = P 2 k ∧ P 4 (P 3 k) = P 4 k
  · rw [if_pos c]
    exact ⟨s1, by omega, c.1, by omega, by omega⟩
  · rw [if_neg c] at h; exact (h rfl).elim
theorem lst_isp (hw : WF P) {f : Int} : ∀ (n : Nat) (k : Int), isp P f k → lst P n k ≠ -1 → isp P f (lst P n k) := by
  intro n
  induction n with
  | zero => intro k hs _; exact hs
  | succ n ih =>
    intro k hs h
    rw [lst, if_neg (by have := hs.1; have := hs.2.1; omega)] at h ⊢
    by_cases c : fol P k = -1
    · rw [c, lst_m1] at h; exact (h rfl).elim
    · exact ih _ (fol_isp hw hs c) h
end T
