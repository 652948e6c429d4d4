/-! A program told and calls that stand for spans of it: the program with the calls -/
/-- cl t: the call that stands at t (-1: none); en t: where its span ends -/
def Spn (T : Pg) (cl E : Int → Int) : Prop := ∀ t, 0 ≤ t → t < T 0 0 → cl t ≠ -1 → (t < E t ∧ E t ≤ T 0 0) ∧ (∀ k, t ≤ k → k < E t → T 3 k ≤ E t ∧ (t ≤ T 2 k ∨ T 2 k = T 2 t)) ∧ (∀ u, t < u → u < E t → cl u = -1)
def nxt (cl E : Int → Int) (t : Int) : Int := if cl t ≠ -1 then E t else t + 1
/-- the first statement from t on that is not inside a span -/
def nf (cl E : Int → Int) : Nat → Int
  | 0 => 0
  | t + 1 => if nf cl E t ≤ t then nxt cl E t else nf cl E t
/-- how many statements there are before t -/
def ixn (cl E : Int → Int) : Nat → Int
  | 0 => 0
  | t + 1 => ixn cl E t + (if nf cl E t ≤ t then 1 else 0)
/-- where statement k is told -/
def nd (cl E : Int → Int) : Nat → Int
  | 0 => 0
  | k + 1 => nxt cl E (nd cl E k)
/-- the statement told at t; -1: none -/
def ix (cl E : Int → Int) (t : Int) : Int := if t < 0 then -1 else ixn cl E t.toNat
def isN (cl E : Int → Int) (t : Int) : Prop := nf cl E t.toNat = t
section L
variable {T : Pg} {cl E : Int → Int}
theorem nxt_gt (hs : Spn T cl E) {t : Int} (h0 : 0 ≤ t) (h1 : t < T 0 0) : t < nxt cl E t ∧ nxt cl E t ≤ T 0 0 := by
  unfold nxt
  split
  · rename_i h; exact (hs t h0 h1 h).1
  · omega
theorem nf_ge (hs : Spn T cl E) : ∀ t : Nat, (t : Int) ≤ T 0 0 → (t : Int) ≤ nf cl E t ∧ nf cl E t ≤ T 0 0 := by
  intro t
  induction t with
  | zero => intro h; simp [nf]; exact h
  | succ t ih =>
    intro h
    have i := ih (by omega)
    have x := nxt_gt hs (t := t) (by omega) (by omega)
    rw [nf]
    split <;> omega
theorem nd_ixn (hs : Spn T cl E) : ∀ t : Nat, (t : Int) ≤ T 0 0 → 0 ≤ ixn cl E t ∧ nd cl E (ixn cl E t).toNat = nf cl E t := by
  intro t
  induction t with
  | zero => intro _; exact ⟨Int.le_refl _, rfl⟩
  | succ t ih =>
    intro h
    have i := ih (by omega)
    have g := nf_ge hs t (by omega)
    rw [ixn, nf]
    by_cases c : nf cl E t ≤ t
    · rw [if_pos c, if_pos c, show (ixn cl E t + 1).toNat = (ixn cl E t).toNat + 1 by omega, nd, i.2, show nf cl E t = (t : Int) by omega]
      exact ⟨by omega, rfl⟩
    · rw [if_neg c, if_neg c, Int.add_zero]; exact i
theorem ixn_le : ∀ t : Nat, ixn cl E t ≤ t := by
  intro t
  induction t with
  | zero => exact Int.le_refl _
  | succ t ih => rw [ixn]; split <;> omega
theorem ixn_mono : ∀ (t s : Nat), s ≤ t → ixn cl E s ≤ ixn cl E t := by
  intro t
  induction t with
  | zero => intro s h; rw [show s = 0 by omega]; omega
  | succ t ih =>
    intro s h
    by_cases e : s = t + 1
    · rw [e]; omega
    · have := ih s (by omega)
      rw [ixn]; split <;> omega
theorem ixn_lt {s t : Nat} (h : nf cl E s = s) (hst : s < t) : ixn cl E s < ixn cl E t := by
  have := ixn_mono (cl := cl) (E := E) t (s + 1) (by omega)
  rw [ixn, if_pos (by omega)] at this
  omega
/-- behind a statement nothing comes before the next -/
theorem nf_gap (hs : Spn T cl E) {t : Nat} (h : nf cl E t = t) (ht : (t : Int) < T 0 0) : ∀ u : Nat, t < u → (u : Int) ≤ nxt cl E t → nf cl E u = nxt cl E t := by
  intro u
  induction u with
  | zero => intro h; omega
  | succ u ih =>
    intro h1 h2
    by_cases e : u = t
    · subst e; rw [nf, if_pos (by omega)]
    · have i := ih (by omega) (by omega)
      rw [nf, if_neg (by omega)]; exact i
theorem nd_isN (hs : Spn T cl E) (h0 : 0 ≤ T 0 0) : ∀ k : Nat, (∀ j : Nat, j < k → nd cl E j < T 0 0) → 0 ≤ nd cl E k ∧ nd cl E k ≤ T 0 0 ∧ isN cl E (nd cl E k) := by
  intro k
  induction k with
  | zero => intro _; exact ⟨Int.le_refl _, h0, rfl⟩
  | succ k ih =>
    intro h
    have i := ih (fun j hj => h j (by omega))
    have hk := h k (by omega)
    have x := nxt_gt hs i.1 hk
    have e : ((nd cl E k).toNat : Int) = nd cl E k := by omega
    have g := nf_gap hs (t := (nd cl E k).toNat) (by rw [e]; exact i.2.2) (by omega) (nxt cl E (nd cl E k)).toNat (by omega) (by rw [e]; omega)
    rw [e] at g
    rw [nd]
    exact ⟨by omega, x.2, g⟩
theorem nd_mono (hs : Spn T cl E) (h0 : 0 ≤ T 0 0) : ∀ (k j : Nat), (∀ i : Nat, i < k → nd cl E i < T 0 0) → j < k → nd cl E j < nd cl E k := by
  intro k
  induction k with
  | zero => intro j _ h; omega
  | succ k ih =>
    intro j h hj
    have i := nd_isN hs h0 k (fun j hj => h j (by omega))
    have x := nxt_gt hs i.1 (h k (by omega))
    rw [nd]
    by_cases e : j = k
    · rw [e]; exact x.1
    · have := ih j (fun i hi => h i (by omega)) (by omega)
      omega
theorem ixn_nd (hs : Spn T cl E) (h0 : 0 ≤ T 0 0) : ∀ k : Nat, (∀ j : Nat, j < k → nd cl E j < T 0 0) → ixn cl E (nd cl E k).toNat = k := by
  intro m
  induction m with
  | zero => intro _; rfl
  | succ m im =>
    intro h
    have b2 := nd_isN hs h0 m (fun j hj => h j (by omega))
    have y := nxt_gt hs b2.1 (h m (by omega))
    have e2 : ((nd cl E m).toNat : Int) = nd cl E m := by omega
    have gp : ∀ u : Nat, (nd cl E m).toNat < u → (u : Int) ≤ nxt cl E (nd cl E m) → ixn cl E u = m + 1 := by
      intro u
      induction u with
      | zero => intro h; omega
      | succ u iu =>
        intro h1 h2
        by_cases e3 : u = (nd cl E m).toNat
        · have b3 : nf cl E (nd cl E m).toNat = nd cl E m := b2.2.2
          rw [e3, ixn, im (fun j hj => h j (by omega)), if_pos (by omega)]
        · have g := nf_gap hs (t := (nd cl E m).toNat) (by rw [e2]; exact b2.2.2) (by rw [e2]; exact h m (by omega)) u (by omega) (by rw [e2]; omega)
          rw [e2] at g
          rw [ixn, if_neg (by omega), iu (by omega) (by omega)]; rfl
    have := gp (nxt cl E (nd cl E m)).toNat (by omega) (by omega)
    rw [nd, this]; omega
/-- all that is known of the statements' places -/
theorem nd_all (hs : Spn T cl E) (h0 : 0 ≤ T 0 0) : ∀ k : Nat, (k : Int) < ixn cl E (T 0 0).toNat → nd cl E k < T 0 0 := by
  intro k
  have : ∀ m : Nat, m ≤ k → (m : Int) < ixn cl E (T 0 0).toNat → nd cl E m < T 0 0 := by
    intro m
    induction m using Nat.strongRecOn with
    | _ m im =>
      intro hm hk
      refine Int.not_le.mp fun q => ?_
      have al : ∀ j : Nat, j < m → nd cl E j < T 0 0 := fun j hj => im j hj (by omega) (by omega)
      have a := nd_isN hs h0 m al
      have b := ixn_nd hs h0 m al
      rw [show nd cl E m = T 0 0 by omega] at b
      omega
  exact fun h => this k (Nat.le_refl _) h
/-- how many statements -/
abbrev nn (T : Pg) (cl E : Int → Int) : Int := ixn cl E (T 0 0).toNat
theorem nd_k (hs : Spn T cl E) (h0 : 0 ≤ T 0 0) {k : Int} (k0 : 0 ≤ k) (k1 : k ≤ nn T cl E) : 0 ≤ nd cl E k.toNat ∧ nd cl E k.toNat ≤ T 0 0 ∧ isN cl E (nd cl E k.toNat) ∧ ixn cl E (nd cl E k.toNat).toNat = k ∧ (k < nn T cl E → nd cl E k.toNat < T 0 0 ∧ nd cl E (k + 1).toNat = nxt cl E (nd cl E k.toNat)) := by
  have al : ∀ j : Nat, j < k.toNat → nd cl E j < T 0 0 := fun j hj => nd_all hs h0 j (by unfold nn at k1; omega)
  have a := nd_isN hs h0 k.toNat al
  have b := ixn_nd hs h0 k.toNat al
  refine ⟨a.1, a.2.1, a.2.2, by omega, fun h => ⟨nd_all hs h0 k.toNat (by unfold nn at h; omega), ?_⟩⟩
  rw [show (k + 1).toNat = k.toNat + 1 by omega, nd]
theorem nd_end (hs : Spn T cl E) (h0 : 0 ≤ T 0 0) : nd cl E (nn T cl E).toNat = T 0 0 := by
  have a := nd_ixn hs (T 0 0).toNat (by omega)
  have b := nf_ge hs (T 0 0).toNat (by omega)
  unfold nn
  rw [a.2]; omega
theorem nd_lt (hs : Spn T cl E) (h0 : 0 ≤ T 0 0) {j k : Int} (j0 : 0 ≤ j) (h : j < k) (k1 : k ≤ nn T cl E) : nd cl E j.toNat < nd cl E k.toNat := nd_mono hs h0 k.toNat j.toNat (fun i hi => nd_all hs h0 i (by unfold nn at k1; omega)) (by omega)
/-- a statement that is not inside a span is found by its place -/
theorem nd_ix (hs : Spn T cl E) {t : Int} (t0 : 0 ≤ t) (t1 : t ≤ T 0 0) (hN : isN cl E t) : nd cl E (ixn cl E t.toNat).toNat = t ∧ 0 ≤ ixn cl E t.toNat ∧ ixn cl E t.toNat ≤ nn T cl E ∧ (t < T 0 0 → ixn cl E t.toNat < nn T cl E) := by
  have a := nd_ixn hs t.toNat (by omega)
  refine ⟨a.2.trans hN, a.1, ixn_mono _ _ (by omega), fun h => ixn_lt (by rw [hN]; omega) (by omega)⟩
theorem isN_no (hs : Spn T cl E) {a u : Int} (a0 : 0 ≤ a) (a1 : a < T 0 0) (ha : isN cl E a) (hc : cl a ≠ -1) (h1 : a < u) (h2 : u < E a) : ¬ isN cl E u := by
  have e : ((a.toNat : Nat) : Int) = a := by omega
  have g := nf_gap hs (t := a.toNat) (by rw [e]; exact ha) (by omega) u.toNat (by omega) (by rw [e]; unfold nxt; rw [if_pos hc]; omega)
  rw [e] at g
  unfold nxt at g
  rw [if_pos hc] at g
  unfold isN
  omega
theorem isN_cov (hs : Spn T cl E) : ∀ p : Nat, (p : Int) ≤ T 0 0 → nf cl E p ≠ p → ∃ a, 0 ≤ a ∧ a < (p : Int) ∧ isN cl E a ∧ cl a ≠ -1 ∧ (p : Int) < E a := by
  intro p
  induction p with
  | zero => intro _ h; exact (h rfl).elim
  | succ p ih =>
    intro hp h
    have g := nf_ge hs p (by omega)
    rw [nf] at h
    by_cases c : nf cl E p ≤ p
    · rw [if_pos c] at h
      have x := nxt_gt hs (t := p) (by omega) (by omega)
      unfold nxt at h x
      by_cases cc : cl p ≠ -1
      · rw [if_pos cc] at h x
        exact ⟨p, by omega, by omega, by unfold isN; rw [Int.toNat_natCast]; omega, cc, by omega⟩
      · rw [if_neg cc] at h
        omega
    · rw [if_neg c] at h
      obtain ⟨a, a0, a1, a2, a3, a4⟩ := ih (by omega) (by omega)
      have e : ((a.toNat : Nat) : Int) = a := by omega
      have gg := nf_gap hs (t := a.toNat) (by rw [e]; exact a2) (by omega) p (by omega) (by rw [e]; unfold nxt; rw [if_pos a3]; omega)
      rw [e] at gg
      unfold nxt at gg
      rw [if_pos a3] at gg
      exact ⟨a, a0, by omega, a2, a3, by omega⟩
theorem isN_yes (hs : Spn T cl E) {p : Int} (p0 : 0 ≤ p) (p1 : p ≤ T 0 0) (h : ∀ a, 0 ≤ a → a < p → isN cl E a → cl a ≠ -1 → E a ≤ p) : isN cl E p := by
  refine Classical.byContradiction fun q => ?_
  have e : ((p.toNat : Nat) : Int) = p := by omega
  obtain ⟨a, a0, a1, a2, a3, a4⟩ := isN_cov hs p.toNat (by omega) (by rw [e]; exact q)
  have := h a a0 (by omega) a2 a3
  omega
/-- what stands around a statement is a statement, and no call -/
theorem isN_up (hw : WF T) (hs : Spn T cl E) {t : Int} (t0 : 0 ≤ t) (t1 : t < T 0 0) (hN : isN cl E t) (hp : 0 ≤ T 2 t) : isN cl E (T 2 t) ∧ cl (T 2 t) = -1 := by
  have p1 := hw.pr t0 t1
  have p2 := hw.up t0 t1 hp
  have p3 := hw.af t0 t1
  constructor
  · refine isN_yes hs hp (by omega) (fun a a0 a1 a2 a3 => ?_)
    refine Int.not_lt.mp fun q => ?_
    have := ((hs a a0 (by omega) a3).2.1 (T 2 t) (by omega) (by omega)).1
    exact isN_no hs a0 (by omega) a2 a3 (by omega) (by omega) hN
  · refine Classical.byContradiction fun q => ?_
    have h := hs (T 2 t) hp (by omega) q
    have := (h.2.1 (T 2 t) (by omega) (by omega)).1
    -- the parent is a statement then
    have pN : isN cl E (T 2 t) := isN_yes hs hp (by omega) (fun a a0 a1 a2 a3 => by
      refine Int.not_lt.mp fun q2 => ?_
      exact absurd ((hs a a0 (by omega) a3).2.2 (T 2 t) a1 q2) q)
    exact isN_no hs hp (by omega) pN q (by omega) (by omega) hN
/-- where a statement ends another begins -/
theorem isN_af (hw : WF T) (hs : Spn T cl E) {t : Int} (t0 : 0 ≤ t) (t1 : t < T 0 0) (hN : isN cl E t) (hc : cl t = -1) : isN cl E (T 3 t) := by
  have p3 := hw.af t0 t1
  refine isN_yes hs (by omega) p3.2 (fun a a0 a1 a2 a3 => ?_)
  refine Int.not_lt.mp fun q => ?_
  have sp := hs a a0 (by omega) a3
  by_cases c1 : a < t
  · exact isN_no hs a0 (by omega) a2 a3 c1 (by omega) hN
  · by_cases c2 : a = t
    · rw [c2] at a3; exact a3 hc
    · have k1 : T 3 t < T 0 0 := by omega
      have i1 := hw.in1 (j := t) (k := a) t0 (by omega) a1 (by omega)
      have r := (sp.2.1 (T 3 t) (by omega) q).2
      have pk := hw.pr (k := T 3 t) (by omega) k1
      have upk := hw.up (k := T 3 t) (by omega) k1
      have afk := hw.af (k := T 3 t) (by omega) k1
      have pa := hw.pr (k := a) a0 (by omega)
      by_cases e1 : T 2 (T 3 t) = t
      · have := upk (by omega)
        rw [e1] at this; omega
      · have := hw.ins (j := t) (k := T 2 (T 3 t)) t0 (by omega) (by omega) (by omega)
        have := upk (by omega)
        omega
/-- the program with its calls -/
def lay (T : Pg) (cl E : Int → Int) : Pg := fun i k => if i = 0 then nn T cl E else if i = 30 then nd cl E k.toNat else if i = 31 then cl (nd cl E k.toNat) else if i = 1 then (if cl (nd cl E k.toNat) ≠ -1 then 7 else T 1 (nd cl E k.toNat)) else if i = 2 then ix cl E (T 2 (nd cl E k.toNat)) else if i = 3 then (if cl (nd cl E k.toNat) ≠ -1 then k + 1 else ixn cl E (T 3 (nd cl E k.toNat)).toNat) else T i (nd cl E k.toNat)
/-- P is laid out of T with the calls cl -/
def Lay (T : Pg) (cl E : Int → Int) (P : Pg) : Prop := P 0 0 = nn T cl E ∧ (∀ k, 0 ≤ k → k ≤ P 0 0 → P 30 k = nd cl E k.toNat) ∧ ∀ k, 0 ≤ k → k < P 0 0 → P 31 k = cl (P 30 k) ∧ P 1 k = (if cl (P 30 k) ≠ -1 then 7 else T 1 (P 30 k)) ∧ P 2 k = ix cl E (T 2 (P 30 k)) ∧ P 3 k = (if cl (P 30 k) ≠ -1 then k + 1 else ixn cl E (T 3 (P 30 k)).toNat) ∧ P 4 k = T 4 (P 30 k)
variable {P : Pg}
/-- the places, once more -/
theorem Lay.at (hw : WF T) (hs : Spn T cl E) (h : Lay T cl E P) {k : Int} (k0 : 0 ≤ k) (k1 : k ≤ P 0 0) : 0 ≤ P 30 k ∧ P 30 k ≤ T 0 0 ∧ isN cl E (P 30 k) ∧ ixn cl E (P 30 k).toNat = k ∧ (k < P 0 0 → P 30 k < T 0 0 ∧ P 30 (k + 1) = nxt cl E (P 30 k)) := by
  rw [h.2.1 k k0 k1]
  have a := nd_k hs hw.1 k0 (by rw [← h.1]; exact k1)
  refine ⟨a.1, a.2.1, a.2.2.1, a.2.2.2.1, fun z => ⟨(a.2.2.2.2 (by rw [← h.1]; exact z)).1, ?_⟩⟩
  rw [h.2.1 (k + 1) (by omega) (by omega)]
  exact (a.2.2.2.2 (by rw [← h.1]; exact z)).2
theorem Lay.of (hw : WF T) (hs : Spn T cl E) (h : Lay T cl E P) {t : Int} (t0 : 0 ≤ t) (t1 : t ≤ T 0 0) (hN : isN cl E t) : 0 ≤ ixn cl E t.toNat ∧ ixn cl E t.toNat ≤ P 0 0 ∧ P 30 (ixn cl E t.toNat) = t ∧ (t < T 0 0 → ixn cl E t.toNat < P 0 0) := by
  have a := nd_ix hs t0 t1 hN
  refine ⟨a.2.1, by rw [h.1]; exact a.2.2.1, by rw [h.2.1 _ a.2.1 (by rw [h.1]; exact a.2.2.1)]; exact a.1, fun z => by rw [h.1]; exact a.2.2.2 z⟩
theorem Lay.end (hw : WF T) (hs : Spn T cl E) (h : Lay T cl E P) : 0 ≤ P 0 0 ∧ P 0 0 ≤ T 0 0 ∧ P 30 (P 0 0) = T 0 0 := by
  have a := nd_end hs hw.1
  have b := nd_ixn hs (T 0 0).toNat (by have := hw.1; omega)
  have c := ixn_le (cl := cl) (E := E) (T 0 0).toNat
  have := hw.1
  refine ⟨by rw [h.1]; exact b.1, by rw [h.1]; unfold nn; omega, by rw [h.2.1 _ (by rw [h.1]; exact b.1) (Int.le_refl _), h.1]; exact a⟩
/-- told before is before -/
theorem Lay.lt (hw : WF T) (hs : Spn T cl E) (h : Lay T cl E P) {j k : Int} (j0 : 0 ≤ j) (hjk : j < k) (k1 : k ≤ P 0 0) : P 30 j < P 30 k := by
  rw [h.2.1 j j0 (by omega), h.2.1 k (by omega) k1]
  exact nd_lt hs hw.1 j0 hjk (by rw [← h.1]; exact k1)
theorem Lay.wf (hw : WF T) (hs : Spn T cl E) (h : Lay T cl E P) : WF P := by
  have he := h.end hw hs
  have h40 := hw.n0
  refine ⟨he.1, by omega, fun k k0 k1 => ?_⟩
  obtain ⟨t0, -, tN, tk, tt⟩ := h.at hw hs k0 (by omega)
  obtain ⟨t1, tn⟩ := tt k1
  obtain ⟨r31, r1, r2, r3, r4⟩ := h.2.2 k k0 k1
  obtain ⟨w1, w2, w3, w4, w5, w6, w7, w8⟩ := hw.2.2 (P 30 k) t0 t1
  -- the parent
  have par : 0 ≤ T 2 (P 30 k) → isN cl E (T 2 (P 30 k)) ∧ cl (T 2 (P 30 k)) = -1 ∧ P 2 k = ixn cl E (T 2 (P 30 k)).toNat ∧ 0 ≤ P 2 k ∧ P 2 k < k ∧ P 30 (P 2 k) = T 2 (P 30 k) := by
    intro hp
    obtain ⟨a, b⟩ := isN_up hw hs t0 t1 tN hp
    obtain ⟨c0, c1, c2, c3⟩ := h.of hw hs hp (by omega) a
    have e : P 2 k = ixn cl E (T 2 (P 30 k)).toNat := by rw [r2]; unfold ix; rw [if_neg (by omega)]
    refine ⟨a, b, e, by omega, ?_, by rw [e]; exact c2⟩
    have lt := ixn_lt (cl := cl) (E := E) (s := (T 2 (P 30 k)).toNat) (t := (P 30 k).toNat) (by rw [a]; omega) (by omega)
    omega
  have npar : T 2 (P 30 k) < 0 → P 2 k = -1 := fun hp => by rw [r2]; unfold ix; rw [if_pos hp]
  have p3 : k < P 3 k ∧ P 3 k ≤ P 0 0 := by
    rw [r3]
    by_cases c : cl (P 30 k) ≠ -1
    · rw [if_pos c]; omega
    · rw [if_neg c]
      have a := isN_af hw hs t0 t1 tN (by omega)
      obtain ⟨c0, c1, c2, c3⟩ := h.of hw hs (t := T 3 (P 30 k)) (by omega) w2.2 a
      refine ⟨?_, c1⟩
      have := ixn_lt (cl := cl) (E := E) (s := (P 30 k).toNat) (t := (T 3 (P 30 k)).toNat) (by rw [tN]; omega) (by omega)
      omega
  refine ⟨?_, p3, fun hp => ?_, fun j j0 j1 j2 => ?_, ?_, by rw [r4]; exact w6, fun z => ?_, fun z1 z2 => ?_⟩
  · by_cases hp : 0 ≤ T 2 (P 30 k)
    · have := par hp; omega
    · have := npar (by omega); omega
  · have hp' : 0 ≤ T 2 (P 30 k) := by
      refine Int.not_lt.mp fun q => ?_
      have := npar q; omega
    obtain ⟨a, b, e, e0, e1, e2⟩ := par hp'
    obtain ⟨q31, q1, q2, q3, q4⟩ := h.2.2 (P 2 k) e0 (by omega)
    rw [e2, if_neg (by omega)] at q1 q3
    refine ⟨?_, by rw [q1]; exact (w3 hp').2⟩
    rw [q3, r3]
    by_cases c : cl (P 30 k) ≠ -1
    · rw [if_pos c]
      -- the span ends before its block does
      have af := isN_af hw hs hp' (by omega) a b
      have ap := hw.af (k := T 2 (P 30 k)) hp' (by omega)
      have up := (w3 hp').1
      have : P 30 (k + 1) ≤ T 3 (T 2 (P 30 k)) := by
        refine Int.not_lt.mp fun q => ?_
        rw [tn] at q
        unfold nxt at q
        rw [if_pos c] at q
        exact isN_no hs t0 t1 tN c (by omega) q af
      have g := h.at hw hs (k := k + 1) (by omega) (by omega)
      rw [← g.2.2.2.1]
      exact ixn_mono _ _ (by omega)
    · rw [if_neg c]
      exact ixn_mono _ _ (by have := (w3 hp').1; omega)
  · obtain ⟨u0, -, uN, uk, uu⟩ := h.at hw hs j0 (by omega)
    obtain ⟨q31, q1, q2, q3, q4⟩ := h.2.2 j j0 (by omega)
    have lt := h.lt hw hs j0 j2 (by omega)
    rw [q3]
    by_cases c : cl (P 30 j) ≠ -1
    · rw [if_pos c]; omega
    · rw [if_neg c]
      have : T 2 (P 30 k) < P 30 j := by
        refine Int.not_le.mp fun q => ?_
        obtain ⟨a, b, e, e0, e1, e2⟩ := par (by omega)
        have := ixn_mono (cl := cl) (E := E) (T 2 (P 30 k)).toNat (P 30 j).toNat (by omega)
        omega
      have := w4 (P 30 j) u0 this lt
      have := ixn_mono (cl := cl) (E := E) (P 30 k).toNat (T 3 (P 30 j)).toNat (by omega)
      omega
  · rw [r1]; split <;> omega
  · rw [r4]
    refine w7 ?_
    refine Int.not_le.mp fun q => ?_
    have := par q; omega
  · have hp' : 0 ≤ T 2 (P 30 k) := by
      refine Int.not_lt.mp fun q => ?_
      have := npar q; omega
    obtain ⟨a, b, e, e0, e1, e2⟩ := par hp'
    obtain ⟨q31, q1, q2, q3, q4⟩ := h.2.2 (P 2 k) e0 (by omega)
    rw [e2, if_neg (by omega)] at q1
    rw [r4]
    exact w8 hp' (by omega)
/-- the loop around -/
theorem Lay.loop (hw : WF T) (hs : Spn T cl E) (h : Lay T cl E P) : ∀ (m : Nat) (u : Int), u < T 0 0 → (0 ≤ u → isN cl E u ∧ cl u = -1) → la P 0 m (ix cl E u) = ix cl E (la T 0 m u) := by
  intro m
  induction m with
  | zero => intro u _ _; rfl
  | succ m ih =>
    intro u h1 h2
    by_cases c : u < 0
    · have e : ix cl E u = -1 := by unfold ix; rw [if_pos c]
      rw [e, la, la, if_pos (by omega), if_pos (by omega)]; rfl
    · obtain ⟨a, b⟩ := h2 (by omega)
      have e : ix cl E u = ixn cl E u.toNat := by unfold ix; rw [if_neg c]
      obtain ⟨c0, c1, c2, c3⟩ := h.of hw hs (t := u) (by omega) (by omega) a
      obtain ⟨q31, q1, q2, q3, q4⟩ := h.2.2 (ixn cl E u.toNat) c0 (c3 h1)
      rw [c2, if_neg (by omega)] at q1
      rw [c2] at q2
      rw [e, la, la, if_neg (show ¬ (ixn cl E u.toNat < 0 ∨ ixn cl E u.toNat < 0) by omega), if_neg (show ¬ (u < 0 ∨ u < 0) by omega), q1]
      by_cases d : T 1 u = 6
      · rw [if_pos d, if_pos d, e]
      · rw [if_neg d, if_neg d, q2]
        have := hw.pr (k := u) (by omega) h1
        exact ih (T 2 u) (by omega) (fun z => isN_up hw hs (by omega) h1 a z)
end L
