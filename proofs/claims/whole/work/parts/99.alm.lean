/-! Spans that are alike, in the program and as it is told -/
def shq (T : Pg) (a b x : Int) : Prop := T 1 (a + x) = T 1 (b + x) ∧ T 5 (a + x) = T 5 (b + x) ∧ T 11 (a + x) = T 11 (b + x) ∧ ((T 2 (a + x) < a ∧ T 2 (b + x) < b) ∨ (a ≤ T 2 (a + x) ∧ b ≤ T 2 (b + x) ∧ T 2 (a + x) - a = T 2 (b + x) - b ∧ T 4 (a + x) = T 4 (b + x)))
section A
variable {T : Pg} {a b n : Int}
theorem par_le (ra : RG T a n) (rb : RG T b n) (h : ∀ x, 0 ≤ x → x < n → T 3 (a + x) - (a + x) = T 3 (b + x) - (b + x)) {x : Int} (x0 : 0 ≤ x) (x1 : x < n) (hp : a ≤ T 2 (a + x)) : b + (T 2 (a + x) - a) ≤ T 2 (b + x) := by
  obtain ⟨hw, a0, n0, an, r3, rt⟩ := ra
  obtain ⟨-, b0, -, bn, r3', rt'⟩ := rb
  have p := hw.pr (k := a + x) (by omega) (by omega)
  have up := hw.up (k := a + x) (by omega) (by omega) (by omega)
  have af := hw.af (k := a + x) (by omega) (by omega)
  have e := h (T 2 (a + x) - a) (by omega) (by omega)
  rw [show a + (T 2 (a + x) - a) = T 2 (a + x) by omega] at e
  exact hw.in1 (j := b + (T 2 (a + x) - a)) (k := b + x) (by omega) (by omega) (by omega) (by omega)
theorem shR_shq (ra : RG T a n) (rb : RG T b n) : (∀ x, 0 ≤ x → x < n → shR T a b x) ↔ (∀ x, 0 ≤ x → x < n → shq T a b x) := by
  constructor
  · intro h x x0 x1
    obtain ⟨h1, h2, h3, h4, h5⟩ := h x x0 x1
    have e3 : ∀ x, 0 ≤ x → x < n → T 3 (a + x) - (a + x) = T 3 (b + x) - (b + x) := fun x x0 x1 => (h x x0 x1).2.1
    refine ⟨h1, h3, h4, ?_⟩
    by_cases pa : a ≤ T 2 (a + x)
    · have q1 := par_le ra rb e3 x0 x1 pa
      have q2 := par_le rb ra (fun x x0 x1 => (e3 x x0 x1).symm) x0 x1 (by omega)
      refine Or.inr ⟨pa, by omega, by omega, ?_⟩
      have p0 := ra.1.pr (k := a) ra.2.1 (by have := ra.2.2.1; have := ra.2.2.2.1; omega)
      rcases h5 with h5 | h5 | h5
      · rw [h5, Int.add_zero] at pa; omega
      · exact h5
      · omega
    · by_cases pb : b ≤ T 2 (b + x)
      · have q2 := par_le rb ra (fun x x0 x1 => (e3 x x0 x1).symm) x0 x1 pb
        omega
      · exact Or.inl ⟨by omega, by omega⟩
  · intro h
    have ra' := ra
    have rb' := rb
    obtain ⟨hw, a0, n0, an, r3, rt⟩ := ra
    obtain ⟨-, b0, -, bn, r3', rt'⟩ := rb
    -- ends
    have le : ∀ a b, 0 ≤ a → 0 ≤ b → a + n ≤ T 0 0 → b + n ≤ T 0 0 → (∀ x, 0 ≤ x → x < n → T 3 (b + x) ≤ b + n) → (∀ x, 0 ≤ x → x < n → shq T a b x) → ∀ x, 0 ≤ x → x < n → ¬ (T 3 (a + x) - a < T 3 (b + x) - b) := by
      intro a b a0 b0 an bn r3' h x x0 x1 lt
      have fa := hw.af (k := a + x) (by omega) (by omega)
      have rb := r3' x x0 x1
      have z0 : 0 ≤ T 3 (a + x) - a := by omega
      have z1 : T 3 (a + x) - a < n := by omega
      have i1 := hw.in1 (j := b + x) (k := b + (T 3 (a + x) - a)) (by omega) (by omega) (by omega) (by omega)
      obtain ⟨-, -, -, q⟩ := h (T 3 (a + x) - a) z0 z1
      rw [show a + (T 3 (a + x) - a) = T 3 (a + x) by omega] at q
      rcases q with q | q
      · omega
      · have p3 := hw.pr (k := T 3 (a + x)) (by omega) (by omega)
        have up := hw.up (k := T 3 (a + x)) (by omega) (by omega) (by omega)
        have a3 := hw.af (k := T 3 (a + x)) (by omega) (by omega)
        by_cases e : T 2 (T 3 (a + x)) = a + x
        · rw [e] at up; omega
        · have := hw.ins (j := a + x) (k := T 2 (T 3 (a + x))) (by omega) (by omega) (by omega) (by omega)
          omega
    intro x x0 x1
    obtain ⟨h1, h3, h4, h5⟩ := h x x0 x1
    have l1 := le a b a0 b0 an bn r3' h x x0 x1
    have hs : ∀ x, 0 ≤ x → x < n → shq T b a x := fun x x0 x1 => by
      obtain ⟨q1, q2, q3, q4⟩ := h x x0 x1
      refine ⟨q1.symm, q2.symm, q3.symm, ?_⟩
      rcases q4 with q4 | q4
      · exact Or.inl ⟨q4.2, q4.1⟩
      · exact Or.inr ⟨q4.2.1, q4.1, q4.2.2.1.symm, q4.2.2.2.symm⟩
    have l2 := le b a b0 a0 bn an r3 hs x x0 x1
    refine ⟨h1, by omega, h3, h4, ?_⟩
    rcases h5 with h5 | h5
    · exact Or.inr (Or.inr (rt x x0 x1 h5.1).1)
    · exact Or.inr (Or.inl h5.2.2.2)
theorem shq_iso (ra : RG T a n) (rb : RG T b n) (h : ∀ x, 0 ≤ x → x < n → shq T a b x) : Iso T a T b n := by
  intro x x0 x1
  have r := (shR_shq ra rb).mpr h x x0 x1
  obtain ⟨h1, h3, h4, h5⟩ := h x x0 x1
  have := r.2.1
  refine ⟨h1, by omega, ?_⟩
  rcases h5 with h5 | h5
  · exact Or.inl h5
  · exact Or.inr h5
end A
section B
variable {P T : Pg} {i f a b n : Int}
theorem sm_cong {k t k' t' : Int} : ∀ (m : Nat) (y : Int) (to : Int → Int), (∀ z, y ≤ z → z < y + m → P 12 (16 * k + z) = T 12 (16 * k' + z) ∧ P 12 (16 * t + z) = T 12 (16 * t' + z)) → sm P k t m y to = sm T k' t' m y to := by
  intro m
  induction m with
  | zero => intro y to _; rfl
  | succ m ih =>
    intro y to h
    obtain ⟨e1, e2⟩ := h y (by omega) (by omega)
    have e3 : ∀ to, sm P k t m (y + 1) to = sm T k' t' m (y + 1) to := fun to => ih (y + 1) to (fun z z0 z1 => h z (by omega) (by omega))
    have e4' : sm P k t m (y + 1) = sm T k' t' m (y + 1) := funext e3
    rw [sm, sm, e1, e2, e4']
theorem nms_cong : ∀ (m : Nat) (x : Int) (to : Int → Int), 0 ≤ x → (∀ y, x ≤ y → y < x + m → P 1 (i + y) = T 1 (a + y) ∧ P 11 (i + y) = T 11 (a + y) ∧ (0 ≤ T 11 (a + y) ∧ T 11 (a + y) ≤ 12) ∧ (P 6 (i + y) = T 6 (a + y) ∧ P 6 (f + y) = T 6 (b + y)) ∧ ∀ z, 0 ≤ z → z < 16 → P 12 (16 * (i + y) + z) = T 12 (16 * (a + y) + z) ∧ P 12 (16 * (f + y) + z) = T 12 (16 * (b + y) + z)) → nms P i f m x to = nms T a b m x to := by
  intro m
  induction m with
  | zero => intro x to _ _; rfl
  | succ m ih =>
    intro x to x0 h
    obtain ⟨e1, e2, e3, e4', e5⟩ := h x (by omega) (by omega)
    have e6 : nm1 P (i + x) (f + x) to = nm1 T (a + x) (b + x) to := by
      unfold nm1
      rw [e1, e2, e4'.1, e4'.2, sm_cong (P := P) (T := T) (k := i + x) (t := f + x) (k' := a + x) (t' := b + x) _ 0 to (fun z z0 z1 => e5 z z0 (by omega))]
    have e7 : nms P i f m (x + 1) = nms T a b m (x + 1) := funext fun to => ih (x + 1) to (by omega) (fun y y0 y1 => h y (by omega) (by omega))
    rw [nms, nms, e6, e7]
end B
section C
variable {R rho : Int → Int}
/-- two spans without calls of one length -/
theorem shp_shq {i j f l : Int} (hi : Cfr R rho i j) (hf : Cfr R rho f l) (hn : ly R rho 3 l - f = ly R rho 3 j - i) : (∀ x, 0 ≤ x → x < ly R rho 3 j - i → shp (ly R rho) i f x) ↔ (∀ x, 0 ≤ x → x < ly R rho 3 j - i → ly R rho 1 (i + x) ≠ 7 ∧ shq (tp (cutR R)) (tk R i) (tk R f) x) := by
  obtain ⟨-, -, -, -, -, -, ii, ri⟩ := hi
  obtain ⟨-, -, -, -, -, -, jf, rf⟩ := hf
  rw [hn] at jf rf
  have key : ∀ x, 0 ≤ x → x < ly R rho 3 j - i → (shp (ly R rho) i f x ↔ (ly R rho 1 (i + x) ≠ 7 ∧ shq (tp (cutR R)) (tk R i) (tk R f) x)) := by
    intro x x0 x1
    obtain ⟨a1, a3, a2⟩ := ii x x0 x1
    obtain ⟨b1, b3, b2⟩ := jf x x0 x1
    obtain ⟨p4, p5, p6, p7, p10, p11, p20, p22, p21, p12⟩ := ri x x0 x1
    obtain ⟨q4, q5, q6, q7, q10, q11, q20, q22, q21, q12⟩ := rf x x0 x1
    unfold shp shq
    rw [p5, q5, p11, q11, p4, q4, a1, b1]
    have pl : ((ly R rho 2 (i + x) < i ∧ ly R rho 2 (f + x) < f) ∨ (i ≤ ly R rho 2 (i + x) ∧ f ≤ ly R rho 2 (f + x) ∧ ly R rho 2 (i + x) - i = ly R rho 2 (f + x) - f ∧ tp (cutR R) 4 (tk R i + x) = tp (cutR R) 4 (tk R f + x))) ↔ ((tp (cutR R) 2 (tk R i + x) < tk R i ∧ tp (cutR R) 2 (tk R f + x) < tk R f) ∨ (tk R i ≤ tp (cutR R) 2 (tk R i + x) ∧ tk R f ≤ tp (cutR R) 2 (tk R f + x) ∧ tp (cutR R) 2 (tk R i + x) - tk R i = tp (cutR R) 2 (tk R f + x) - tk R f ∧ tp (cutR R) 4 (tk R i + x) = tp (cutR R) 4 (tk R f + x))) := by
      rcases a2 with a2 | a2 <;> rcases b2 with b2 | b2 <;> omega
    rw [pl]
  exact ⟨fun h x x0 x1 => (key x x0 x1).mp (h x x0 x1), fun h x x0 x1 => (key x x0 x1).mpr (h x x0 x1)⟩
theorem nms_told (hT : TG (cutR R)) {i j f l : Int} (hi : Cfr R rho i j) (hf : Cfr R rho f l) (hn : ly R rho 3 l - f = ly R rho 3 j - i) {to : Int → Int} : nms (ly R rho) i f (ly R rho 3 j - i).toNat 0 to = nms (tp (cutR R)) (tk R i) (tk R f) (ly R rho 3 j - i).toNat 0 to := by
  obtain ⟨-, -, -, -, -, g1, ii, ri⟩ := hi
  obtain ⟨-, -, -, -, -, -, jf, rf⟩ := hf
  rw [hn] at jf rf
  refine nms_cong _ 0 to (by omega) (fun y y0 y1 => ?_)
  obtain ⟨a1, a3, a2⟩ := ii y y0 (by omega)
  obtain ⟨p4, p5, p6, p7, p10, p11, p20, p22, p21, p12⟩ := ri y y0 (by omega)
  obtain ⟨q4, q5, q6, q7, q10, q11, q20, q22, q21, q12⟩ := rf y y0 (by omega)
  have t := hT.2.2.2 (tk R i + y) (by have := g1.2.1; omega) (by have := g1.2.2.2.1; have e : tp (cutR R) 0 0 = cutR R 0 := rfl; omega)
  exact ⟨a1, p11, t.2.2.1, ⟨p6, q6⟩, fun z z0 z1 => ⟨p12 z z0 z1, q12 z z0 z1⟩⟩
/-- what a statement without a call reads occurs in it -/
theorem read_oc (h : Good R rho) {k : Int} (hk : 0 ≤ k ∧ k < ly R rho 0 0) (h7 : ly R rho 1 k ≠ 7) {v : Nat} (hv : v < 8) (hb : bt (ly R rho 10 k) v = true) : (v : Int) ∈ oc (ly R rho) k := by
  have cl := h.cl7 hk.1 hk.2
  have nc : ¬ clR R (tk R k) ≠ -1 := fun u => h7 (cl.1.mpr u)
  have t := h.1.2.2.2 (tk R k) cl.2.1 cl.2.2
  have e10 : ly R rho 10 k = uses (cutR R) (tk R k) := by
    show (if clR R (tk R k) ≠ -1 then lset (R (910 + clR R (tk R k))) else uses (cutR R) (tk R k)) = _
    rw [if_neg nc]
  rw [e10, uses_bt t.2.2.1 hv] at hb
  obtain ⟨y, y0, y1, y2⟩ := hb
  have e11 : ly R rho 11 k = tp (cutR R) 11 (tk R k) := by
    show (if clR R (tk R k) ≠ -1 then irem (R (910 + clR R (tk R k))) 16 + 1 + irem (R (950 + clR R (tk R k))) 16 else cutR R (241 + tk R k)) = _
    rw [if_neg nc]; rfl
  have l12 : tp (cutR R) 11 (tk R k) ≤ 12 := t.2.2.1.2
  have e12 : ly R rho 12 (16 * k + y) = 97 + v := by
    show (if clR R (tk R ((16 * k + y) / 16)) ≠ -1 then _ else cutR R ((281 + (12 * tk R ((16 * k + y) / 16))) + (16 * k + y) % 16)) = _
    rw [show (16 * k + y) / 16 = k by omega, show (16 * k + y) % 16 = y by omega, if_neg nc, ← y2, tp_12 (by omega)]
  unfold oc
  refine List.mem_append_left _ (List.mem_filterMap.mpr ⟨97 + v, ?_, by unfold vo; rw [if_pos (by omega)]; congr 1; omega⟩)
  have : ∀ (n : Nat) (i : Int), i ≤ y → y < i + n → ly R rho 12 (16 * k + y) ∈ sy (ly R rho) k n i := by
    intro n
    induction n with
    | zero => intro i _ _; omega
    | succ n ih =>
      intro i i0 i1
      rw [sy]
      by_cases ei : y = i
      · rw [← ei]; exact List.mem_cons_self ..
      · exact List.mem_cons_of_mem _ (ih (i + 1) (by omega) (by omega))
  rw [← e12]
  exact this _ 0 y0 (by rw [e11]; omega)
theorem oc_ocs {P : Pg} {v k : Int} (h : v ∈ oc P k) : ∀ (n : Nat) (i : Int), i ≤ k → k < i + n → v ∈ ocs P n i := by
  intro n
  induction n with
  | zero => intro i _ _; omega
  | succ n ih =>
    intro i i0 i1
    rw [ocs]
    by_cases e : k = i
    · rw [← e]; exact List.mem_append_left _ h
    · exact List.mem_append_right _ (ih (i + 1) (by omega) (by omega))
/-- inputs and outputs occur -/
theorem out_oc (h : Good R rho) {i j : Int} (hs : isp (ly R rho) i j) (hn : ∀ k, i ≤ k → k < ly R rho 3 j → ly R rho 1 k ≠ 7) {v : Nat} (hv : v < 8) (hb : bt (sO (ly R rho) i j) v = true) : (v : Int) ∈ ocf (ly R rho) i j := by
  have hw := h.wf
  have aj := hw.af (k := j) (by have := hs.1; have := hs.2.1; omega) hs.2.2.1
  unfold sO at hb
  rw [bt_msk hv] at hb
  obtain ⟨⟨k, k0, k1, k2⟩, -⟩ := hb
  have s1 := hs.1
  have w := h.rdb.2.2.2 k (by omega) (by omega)
  have s := h.prs k (by omega) (by omega)
  rw [w.2.2.2, if_neg (hn k k0 k1)] at k2
  by_cases z : ly R rho 1 k = 0
  · rw [if_pos z] at k2
    have q := (s.2.1 (hn k k0 k1)).2.2 z
    rw [← q.1, bt_shl q.2, decide_eq_true_iff] at k2
    refine oc_ocs (k := k) ?_ _ i k0 (by omega)
    unfold oc
    rw [if_pos z, k2]
    exact List.mem_append_right _ (List.mem_singleton.mpr rfl)
  · rw [if_neg z, bt_0] at k2; cases k2
theorem in_oc (h : Good R rho) {i j : Int} (hs : isp (ly R rho) i j) (hn : ∀ k, i ≤ k → k < ly R rho 3 j → ly R rho 1 k ≠ 7) {v : Nat} (hv : v < 8) (hb : bt (sI (ly R rho) i j) v = true) : (v : Int) ∈ ocf (ly R rho) i j := by
  have hw := h.wf
  have aj := hw.af (k := j) (by have := hs.1; have := hs.2.1; omega) hs.2.2.1
  have s1 := hs.1
  have hb' := hb
  unfold sI at hb
  rw [bt_msk hv] at hb
  rcases hb with hb | ⟨e, _, _, hb, _⟩
  · obtain ⟨k, k0, k1, _, k2⟩ := (Lv_iff hw (hw.rgS hs)).mp hb
    exact oc_ocs (read_oc h ⟨by omega, by omega⟩ (hn k k0 (by omega)) hv k2) _ i k0 (by omega)
  · exact out_oc h hs hn hv hb
end C
