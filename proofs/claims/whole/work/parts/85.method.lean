/-! The questions about methods -/
/-- the calls of method m among n statements from k on, and among n calls from c on -/
def nl (P : Pg) (m : Int) : Nat → Int → List Int
  | 0, _ => []
  | n + 1, k => if P 1 k = 7 ∧ P 6 k = m then P 31 k :: nl P m n (k + 1) else nl P m n (k + 1)
def ol (R : Int → Int) (m : Int) : Nat → Int → List Int
  | 0, _ => []
  | n + 1, c => if R (870 + c) = m then c :: ol R m n (c + 1) else ol R m n (c + 1)
theorem nl_mem {P : Pg} {m x : Int} : ∀ (n : Nat) (k : Int), x ∈ nl P m n k ↔ ∃ j, k ≤ j ∧ j < k + n ∧ P 1 j = 7 ∧ P 6 j = m ∧ P 31 j = x := by
  intro n
  induction n with
  | zero =>
    intro k
    constructor
    · intro h; cases h
    · rintro ⟨j, h1, h2, _⟩; omega
  | succ n ih =>
    intro k
    rw [nl]
    by_cases c : P 1 k = 7 ∧ P 6 k = m
    · rw [if_pos c, List.mem_cons, ih]
      constructor
      · rintro (h | ⟨j, h1, h2, h3⟩)
        · exact ⟨k, by omega, by omega, c.1, c.2, h.symm⟩
        · exact ⟨j, by omega, by omega, h3⟩
      · rintro ⟨j, h1, h2, h3, h4, h5⟩
        by_cases e : j = k
        · exact Or.inl (by rw [← e]; exact h5.symm)
        · exact Or.inr ⟨j, by omega, by omega, h3, h4, h5⟩
    · rw [if_neg c, ih]
      constructor
      · rintro ⟨j, h1, h2, h3⟩
        exact ⟨j, by omega, by omega, h3⟩
      · rintro ⟨j, h1, h2, h3, h4, h5⟩
        have : j ≠ k := fun e => c (by rw [← e]; exact ⟨h3, h4⟩)
        exact ⟨j, by omega, by omega, h3, h4, h5⟩
theorem nl_nodup {P : Pg} {m N : Int} (hi : ∀ i j, 0 ≤ i → i < N → 0 ≤ j → j < N → P 1 i = 7 → P 1 j = 7 → P 31 i = P 31 j → i = j) : ∀ (n : Nat) (k : Int), 0 ≤ k → k + n ≤ N → (nl P m n k).Nodup := by
  intro n
  induction n with
  | zero => intro k _ _; exact List.nodup_nil
  | succ n ih =>
    intro k k0 k1
    rw [nl]
    by_cases c : P 1 k = 7 ∧ P 6 k = m
    · rw [if_pos c, List.nodup_cons]
      refine ⟨fun h => ?_, ih _ (by omega) (by omega)⟩
      obtain ⟨j, h1, h2, h3, h4, h5⟩ := (nl_mem n (k + 1)).mp h
      have := hi j k (by omega) (by omega) k0 (by omega) h3 c.1 h5
      omega
    · rw [if_neg c]; exact ih _ (by omega) (by omega)
theorem ol_mem {R : Int → Int} {m x : Int} : ∀ (n : Nat) (c : Int), x ∈ ol R m n c ↔ (c ≤ x ∧ x < c + n ∧ R (870 + x) = m) := by
  intro n
  induction n with
  | zero =>
    intro c
    constructor
    · intro h; cases h
    · rintro ⟨h1, h2, _⟩; omega
  | succ n ih =>
    intro c
    rw [ol]
    by_cases q : R (870 + c) = m
    · rw [if_pos q, List.mem_cons, ih]
      constructor
      · rintro (h | ⟨h1, h2, h3⟩)
        · subst h; exact ⟨by omega, by omega, q⟩
        · exact ⟨by omega, by omega, h3⟩
      · rintro ⟨h1, h2, h3⟩
        by_cases e : x = c
        · exact Or.inl e
        · exact Or.inr ⟨by omega, by omega, h3⟩
    · rw [if_neg q, ih]
      constructor
      · rintro ⟨h1, h2, h3⟩
        exact ⟨by omega, by omega, h3⟩
      · rintro ⟨h1, h2, h3⟩
        have : x ≠ c := fun e => q (by rw [← e]; exact h3)
        exact ⟨by omega, by omega, h3⟩
theorem ol_nodup {R : Int → Int} {m : Int} : ∀ (n : Nat) (c : Int), (ol R m n c).Nodup := by
  intro n
  induction n with
  | zero => intro c; exact List.nodup_nil
  | succ n ih =>
    intro c
    rw [ol]
    by_cases q : R (870 + c) = m
    · rw [if_pos q, List.nodup_cons]
      refine ⟨fun h => ?_, ih _⟩
      have := (ol_mem n (c + 1)).mp h
      omega
    · rw [if_neg q]; exact ih _
section G
variable {R rho : Int → Int} {M : sl_M} {s : Nat} {l : Launch} {Q : sl_R}
/-- where a call stands -/
theorem Good.cn (h : Good R rho) {c : Int} (hc : 0 ≤ c ∧ c < R 789) : isN (clR R) (eR R) (ca R c) ∧ clR R (ca R c) = c ∧ (0 ≤ ca R c ∧ ca R c < cutR R 0) := by
  have hs := h.spn
  have g := h.2.2.2.2.1 c hc.1 hc.2
  have g0 : 0 ≤ ca R c := g.1.1
  have g1 := g.1.2.1
  have g2 : cz R c < cutR R 0 := g.1.2.2.1
  have af := h.1.1.af (k := cz R c) (by omega) g.1.2.2.1
  have e : clR R (ca R c) = c := by
    have ne : clR R (ca R c) ≠ -1 := cat_find 41 0 c (by omega) hc.1 hc.2 (by have := h.2.2.2.1; omega) rfl
    obtain ⟨d0, d1, d2⟩ := clR_spec ne
    refine Classical.byContradiction fun q => ?_
    have dj := h.2.2.2.2.2 _ _ d0 d1 hc.1 hc.2 q
    have gd := h.2.2.2.2.1 _ d0 d1
    have af2 := h.1.1.af (k := cz R (clR R (ca R c))) (by have := gd.1.1; have := gd.1.2.1; omega) gd.1.2.2.1
    have := gd.1.2.1
    have d2' : ca R (clR R (ca R c)) = ca R c := d2
    omega
  refine ⟨isN_yes hs g0 (by show ca R c ≤ cutR R 0; omega) (fun a a0 a1 aN ac => ?_), e, g0, by omega⟩
  obtain ⟨d0, d1, d2⟩ := clR_spec ac
  have d2' : ca R (clR R a) = a := d2
  have dj := h.2.2.2.2.2 _ _ d0 d1 hc.1 hc.2 (fun q => by rw [q] at d2'; omega)
  have e3 : tp (cutR R) 3 (cz R (clR R a)) = eR R a := rfl
  rw [e3, d2'] at dj
  omega
theorem Good.inj (h : Good R rho) : ∀ i j, 0 ≤ i → i < ly R rho 0 0 → 0 ≤ j → j < ly R rho 0 0 → ly R rho 1 i = 7 → ly R rho 1 j = 7 → ly R rho 31 i = ly R rho 31 j → i = j := by
  intro i j i0 i1 j0 j1 hi hj e
  have hs := h.spn
  have hL : Lay (tp (cutR R)) (clR R) (eR R) (ly R rho) := ly_lay
  have a := hL.at h.1.1 hs i0 (by omega)
  have b := hL.at h.1.1 hs j0 (by omega)
  have ci := clR_spec ((h.cl7 i0 i1).1.mp hi)
  have cj := clR_spec ((h.cl7 j0 j1).1.mp hj)
  have e' : clR R (tk R i) = clR R (tk R j) := e
  rw [← a.2.2.2.1, ← b.2.2.2.1]
  have : ly R rho 30 i = ly R rho 30 j := by
    show tk R i = tk R j
    rw [← ci.2.2, ← cj.2.2, e']
  rw [this]
theorem calls_eq (h : Good R rho) {m : Int} : (nl (ly R rho) m (ly R rho 0 0).toNat 0).length = (ol R m (R 789).toNat 0).length := by
  have hs := h.spn
  have hL : Lay (tp (cutR R)) (clR R) (eR R) (ly R rho) := ly_lay
  have he := hL.end h.1.1 hs
  refine List.Perm.length_eq ((List.perm_ext_iff_of_nodup (nl_nodup h.inj _ _ (by omega) (by omega)) (ol_nodup _ _)).mpr fun x => ?_)
  rw [nl_mem, ol_mem]
  constructor
  · rintro ⟨j, j0, j1, j2, j3, j4⟩
    have cc := (h.cl7 (k := j) (by omega) (by omega)).1.mp j2
    obtain ⟨c0, c1, c2⟩ := clR_spec cc
    have e : clR R (tk R j) = x := j4
    rw [e] at c0 c1
    have E6 : ly R rho 6 j = if clR R (tk R j) ≠ -1 then R (870 + clR R (tk R j)) else cutR R (201 + tk R j) := rfl
    rw [E6, if_pos cc, e] at j3
    exact ⟨by omega, by omega, j3⟩
  · rintro ⟨x0, x1, x2⟩
    have hx : 0 ≤ x ∧ x < R 789 := by omega
    obtain ⟨n1, n2, n3, n4⟩ := h.cn hx
    have of := hL.of h.1.1 hs (t := ca R x) n3 (by show ca R x ≤ cutR R 0; omega) n1
    have lt := of.2.2.2 n4
    have e30 : tk R (ixn (clR R) (eR R) (ca R x).toNat) = ca R x := of.2.2.1
    refine ⟨ixn (clR R) (eR R) (ca R x).toNat, of.1, by omega, ?_, ?_, ?_⟩
    · exact (h.cl7 of.1 lt).1.mpr (by rw [e30, n2]; omega)
    · show (if clR R (tk R (ixn (clR R) (eR R) (ca R x).toNat)) ≠ -1 then R (870 + clR R (tk R (ixn (clR R) (eR R) (ca R x).toNat))) else _) = m
      rw [e30, n2, if_pos (by omega)]; exact x2
    · show clR R (tk R (ixn (clR R) (eR R) (ca R x).toNat)) = x
      rw [e30, n2]
/-- the statements of a method, shifted -/
theorem sft_12 {T : Pg} {f n k i : Int} : sft T f n 12 (16 * k + i) = T 12 (16 * (f + k) + i) := by
  show T 12 (16 * f + (16 * k + i)) = _
  rw [show 16 * f + (16 * k + i) = 16 * (f + k) + i by omega]
theorem sft_sy {T : Pg} {f n k : Int} : ∀ (m : Nat) (i : Int), sy (sft T f n) k m i = sy T (f + k) m i := by
  intro m
  induction m with
  | zero => intro i; rfl
  | succ m ih => intro i; rw [sy, sy, ih, sft_12]
theorem sft_oc {T : Pg} {f n k : Int} : oc (sft T f n) k = oc T (f + k) := by
  unfold oc
  rw [sft_sy]; rfl
theorem sft_ocs {T : Pg} {f n : Int} : ∀ (m : Nat) (k : Int), ocs (sft T f n) m k = ocs T m (f + k) := by
  intro m
  induction m with
  | zero => intro k; rfl
  | succ m ih => intro k; rw [ocs, ocs, ih, sft_oc, show f + (k + 1) = f + k + 1 by omega]
theorem sft_Sy {T : Pg} {f n k : Int} : Sy (sft T f n) k = Sy T (f + k) := by
  funext i; exact sft_12
theorem sft_mf {T : Pg} {f n : Int} : mf (sft T f n) 0 n ↔ mf T f (f + n) := by
  have e : ∀ k, mfi (sft T f n) k 0 ↔ mfi T (f + k) 0 := by
    intro k
    unfold mfi mfk
    rw [sft_Sy]
    simp only [sft_12]
    exact Iff.rfl
  unfold mf
  constructor
  · rintro ⟨k, k0, k1, hk⟩
    exact ⟨f + k, by omega, by omega, (e k).mp hk⟩
  · rintro ⟨k, k0, k1, hk⟩
    exact ⟨k - f, by omega, by omega, (e (k - f)).mpr (by rw [show f + (k - f) = k by omega]; exact hk)⟩
theorem TG.ev (h : TG R) {t : Int} (t0 : 0 ≤ t) (t1 : t < R 0) : EV (tp R) t := (h.2.2.2 t t0 t1).2.2.2.1
theorem MGm.ends (hT : TG (cutR R)) {m : Int} (h : MGm R m) : 0 ≤ mf0 R m ∧ mf0 R m ≤ ml0 R m ∧ ml0 R m < tp (cutR R) 3 (ml0 R m) ∧ tp (cutR R) 3 (ml0 R m) ≤ cutR R 0 := by
  obtain ⟨s1, s2, s3, -, -⟩ := h.1
  have a := hT.1.af (k := ml0 R m) (by omega) s3
  exact ⟨s1, s2, a.1, a.2⟩
theorem kX7_isCallOf (h : St M s R rho) {k m : Int} (hk : 0 ≤ k ∧ k < ly R rho 0 0) (hQ : Q (some (vI (if ly R rho 1 k = 7 ∧ ly R rho 6 k = m then 1 else 0))) M) : sl_Runs l mX7_isCallOf [vR s 0, vI k, vI m] M Q := by
  obtain ⟨hs, hG, hC, h2, hR⟩ := h
  have n0 := hC.1.n0
  obtain ⟨d1, d2, d3, d4⟩ := hC.2.1.2 k hk.1 hk.2
  obtain ⟨_, _, _, _, _, s6, _⟩ := hC.2.2.1 k hk.1 hk.2
  refine eX7_isCallOf (vX7_isCallOf_0 hs fun _ _ _ => ⟨by omega, ?_⟩)
  rw [b_congr (R := ly R rho 1 k = 7 ∧ ly R rho 6 k = m)]
  · exact hQ
  · rw [d1]
    constructor
    · rintro ⟨a, b⟩
      have a : ly R rho 1 k = 7 := by omega
      rw [s6 a] at b
      exact ⟨a, by omega⟩
    · rintro ⟨a, b⟩
      rw [s6 a]
      exact ⟨by omega, by omega⟩
theorem nl_len {P : Pg} {m : Int} : ∀ (n : Nat) (k : Int), (nl P m n k).length ≤ n := by
  intro n
  induction n with
  | zero => intro k; exact Nat.le_refl _
  | succ n ih =>
    intro k
    rw [nl]
    split
    · have := ih (k + 1); rw [List.length_cons]; omega
    · have := ih (k + 1); omega
theorem kX7_callsOf (h : St M s R rho) {m : Int} (hQ : Q (some (vI ((nl (ly R rho) m (ly R rho 0 0).toNat 0).length : Int))) M) : sl_Runs l mX7_callsOf [vR s 0, vI m] M Q := by
  have hC := h.2.2.1
  have hs := h.1
  have n0 := hC.1.n0
  have loop : ∀ (n : Nat) (x k : Int), k = ly R rho 0 0 - n → 0 ≤ k → 0 ≤ x → x + n ≤ 40 → Q (some (vI (x + (nl (ly R rho) m n k).length))) M → sl_At l mX7_callsOf 4 [(0, vR s 0), (1, vI m), (2, vI x), (3, vI k)] [] M Q := by
    intro n
    induction n with
    | zero =>
      intro x k hk k0 x0 xn hq
      refine vX7_callsOf_4 hs fun _ _ _ _ => ?_
      rw [hC.2.1.1]
      refine ⟨fun _ => ?_, fun z => by omega⟩
      have e : x + ((nl (ly R rho) m 0 k).length : Int) = x := by show x + ((0 : Nat) : Int) = x; omega
      rw [e] at hq; exact hq
    | succ n ih =>
      intro x k hk k0 x0 xn hq
      refine vX7_callsOf_4 hs fun _ _ _ _ => ?_
      rw [hC.2.1.1]
      refine ⟨fun z => by omega, fun _ => kX7_isCallOf h ⟨k0, by omega⟩ ⟨_, rfl, fun z => ⟨by omega, ih x (k + 1) (by omega) (by omega) x0 (by omega) ?_⟩, fun z => ⟨by omega, by omega, ih (x + 1) (k + 1) (by omega) (by omega) (by omega) (by omega) ?_⟩⟩⟩
      · rw [b_eq0] at z
        rw [nl, if_neg z] at hq; exact hq
      · have z := b_ne0.mp z
        rw [nl, if_pos z, List.length_cons] at hq
        rw [show x + 1 + ((nl (ly R rho) m n (k + 1)).length : Int) = x + (((nl (ly R rho) m n (k + 1)).length + 1 : Nat) : Int) by omega]
        exact hq
  refine eX7_callsOf (vX7_callsOf_0 hs fun _ _ => loop (ly R rho 0 0).toNat 0 0 (by omega) (by omega) (by omega) (by omega) ?_)
  rw [Int.zero_add]; exact hQ
/-- a property of a method -/
noncomputable def mPr (R : Int → Int) (m w : Int) : Int := if w = 0 then R (768 + m) else if w = 1 then (LIn R m).length else if w = 2 then (LOt R m).length else if w = 3 then tp (cutR R) 3 (ml0 R m) - mf0 R m else if w = 4 then (ol R m (R 789).toNat 0).length else cif (mf (tp (cutR R)) (mf0 R m) (tp (cutR R) 3 (ml0 R m))) 1 0
noncomputable def qMethod (R : Int → Int) (m w : Int) : Int × Int := if (0 ≤ m ∧ m < R 761) ∧ 0 ≤ w ∧ w ≤ 5 then (mPr R m w, 0) else (-2, 1)
def qFormal (R : Int → Int) (m w k : Int) : Int × Int := if (0 ≤ m ∧ m < R 761) ∧ (0 ≤ w ∧ w ≤ 1) ∧ 0 ≤ k then (fnd k (if w = 0 then LIn R m else LOt R m), 0) else (-2, 1)
theorem cif01 (p : Prop) : cif p 1 0 = 0 ∨ cif p 1 0 = 1 := by
  by_cases h : p
  · rw [cif1 h]; exact Or.inr rfl
  · rw [cif0 h]; exact Or.inl rfl
theorem cls_r (hs : sl_cls s = 7) {m : Int} (hm : 0 ≤ m ∧ m < 3) : sl_cls (rO s m) = 5 ∧ sl_cls (rO s m + 30) = 0 ∧ sl_cls (s + 10) = 0 := by
  have h1 : ∀ s : Nat, s < 90 → sl_cls s = 7 → ∀ m : Nat, m < 3 → sl_cls (3 * s + m) = 5 ∧ sl_cls (3 * s + m + 30) = 0 ∧ sl_cls (s + 10) = 0 := by decide +kernel
  have h2 : s < 90 := by
    refine Nat.not_le.mp fun q => ?_
    unfold sl_cls at hs
    rw [if_neg (by omega), if_neg (by omega), if_neg (by omega), if_neg (by omega), if_neg (by omega), if_neg (by omega), if_neg (by omega), if_neg (by omega), if_neg (by omega), if_neg (by omega), if_neg (by omega), if_neg (by omega), if_neg (by omega), if_neg (by omega), if_neg (by omega), if_neg (by omega), if_neg (by omega)] at hs
    omega
  exact h1 s h2 hs m.toNat (by omega)
theorem kX7_routineProperty (h : St M s R rho) {m w : Int} (hm : 0 ≤ m ∧ m < R 761) (hw : 0 ≤ w ∧ w ≤ 5) (hQ : Q (some (vI (mPr R m w))) M) : sl_Runs l mX7_routineProperty [vR s 0, vI m, vI w] M Q := by
  have hh := h
  obtain ⟨hs, hG, hC, h2, hR⟩ := h
  obtain ⟨r1, r2, r3, r4, r5⟩ := hR m hm.1 hm.2
  have mg := hG.2.2.1 m hm.1 hm.2
  have m3 := hG.2.1
  obtain ⟨c1, c2, c3⟩ := cls_r hs (m := m) (by omega)
  unfold mPr at hQ
  have en := mg.ends hG.1
  refine eX7_routineProperty (vX7_routineProperty_0 hs fun _ _ _ => ⟨by omega, fun z => ?_, fun z => ?_, fun z => ?_, fun z => ?_, fun z => ?_, fun z => ?_⟩)
  · rw [if_pos z] at hQ
    show Q (some (vI (M (rO s m) 0 1))) M
    rw [r2]; exact hQ
  · rw [if_neg (by omega), if_pos z] at hQ
    show sl_RI l mJ6_bitCount_0f7a4 [vI (M (rO s m) 0 2)] M _
    rw [r3]
    exact kJ6_bitCount (mg.im8 hG.1) ⟨_, rfl, by rw [mg.pi hG.1]; exact hQ⟩
  · rw [if_neg (by omega), if_neg (by omega), if_pos z] at hQ
    show sl_RI l mJ6_bitCount_0f7a4 [vI (M (rO s m) 0 3)] M _
    rw [r4]
    exact kJ6_bitCount (mg.om8 hG.1) ⟨_, rfl, by rw [mg.po hG.1]; exact hQ⟩
  · rw [if_neg (by omega), if_neg (by omega), if_neg (by omega), if_pos z] at hQ
    show Q (some (vI (M (rO s m + 30) 0 11))) M
    rw [r1.2.1.1]; exact hQ
  · rw [if_neg (by omega), if_neg (by omega), if_neg (by omega), if_neg (by omega), if_pos z] at hQ
    exact kX7_callsOf hh ⟨_, rfl, by rw [calls_eq hG]; exact hQ⟩
  · rw [if_neg (by omega), if_neg (by omega), if_neg (by omega), if_neg (by omega), if_neg (by omega)] at hQ
    show sl_RI l mX0_mayFailToDivide [vR (rO s m + 30) 0] M _
    refine kX0_mayFailToDivide c2 r1.1 r1.2.1 r1.2.2.1 (fun k k0 k1 => ?_) ⟨_, rfl, ?_⟩
    · have k1' : k < tp (cutR R) 3 (ml0 R m) - mf0 R m := k1
      have t := hG.1.2.2.2 (mf0 R m + k) (by omega) (by omega)
      refine ⟨t.1, ?_⟩
      have ev := (hG.1.ev (t := mf0 R m + k) (by omega) (by omega)).1
      rw [sft_Sy]; exact ev
    · have e : (if ¬ (cif (mf (bod R m) 0 (bod R m 0 0)) 1 0 = 0) then (1 : Int) else 0) = cif (mf (tp (cutR R)) (mf0 R m) (tp (cutR R) 3 (ml0 R m))) 1 0 := by
        have ee : mf (bod R m) 0 (bod R m 0 0) ↔ mf (tp (cutR R)) (mf0 R m) (tp (cutR R) 3 (ml0 R m)) := by
          have := sft_mf (T := tp (cutR R)) (f := mf0 R m) (n := tp (cutR R) 3 (ml0 R m) - mf0 R m)
          rw [show mf0 R m + (tp (cutR R) 3 (ml0 R m) - mf0 R m) = tp (cutR R) 3 (ml0 R m) by omega] at this
          exact this
        by_cases q : mf (tp (cutR R)) (mf0 R m) (tp (cutR R) 3 (ml0 R m))
        · rw [cif1 q, cif1 (ee.mpr q)]; rfl
        · rw [cif0 q, cif0 (fun w => q (ee.mp w))]; rfl
      show Q (some (vI (if ¬ (cif (mf (bod R m) 0 (bod R m 0 0)) 1 0 = 0) then 1 else 0))) M
      rw [e]; exact hQ
end G
