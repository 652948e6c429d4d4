/-! The state as the reference's row has it -/
/-- the program told -/
def tp (R : Int → Int) : Pg := fun i k => match i with
  | 0 => R 0 | 1 => R (1 + k) | 2 => R (81 + k) | 3 => R (41 + k) | 4 => R (121 + k) | 5 => R (161 + k) | 6 => R (201 + k) | 7 => 16434824
  | 10 => uses R k | 11 => R (241 + k) | 12 => R ((281 + (12 * (k / 16))) + k % 16)
  | 20 => if R (1 + k) = 2 then 8 else if R (1 + k) = 3 then 2 else if R (1 + k) = 4 then 4 else 1
  | 21 => if R (1 + k / 16) = 0 then ishl 1 (R (201 + k / 16)) else 0
  | 22 => if R (1 + k) = 0 then ishl 1 (R (201 + k)) else 0
  | 30 => k | 31 => -1 | _ => 0
/-- the row as far as it tells the program -/
def cutR (R : Int → Int) : Int → Int := fun j => if 0 ≤ j ∧ j ≤ 760 then R j else 0
theorem cutR_eq {R : Int → Int} {j : Int} (h0 : 0 ≤ j) (h1 : j ≤ 760) : cutR R j = R j := if_pos ⟨h0, h1⟩
theorem cutR_congr {R R' : Int → Int} (h : ∀ j, 0 ≤ j → j ≤ 760 → R j = R' j) : cutR R = cutR R' := by
  funext j
  unfold cutR
  by_cases c : 0 ≤ j ∧ j ≤ 760
  · rw [if_pos c, if_pos c]; exact h j c.1 c.2
  · rw [if_neg c, if_neg c]
/-- the call at a statement told, and where its span ends -/
abbrev clR (R : Int → Int) (t : Int) : Int := cat R t 41 0
abbrev eR (R : Int → Int) (t : Int) : Int := cutR R (41 + R (830 + clR R t))
abbrev tk (R : Int → Int) (k : Int) : Int := nd (clR R) (eR R) k.toNat
/-- the program with its calls; rho: the renaming of each call -/
def ly (R rho : Int → Int) : Pg := fun i k => match i with
  | 0 => nn (tp (cutR R)) (clR R) (eR R) | 30 => tk R k | 31 => clR R (tk R k)
  | 1 => if clR R (tk R k) ≠ -1 then 7 else cutR R (1 + tk R k)
  | 2 => ix (clR R) (eR R) (cutR R (81 + tk R k))
  | 3 => if clR R (tk R k) ≠ -1 then k + 1 else ixn (clR R) (eR R) (cutR R (41 + tk R k)).toNat
  | 4 => cutR R (121 + tk R k)
  | 5 => if clR R (tk R k) ≠ -1 then 0 else cutR R (161 + tk R k)
  | 6 => if clR R (tk R k) ≠ -1 then R (870 + clR R (tk R k)) else cutR R (201 + tk R k)
  | 7 => if clR R (tk R k) ≠ -1 then rho (clR R (tk R k)) else 16434824
  | 10 => if clR R (tk R k) ≠ -1 then lset (R (910 + clR R (tk R k))) else uses (cutR R) (tk R k)
  | 11 => if clR R (tk R k) ≠ -1 then irem (R (910 + clR R (tk R k))) 16 + 1 + irem (R (950 + clR R (tk R k))) 16 else cutR R (241 + tk R k)
  | 12 => if clR R (tk R (k / 16)) ≠ -1 then (if k % 16 < irem (R (910 + clR R (tk R (k / 16)))) 16 then 97 + nib (R (910 + clR R (tk R (k / 16)))) (k % 16) else if k % 16 = irem (R (910 + clR R (tk R (k / 16)))) 16 then 62 else 97 + nib (R (950 + clR R (tk R (k / 16)))) (k % 16 - irem (R (910 + clR R (tk R (k / 16)))) 16 - 1)) else cutR R ((281 + (12 * tk R (k / 16))) + k % 16)
  | 20 => if clR R (tk R k) ≠ -1 then R (768 + R (870 + clR R (tk R k))) else tp (cutR R) 20 (tk R k)
  | 21 => if clR R (tk R (k / 16)) ≠ -1 then csets R (clR R (tk R (k / 16))) (k % 16) else tp (cutR R) 22 (tk R (k / 16))
  | 22 => if clR R (tk R k) ≠ -1 then lset (R (950 + clR R (tk R k))) else tp (cutR R) 22 (tk R k)
  | _ => 0
/-- the blocks of an if come one behind the other -/
def WF2 (T : Pg) : Prop := ∀ a b, 0 ≤ a → a < b → b < T 0 0 → T 2 a = T 2 b → T 4 a ≤ T 4 b
/-- what a statement weighs in the text, at least -/
def wt (T : Pg) : Nat → Int
  | 0 => 0
  | n + 1 => wt T n + (T 11 n + 1 + (if T 1 n = 0 then 2 else 0))
/-- a program told is as it must be -/
def TG (R : Int → Int) : Prop := WF (tp R) ∧ WF2 (tp R) ∧ wt (tp R) (R 0).toNat ≤ 160 ∧ ∀ t, 0 ≤ t → t < R 0 → R (1 + t) ≠ 7 ∧ (R (1 + t) = 0 → 0 ≤ R (201 + t) ∧ R (201 + t) < 8) ∧ (0 ≤ R (241 + t) ∧ R (241 + t) ≤ 12) ∧ EV (tp R) t ∧ ((R (1 + t) = 3 ∨ R (1 + t) = 4) → la (tp R) 0 40 (R (81 + t)) ≠ -1) ∧ (R (241 + t) = 0 ↔ (R (1 + t) = 3 ∨ R (1 + t) = 4)) ∧ (R (161 + t) = 0 ∨ R (161 + t) = 1)
/-- the occurrences in a span -/
abbrev ocf (T : Pg) (f j : Int) : List Int := ocs T (T 3 j - f).toNat f
abbrev iM (R : Int → Int) (m : Int) : Int := lset (R (771 + m))
abbrev oM (R : Int → Int) (m : Int) : Int := lset (R (774 + m))
abbrev mf0 (R : Int → Int) (m : Int) : Int := R (762 + m)
abbrev ml0 (R : Int → Int) (m : Int) : Int := R (765 + m)
abbrev LIn (R : Int → Int) (m : Int) : List Int := od (iM R m) [] (ocf (tp (cutR R)) (mf0 R m) (ml0 R m))
abbrev LOt (R : Int → Int) (m : Int) : List Int := od (oM R m) [] (ocf (tp (cutR R)) (mf0 R m) (ml0 R m))
/-- a method -/
def MGm (R : Int → Int) (m : Int) : Prop := isp (tp (cutR R)) (mf0 R m) (ml0 R m) ∧ R (768 + m) = sX (tp (cutR R)) (mf0 R m) (tp (cutR R) 3 (ml0 R m) - 1) ∧ (R (771 + m) = lpk (LIn R m) ∧ (LIn R m).length ≤ 4) ∧ (R (774 + m) = lpk (LOt R m) ∧ (LOt R m).length ≤ 3) ∧ ∀ e, e4 e → R (777 + 4 * m + sp_place e) = cif (xE (tp (cutR R)) (mf0 R m) (tp (cutR R) 3 (ml0 R m) - 1) e) (msk fun v => ¬ mU (tp (cutR R)) (mf0 R m) (tp (cutR R) 3 (ml0 R m) - 1) e v) 255
/-- statement a + x is statement f + x, renamed -/
def twn (T : Pg) (r f a x : Int) : Prop := T 1 (a + x) = T 1 (f + x) ∧ T 3 (a + x) - a = T 3 (f + x) - f ∧ ((T 2 (f + x) < f ∧ T 2 (a + x) < a) ∨ (f ≤ T 2 (f + x) ∧ T 2 (a + x) - a = T 2 (f + x) - f ∧ T 4 (a + x) = T 4 (f + x))) ∧ T 5 (a + x) = T 5 (f + x) ∧ T 11 (a + x) = T 11 (f + x) ∧ (T 1 (f + x) = 0 → T 6 (a + x) = rn r (T 6 (f + x))) ∧ ∀ i, 0 ≤ i → i < T 11 (f + x) → T 12 (16 * (a + x) + i) = ren r (T 12 (16 * (f + x) + i))
/-- what holds of a call's names, all along -/
def CallOK (T : Pg) (a b : Int) (I O : List Int) : Prop := (∀ v : Nat, (v : Int) ∈ I → Lv T 0 (T 0 0 - 1) v a ∧ ¬ nS T a v) ∧ (∀ v : Nat, v < 8 → (∃ k, a ≤ k ∧ k < T 3 b ∧ bt (T 22 k) v = true) → (∃ e, e4 e ∧ xE T a (T 3 b - 1) e ∧ sL T b e v) → (v : Int) ∈ O) ∧ (∀ v : Nat, v < 8 → Lv T a (T 3 b - 1) v a → (v : Int) ∈ I)
abbrev ca (R : Int → Int) (c : Int) : Int := R (790 + c)
abbrev cz (R : Int → Int) (c : Int) : Int := R (830 + c)
abbrev cm (R : Int → Int) (c : Int) : Int := R (870 + c)
/-- a call -/
def CGc (R rho : Int → Int) (c : Int) : Prop := isp (tp (cutR R)) (ca R c) (cz R c) ∧ (0 ≤ cm R c ∧ cm R c < R 761) ∧ tp (cutR R) 3 (cz R c) - ca R c = tp (cutR R) 3 (ml0 R (cm R c)) - mf0 R (cm R c) ∧ (∀ x, 0 ≤ x → x < tp (cutR R) 3 (cz R c) - ca R c → twn (tp (cutR R)) (rho c) (mf0 R (cm R c)) (ca R c) x) ∧ (∀ u v, u ∈ ocf (tp (cutR R)) (mf0 R (cm R c)) (ml0 R (cm R c)) → v ∈ ocf (tp (cutR R)) (mf0 R (cm R c)) (ml0 R (cm R c)) → rn (rho c) u = rn (rho c) v → u = v) ∧
  R (910 + c) = lpk (rnl (rho c) (LIn R (cm R c))) ∧ R (950 + c) = lpk (rnl (rho c) (LOt R (cm R c))) ∧ sl_rg (rho c) ∧ ((LIn R (cm R c)).length : Int) + 1 + (LOt R (cm R c)).length ≤ wt (tp (cutR R)) (tp (cutR R) 3 (cz R c)).toNat - wt (tp (cutR R)) (ca R c).toNat ∧ (∀ e, (e = 2 ∨ e = 4) → iand (R (768 + cm R c)) e ≠ 0 → la (tp (cutR R)) 0 40 (cutR R (81 + ca R c)) ≠ -1) ∧ CallOK (tp (cutR R)) (ca R c) (cz R c) (rnl (rho c) (LIn R (cm R c))) (rnl (rho c) (LOt R (cm R c)))
/-- the spans of calls have nothing in common -/
def Dj (R : Int → Int) : Prop := ∀ c d, 0 ≤ c → c < R 789 → 0 ≤ d → d < R 789 → c ≠ d → tp (cutR R) 3 (cz R c) ≤ ca R d ∨ tp (cutR R) 3 (cz R d) ≤ ca R c
def Good (R rho : Int → Int) : Prop := TG (cutR R) ∧ (0 ≤ R 761 ∧ R 761 ≤ 3) ∧ (∀ m, 0 ≤ m → m < R 761 → MGm R m) ∧ (0 ≤ R 789 ∧ R 789 ≤ 40) ∧ (∀ c, 0 ≤ c → c < R 789 → CGc R rho c) ∧ Dj R
theorem cat_spec {R : Int → Int} {t : Int} : ∀ (n : Nat) (c : Int), 0 ≤ c → cat R t n c ≠ -1 → c ≤ cat R t n c ∧ cat R t n c < R 789 ∧ R (790 + cat R t n c) = t := by
  intro n
  induction n with
  | zero => intro c _ h; exact (h rfl).elim
  | succ n ih =>
    intro c h0 h
    rw [cat] at h ⊢
    by_cases c1 : R 789 ≤ c
    · rw [if_pos c1] at h; exact (h rfl).elim
    · rw [if_neg c1] at h ⊢
      by_cases c2 : R (790 + c) = t
      · rw [if_pos c2]; exact ⟨Int.le_refl _, by omega, c2⟩
      · rw [if_neg c2] at h ⊢
        have := ih (c + 1) (by omega) h
        exact ⟨by omega, this.2⟩
theorem cat_find {R : Int → Int} {t : Int} : ∀ (n : Nat) (c d : Int), 0 ≤ c → c ≤ d → d < R 789 → d - c < n → R (790 + d) = t → cat R t n c ≠ -1 := by
  intro n
  induction n with
  | zero => intro c d _ _ _ h; omega
  | succ n ih =>
    intro c d h0 h1 h2 h3 h4
    rw [cat, if_neg (by omega)]
    by_cases c2 : R (790 + c) = t
    · rw [if_pos c2]; omega
    · rw [if_neg c2]
      have : c ≠ d := fun e => c2 (by rw [e]; exact h4)
      exact ih (c + 1) d (by omega) (by omega) h2 (by omega) h4
section G
variable {R rho : Int → Int}
theorem usl_m8 {t : Int} : ∀ (n : Nat) (h a : Int), m8 a → m8 (usl R t n h a) := by
  intro n
  induction n with
  | zero => intro h a ha; exact ha
  | succ n ih =>
    intro h a ha
    refine ih _ _ (m8_or ha ?_)
    unfold isv
    split
    · exact m8_shl (by omega)
    · exact m8_0
theorem m8_uses {t : Int} : m8 (uses R t) := usl_m8 _ _ _ m8_0
theorem ex4 {e q : Int} (he : e = 2 ∨ e = 4) (hq : q = 1 ∨ q = 8) : iand q e = 0 := by
  rcases he with rfl | rfl <;> rcases hq with rfl | rfl <;> decide +kernel
theorem TG.rdb (hT : TG R) (hc : 0 ≤ R 789 ∧ R 789 ≤ 40) : RdB R 41 (tp R) := by
  have n0 := hT.1.n0
  have e0 : tp R 0 0 = R 0 := rfl
  rw [e0] at n0
  refine ⟨hT.1, ⟨n0, hc, rfl, ⟨Int.le_refl _, n0.2⟩, fun k k0 k1 => ?_⟩, fun k k0 k1 => ?_, fun k k0 k1 => ?_⟩
  · obtain ⟨t1, t2, t3, t4, t5, t6, t7⟩ := hT.2.2.2 k k0 k1
    have k1' : k < R 0 := k1
    refine ⟨⟨k0, k1, by show k < k + 1; omega⟩, rfl, fun z => (z rfl).elim, rfl, rfl, fun _ => t1, rfl, t3, rfl, fun p p0 p1 => ?_, fun z => (t1 z).elim, fun _ => ⟨fun x x0 x1 => x1, fun _ => Int.le_refl _⟩⟩
    constructor
    · exact fun z => z.2
    · exact fun z => ⟨(hT.2.2.2 p p0 (by omega)).1, z⟩
  · obtain ⟨t1, t2, t3, t4, t5, t6, t7⟩ := hT.2.2.2 k k0 k1
    have k1' : k < R 0 := k1
    have e1 : tp R 1 k = R (1 + k) := rfl
    have e30 : tp R 30 k = k := rfl
    rw [e1, e30]
    refine ⟨by omega, t2, fun z => (t1 z).elim, ?_, fun e he => ?_, fun e he _ _ hq => ?_⟩
    · show (if R (1 + k) = 2 then (8 : Int) else _) = _
      rw [if_neg t1]
    · show (if R (1 + (16 * k + e) / 16) = 0 then ishl 1 (R (201 + (16 * k + e) / 16)) else 0) = _
      rw [show (16 * k + e) / 16 = k by omega, if_neg t1]
    · refine t5 ?_
      refine Classical.byContradiction fun q => hq ?_
      show iand (if R (1 + k) = 2 then (8 : Int) else if R (1 + k) = 3 then 2 else if R (1 + k) = 4 then 4 else 1) e = 0
      rw [if_neg (show ¬ R (1 + k) = 3 by omega), if_neg (show ¬ R (1 + k) = 4 by omega)]
      split
      · exact ex4 he (Or.inr rfl)
      · exact ex4 he (Or.inl rfl)
  · obtain ⟨t1, t2, t3, t4, t5, t6, t7⟩ := hT.2.2.2 k k0 k1
    have m22 : m8 (if R (1 + k) = 0 then ishl 1 (R (201 + k)) else 0) := by
      split
      · exact m8_shl (t2 (by assumption))
      · exact m8_0
    refine ⟨m22, m8_uses, fun e he => ?_, ?_⟩
    · show m8 (if R (1 + (16 * k + e) / 16) = 0 then ishl 1 (R (201 + (16 * k + e) / 16)) else 0)
      rw [show (16 * k + e) / 16 = k by omega]; exact m22
    · show (if R (1 + k) = 0 then ishl 1 (R (201 + k)) else 0) = (if R (1 + k) = 7 then _ else _)
      rw [if_neg t1]; rfl
theorem tp_12 {k i : Int} (hi : 0 ≤ i ∧ i < 16) : tp R 12 (16 * k + i) = R ((281 + (12 * k)) + i) := by
  show R ((281 + (12 * ((16 * k + i) / 16))) + (16 * k + i) % 16) = _
  rw [show (16 * k + i) / 16 = k by omega, show (16 * k + i) % 16 = i by omega]
theorem TG.prs (hT : TG R) : PRs R (tp R) := by
  intro k k0 k1
  obtain ⟨t1, t2, t3, t4, t5, t6, t7⟩ := hT.2.2.2 k k0 k1
  refine ⟨t3, fun _ => ⟨rfl, fun i i0 i1 => ?_, fun z => ⟨rfl, t2 z⟩⟩, fun z => (t1 z).elim⟩
  have i1' : i < R (241 + k) := i1
  exact tp_12 (by omega)
/-- the occurrences are variables -/
theorem oc_8 (hT : TG R) {k : Int} (hk : 0 ≤ k ∧ k < R 0) : ∀ v, v ∈ oc (tp R) k → 0 ≤ v ∧ v < 8 := by
  intro v hv
  unfold oc at hv
  rcases List.mem_append.mp hv with h | h
  · obtain ⟨x, _, hx⟩ := List.mem_filterMap.mp h
    unfold vo at hx
    split at hx
    · injection hx with e; omega
    · cases hx
  · by_cases c : tp R 1 k = 0
    · rw [if_pos c, List.mem_singleton] at h
      rw [h]
      exact (hT.2.2.2 k hk.1 hk.2).2.1 c
    · rw [if_neg c] at h; cases h
theorem ocs_8 (hT : TG R) : ∀ (n : Nat) (k : Int), 0 ≤ k → k + n ≤ R 0 → ∀ v, v ∈ ocs (tp R) n k → 0 ≤ v ∧ v < 8 := by
  intro n
  induction n with
  | zero => intro k _ _ v hv; cases hv
  | succ n ih =>
    intro k k0 k1 v hv
    rw [ocs] at hv
    rcases List.mem_append.mp hv with h | h
    · exact oc_8 hT ⟨k0, by omega⟩ v h
    · exact ih (k + 1) (by omega) (by omega) v h
theorem ocf_8 (hT : TG R) {f j : Int} (hs : isp (tp R) f j) : ∀ v, v ∈ ocf (tp R) f j → 0 ≤ v ∧ v < 8 := by
  have a := hT.1.af (k := j) (by have := hs.1; have := hs.2.1; omega) hs.2.2.1
  have e0 : tp R 0 0 = R 0 := rfl
  rw [e0] at a
  have := hs.1
  have := hs.2.1
  exact ocs_8 hT _ _ hs.1 (by omega)
theorem od_8 {set : Int} {L : List Int} (h : ∀ v, v ∈ L → 0 ≤ v ∧ v < 8) : ∀ v, v ∈ od set [] L → 0 ≤ v ∧ v < 8 := by
  intro v hv
  rcases (od_mem L [] v).mp hv with q | q
  · cases q
  · exact h v q.1
theorem clR_spec {t : Int} (h : clR R t ≠ -1) : 0 ≤ clR R t ∧ clR R t < R 789 ∧ R (790 + clR R t) = t := cat_spec 41 0 (by omega) h
theorem TG.spn (hT : TG (cutR R)) (hc : ∀ c, 0 ≤ c → c < R 789 → isp (tp (cutR R)) (ca R c) (cz R c)) (hd : Dj R) : Spn (tp (cutR R)) (clR R) (eR R) := by
  intro t t0 t1 ht
  obtain ⟨c0, c1, c2⟩ := clR_spec ht
  have s := hc _ c0 c1
  have ha : ca R (clR R t) = t := c2
  rw [ha] at s
  have hz := hT.1.af (k := cz R (clR R t)) (by have := s.1; have := s.2.1; omega) s.2.2.1
  have e3 : tp (cutR R) 3 (cz R (clR R t)) = eR R t := rfl
  have rg := hT.1.rgS s
  rw [e3] at hz rg
  obtain ⟨s1, s2, s3, s4, s5⟩ := s
  refine ⟨⟨by omega, hz.2⟩, fun k k0 k1 => ⟨by have := rg.2.2.2 k k0 (by omega); omega, ?_⟩, fun u u0 u1 => ?_⟩
  · by_cases q : t ≤ tp (cutR R) 2 k
    · exact Or.inl q
    · exact Or.inr (hT.1.out ⟨s1, s2, s3, s4, s5⟩ k0 (by rw [e3]; exact k1) (by omega))
  · refine Classical.byContradiction fun q => ?_
    obtain ⟨d0, d1, d2⟩ := clR_spec q
    have hb : ca R (clR R u) = u := d2
    have sz := hc _ d0 d1
    have hz2 := hT.1.af (k := cz R (clR R u)) (by have := sz.1; have := sz.2.1; omega) sz.2.2.1
    have := sz.2.1
    have dj := hd (clR R t) (clR R u) c0 c1 d0 d1 (fun e => by rw [e] at c2; omega)
    rw [e3, ha, hb] at dj
    rw [hb] at this
    omega
theorem Good.spn (h : Good R rho) : Spn (tp (cutR R)) (clR R) (eR R) := TG.spn h.1 (fun c c0 c1 => (h.2.2.2.2.1 c c0 c1).1) h.2.2.2.2.2
theorem ly_lay : Lay (tp (cutR R)) (clR R) (eR R) (ly R rho) := ⟨rfl, fun _ _ _ => rfl, fun _ _ _ => ⟨rfl, rfl, rfl, rfl, rfl⟩⟩
theorem usl_cut {t : Int} (ht : 0 ≤ t ∧ t < 40) : ∀ (n : Nat) (h a : Int), 0 ≤ h → h + n ≤ 12 → usl R t n h a = usl (cutR R) t n h a := by
  intro n
  induction n with
  | zero => intro h a _ _; rfl
  | succ n ih =>
    intro h a h0 h1
    rw [usl, usl, ih (h + 1) _ (by omega) (by omega), cutR_eq (by omega) (by omega)]
theorem uses_cut {t : Int} (ht : 0 ≤ t ∧ t < 40) (hl : 0 ≤ R (241 + t) ∧ R (241 + t) ≤ 12) : uses R t = uses (cutR R) t := by
  unfold uses
  rw [usl_cut ht _ _ _ (by omega) (by omega), cutR_eq (R := R) (j := 241 + t) (by omega) (by omega)]
theorem TG.rdc (hT : TG (cutR R)) (hc : 0 ≤ R 789 ∧ R 789 ≤ 40) : RdB R 41 (tp (cutR R)) ∧ PRs R (tp (cutR R)) := by
  have n0 := hT.1.n0
  have e0 : tp (cutR R) 0 0 = R 0 := cutR_eq (by omega) (by omega)
  rw [e0] at n0
  have e31 : ∀ k, tp (cutR R) 31 k = -1 := fun _ => rfl
  have e30 : ∀ k, tp (cutR R) 30 k = k := fun _ => rfl
  have rb := TG.rdb hT (show 0 ≤ cutR R 789 ∧ cutR R 789 ≤ 40 by rw [show cutR R 789 = 0 from if_neg (by omega)]; omega)
  have ps := hT.prs
  refine ⟨⟨hT.1, ⟨n0, hc, rfl, ⟨by rw [e0, e30]; exact Int.le_refl _, by rw [e0, e30]; exact n0.2⟩, fun k k0 k1 => ?_⟩, fun k k0 k1 => ?_, fun k k0 k1 => ?_⟩, fun k k0 k1 => ?_⟩
  · obtain ⟨t1, t2, t3, t4, t5, t6, t7⟩ := hT.2.2.2 k k0 k1
    rw [e0] at k1
    have v1 : R (1 + k) = cutR R (1 + k) := (cutR_eq (by omega) (by omega)).symm
    have v41 : R (41 + k) = cutR R (41 + k) := (cutR_eq (by omega) (by omega)).symm
    have v81 : R (81 + k) = cutR R (81 + k) := (cutR_eq (by omega) (by omega)).symm
    have v121 : R (121 + k) = cutR R (121 + k) := (cutR_eq (by omega) (by omega)).symm
    have v241 : R (241 + k) = cutR R (241 + k) := (cutR_eq (by omega) (by omega)).symm
    have vu : uses R k = uses (cutR R) k := uses_cut (by omega) (by rw [v241]; exact t3)
    rw [PRk, e30, e30, e31, v1, v41, v81, v121, v241, vu]
    refine ⟨⟨k0, k1, by omega⟩, rfl, fun z => (z rfl).elim, rfl, rfl, fun _ => t1, rfl, t3, rfl, fun p p0 p1 => ?_, fun z => (t1 z).elim, fun _ => ⟨fun x x0 x1 => x1, fun _ => Int.le_refl _⟩⟩
    constructor
    · exact fun z => z.2
    · exact fun z => ⟨(hT.2.2.2 p p0 (by show p < cutR R 0; rw [cutR_eq (by omega) (by omega)]; omega)).1, z⟩
  · have q := rb.2.2.1 k k0 k1
    obtain ⟨t1, t2, t3, t4, t5, t6, t7⟩ := hT.2.2.2 k k0 k1
    have n7 : ¬ tp (cutR R) 1 k = 7 := t1
    rw [e0] at k1
    have v201 : R (201 + k) = cutR R (201 + k) := (cutR_eq (by omega) (by omega)).symm
    rw [e30, if_neg n7] at q
    rw [e30, v201, if_neg n7]
    refine ⟨q.1, q.2.1, fun z => (n7 z).elim, q.2.2.2.1, fun e he => ?_, q.2.2.2.2.2⟩
    have := q.2.2.2.2.1 e he
    rw [if_neg n7] at this ⊢; exact this
  · have q := rb.2.2.2 k k0 k1
    obtain ⟨t1, t2, t3, t4, t5, t6, t7⟩ := hT.2.2.2 k k0 k1
    have n7 : ¬ tp (cutR R) 1 k = 7 := t1
    rw [e0] at k1
    have v201 : R (201 + k) = cutR R (201 + k) := (cutR_eq (by omega) (by omega)).symm
    rw [e30, if_neg n7] at q
    rw [e30, v201, if_neg n7]; exact q
  · have q := ps k k0 k1
    obtain ⟨t1, t2, t3, t4, t5, t6, t7⟩ := hT.2.2.2 k k0 k1
    have n7 : ¬ tp (cutR R) 1 k = 7 := t1
    rw [e0] at k1
    have v201 : R (201 + k) = cutR R (201 + k) := (cutR_eq (by omega) (by omega)).symm
    have v241 : R (241 + k) = cutR R (241 + k) := (cutR_eq (by omega) (by omega)).symm
    have e11 : tp (cutR R) 11 k = cutR R (241 + k) := rfl
    refine ⟨q.1, fun z => ⟨by rw [e30, v241]; exact e11, fun i i0 i1 => ?_, fun z0 => ?_⟩, fun z => (n7 z).elim⟩
    · rw [e11] at i1
      rw [((q.2.1 z).2.1 i i0 i1), e30, cutR_eq (by omega) (by omega)]
    · rw [e30, v201]; exact (q.2.1 z).2.2 z0
theorem MGm.li8 (hT : TG (cutR R)) {m : Int} (h : MGm R m) : ∀ v, v ∈ LIn R m → 0 ≤ v ∧ v < 8 := od_8 (ocf_8 hT h.1)
theorem MGm.lo8 (hT : TG (cutR R)) {m : Int} (h : MGm R m) : ∀ v, v ∈ LOt R m → 0 ≤ v ∧ v < 8 := od_8 (ocf_8 hT h.1)
theorem Good.rdb (h : Good R rho) : RdB R 0 (ly R rho) := by
  obtain ⟨hT, hms, hM, hcs, hC, hD⟩ := h
  have hs : Spn (tp (cutR R)) (clR R) (eR R) := TG.spn hT (fun c c0 c1 => (hC c c0 c1).1) hD
  have hL : Lay (tp (cutR R)) (clR R) (eR R) (ly R rho) := ly_lay
  have hw := hL.wf hT.1 hs
  have he := hL.end hT.1 hs
  have n0 := hT.1.n0
  have e0 : tp (cutR R) 0 0 = cutR R 0 := rfl
  rw [e0] at n0 he
  have e30 : ∀ k, ly R rho 30 k = tk R k := fun _ => rfl
  have e31 : ∀ k, ly R rho 31 k = clR R (tk R k) := fun _ => rfl
  have cl7 : ∀ k, 0 ≤ k → k < ly R rho 0 0 → (ly R rho 1 k = 7 ↔ clR R (tk R k) ≠ -1) := by
    intro k k0 k1
    have a := hL.at hT.1 hs k0 (by omega)
    have := (a.2.2.2.2 k1).1
    rw [e30, e0] at this
    rw [e30] at a
    show (if clR R (tk R k) ≠ -1 then (7 : Int) else cutR R (1 + tk R k)) = 7 ↔ _
    constructor
    · intro z q
      rw [if_neg (fun w => w q)] at z
      exact (hT.2.2.2 (tk R k) a.1 this).1 z
    · intro z; rw [if_pos z]
  refine ⟨hw, ⟨n0, hcs, rfl, ⟨by rw [he.2.2]; exact Int.le_refl _, by rw [he.2.2]; exact n0.2⟩, fun k k0 k1 => ?_⟩, fun k k0 k1 => ?_, fun k k0 k1 => ?_⟩
  · have a := hL.at hT.1 hs k0 (by omega)
    have b := a.2.2.2.2 k1
    rw [e0] at b
    have lt := hL.lt hT.1 hs k0 (show k < k + 1 by omega) (by omega)
    obtain ⟨t1, t2, t3, t4, t5, t6, t7⟩ := hT.2.2.2 (tk R k) a.1 b.1
    obtain ⟨l31, l1, l2, l3, l4⟩ := hL.2.2 k k0 k1
    have a0 : 0 ≤ tk R k := a.1
    have b0 : tk R k < cutR R 0 := b.1
    have v1 : R (1 + tk R k) = cutR R (1 + tk R k) := (cutR_eq (by omega) (by omega)).symm
    have v41 : R (41 + tk R k) = cutR R (41 + tk R k) := (cutR_eq (by omega) (by omega)).symm
    have v81 : R (81 + tk R k) = cutR R (81 + tk R k) := (cutR_eq (by omega) (by omega)).symm
    have v121 : R (121 + tk R k) = cutR R (121 + tk R k) := (cutR_eq (by omega) (by omega)).symm
    have v241 : R (241 + tk R k) = cutR R (241 + tk R k) := (cutR_eq (by omega) (by omega)).symm
    rw [PRk, e30, e31, v1, v41, v81, v121, v241]
    refine ⟨⟨a.1, b.1, lt⟩, rfl, fun z => ?_, ?_, rfl, fun z z7 => ((cl7 k k0 k1).mp z7) z, rfl, t3, ?_, fun p p0 p1 => ?_, fun z => ?_, fun z => ?_⟩
    rotate_left
    · rw [b.2, e30]
      unfold nxt
      by_cases cc : clR R (tk R k) ≠ -1
      · rw [if_pos cc, if_pos cc]
        obtain ⟨c0, c1, c2⟩ := clR_spec cc
        have s := (hC _ c0 c1).1
        have s3 : R (830 + clR R (tk R k)) < cutR R 0 := s.2.2.1
        have s1 : 0 ≤ ca R (clR R (tk R k)) := s.1
        have s2 : ca R (clR R (tk R k)) ≤ R (830 + clR R (tk R k)) := s.2.1
        exact cutR_eq (by omega) (by omega)
      · rw [if_neg cc, if_neg cc]
    · show (if clR R (tk R k) ≠ -1 then _ else _) = _
      rw [uses_cut (R := R) (by omega) (by rw [v241]; exact t3)]
    rotate_left
    rotate_left
    rotate_left
    · obtain ⟨c0, c1, c2⟩ := clR_spec z
      have s := (hC _ c0 c1).1
      have s3 : cz R (clR R (tk R k)) < cutR R 0 := s.2.2.1
      have := s.1
      have := s.2.1
      have ez : cz R (clR R (tk R k)) = R (830 + clR R (tk R k)) := rfl
      exact ⟨by omega, by omega, by omega⟩
    · have pa := hL.at hT.1 hs p0 (by omega)
      have e2 : ly R rho 2 k = ix (clR R) (eR R) (cutR R (81 + tk R k)) := rfl
      by_cases hp : 0 ≤ cutR R (81 + tk R k)
      · have up := isN_up hT.1 hs a.1 b.1 a.2.2.1 hp
        have w := hT.1.pr a.1 b.1
        have of := hL.of hT.1 hs (t := cutR R (81 + tk R k)) hp (by have : cutR R (81 + tk R k) < tk R k := w.2; have := b.1; rw [e30] at this; rw [e0]; omega) up.1
        rw [e2]
        unfold ix
        rw [if_neg (by omega)]
        constructor
        · rintro ⟨q1, q2⟩
          have : ly R rho 30 p = cutR R (81 + tk R k) := q2
          rw [← this]; exact pa.2.2.2.1.symm
        · intro q
          rw [q]
          refine ⟨?_, of.2.2.1⟩
          intro q7
          have := (cl7 _ of.1 (by rw [← q]; omega)).mp q7
          rw [← e30, of.2.2.1] at this
          exact this up.2
      · rw [e2]
        unfold ix
        rw [if_pos (by omega)]
        constructor
        · rintro ⟨q1, q2⟩
          have : ly R rho 30 p = cutR R (81 + tk R k) := q2
          have := pa.1
          omega
        · intro q; omega
    · have := (cl7 k k0 k1).mp z
      show (if clR R (tk R k) ≠ -1 then k + 1 else _) = k + 1
      rw [if_pos this]
    · have nc : ¬ clR R (tk R k) ≠ -1 := fun w => z ((cl7 k k0 k1).mpr w)
      have e3 : ly R rho 3 k = ixn (clR R) (eR R) (cutR R (41 + tk R k)).toNat := by
        show (if clR R (tk R k) ≠ -1 then k + 1 else _) = _
        rw [if_neg nc]
      have af := isN_af hT.1 hs a.1 b.1 a.2.2.1 (by omega)
      have w := hT.1.af a.1 b.1
      have of := hL.of hT.1 hs (t := cutR R (41 + tk R k)) (by have : tk R k < cutR R (41 + tk R k) := w.1; have := a.1; rw [e30] at this; omega) w.2 af
      refine ⟨fun x x0 x1 => ?_, fun x1 => ?_⟩
      · rw [e3] at x1
        have := hL.lt hT.1 hs (j := x) (k := ixn (clR R) (eR R) (cutR R (41 + tk R k)).toNat) (by omega) x1 of.2.1
        rw [of.2.2.1] at this
        exact this
      · rw [e3, of.2.2.1]
        exact Int.le_refl _
  · have a := hL.at hT.1 hs k0 (by omega)
    have b := a.2.2.2.2 k1
    rw [e0] at b
    obtain ⟨t1, t2, t3, t4, t5, t6, t7⟩ := hT.2.2.2 (tk R k) a.1 b.1
    have c7 := cl7 k k0 k1
    have E1 : ly R rho 1 k = if clR R (tk R k) ≠ -1 then 7 else cutR R (1 + tk R k) := rfl
    have up : 0 ≤ cutR R (81 + tk R k) → isN (clR R) (eR R) (cutR R (81 + tk R k)) ∧ clR R (cutR R (81 + tk R k)) = -1 := isN_up hT.1 hs a.1 b.1 a.2.2.1
    have lp := hL.loop hT.1 hs 40 (cutR R (81 + tk R k)) (by have := (hT.1.pr a.1 b.1).2; have : cutR R (81 + tk R k) < tk R k := this; have := b.1; rw [e30] at this; rw [e0]; omega) up
    have lpn : la (tp (cutR R)) 0 40 (cutR R (81 + tk R k)) ≠ -1 → la (ly R rho) 0 40 (ly R rho 2 k) ≠ -1 := by
      intro z q
      have : la (ly R rho) 0 40 (ix (clR R) (eR R) (cutR R (81 + tk R k))) = -1 := q
      rw [lp] at this
      have rg := la_rng hT.1 (f := 0) (by omega) 40 (cutR R (81 + tk R k)) (by have := (hT.1.pr a.1 b.1).2; have : cutR R (81 + tk R k) < tk R k := this; have := b.1; rw [e30] at this; rw [e0]; omega)
      unfold ix at this
      rw [if_neg (by omega)] at this
      have nn0 := (nd_ixn hs (la (tp (cutR R)) 0 40 (cutR R (81 + tk R k))).toNat (by rw [e0]; have := (hT.1.pr a.1 b.1).2; have : cutR R (81 + tk R k) < tk R k := this; have := b.1; rw [e30] at this; omega)).1
      omega
    refine ⟨by rw [e30] at *; omega, fun z => ?_, fun z => ?_, ?_, fun e he => ?_, fun e he z5 z6 hq => ?_⟩
    · have nc : ¬ clR R (tk R k) ≠ -1 := fun w => by have := c7.mpr w; omega
      rw [E1, if_neg nc] at z
      have v201 : R (201 + tk R k) = cutR R (201 + tk R k) := (cutR_eq (by rw [e30] at a; omega) (by have := a.1; rw [e30] at b; omega)).symm
      rw [e30, v201]
      exact t2 z
    · have cc := c7.mp z
      obtain ⟨c0, c1, c2⟩ := clR_spec cc
      have g := (hC _ c0 c1).2.1
      exact ⟨⟨by rw [e31]; omega, by rw [e31]; omega⟩, g.1, by have : R (870 + clR R (tk R k)) < R 761 := g.2; have := hms.2; show R (870 + clR R (tk R k)) < 3; omega⟩
    · by_cases cc : clR R (tk R k) ≠ -1
      · have := c7.mpr cc
        rw [this]
        show (if clR R (tk R k) ≠ -1 then R (768 + R (870 + clR R (tk R k))) else _) = _
        rw [if_pos cc]; rfl
      · show (if clR R (tk R k) ≠ -1 then R (768 + R (870 + clR R (tk R k))) else tp (cutR R) 20 (tk R k)) = _
        rw [if_neg cc, E1, if_neg cc, if_neg (show ¬ cutR R (1 + tk R k) = 7 from t1)]
        rfl
    · show (if clR R (tk R ((16 * k + e) / 16)) ≠ -1 then csets R (clR R (tk R ((16 * k + e) / 16))) ((16 * k + e) % 16) else tp (cutR R) 22 (tk R ((16 * k + e) / 16))) = _
      rw [show (16 * k + e) / 16 = k by omega, show (16 * k + e) % 16 = e by omega]
      by_cases cc : clR R (tk R k) ≠ -1
      · rw [if_pos cc, if_pos (c7.mpr cc)]; rfl
      · have v201 : R (201 + tk R k) = cutR R (201 + tk R k) := (cutR_eq (by rw [e30] at a; omega) (by have := a.1; rw [e30] at b; omega)).symm
        rw [if_neg cc, E1, if_neg cc, if_neg (show ¬ cutR R (1 + tk R k) = 7 from t1), e30, v201]; rfl
    · refine lpn ?_
      by_cases cc : clR R (tk R k) ≠ -1
      · obtain ⟨c0, c1, c2⟩ := clR_spec cc
        have g := (hC _ c0 c1).2.2.2.2.2.2.2.2.2.1 e he
        have ea : ca R (clR R (tk R k)) = tk R k := c2
        rw [ea] at g
        refine g ?_
        have e20 : ly R rho 20 k = R (768 + R (870 + clR R (tk R k))) := by
          show (if clR R (tk R k) ≠ -1 then R (768 + R (870 + clR R (tk R k))) else _) = _
          rw [if_pos cc]
        rw [e20] at hq; exact hq
      · refine t5 (Classical.byContradiction fun q => hq ?_)
        have e20 : ly R rho 20 k = tp (cutR R) 20 (tk R k) := by
          show (if clR R (tk R k) ≠ -1 then R (768 + R (870 + clR R (tk R k))) else _) = _
          rw [if_neg cc]
        rw [e20]
        show iand (if cutR R (1 + tk R k) = 2 then (8 : Int) else if cutR R (1 + tk R k) = 3 then 2 else if cutR R (1 + tk R k) = 4 then 4 else 1) e = 0
        rw [if_neg (show ¬ cutR R (1 + tk R k) = 3 by omega), if_neg (show ¬ cutR R (1 + tk R k) = 4 by omega)]
        split
        · exact ex4 he (Or.inr rfl)
        · exact ex4 he (Or.inl rfl)
  · have a := hL.at hT.1 hs k0 (by omega)
    have b := a.2.2.2.2 k1
    rw [e0] at b
    obtain ⟨t1, t2, t3, t4, t5, t6, t7⟩ := hT.2.2.2 (tk R k) a.1 b.1
    have c7 := cl7 k k0 k1
    have E1 : ly R rho 1 k = if clR R (tk R k) ≠ -1 then 7 else cutR R (1 + tk R k) := rfl
    have E22 : ly R rho 22 k = if clR R (tk R k) ≠ -1 then lset (R (950 + clR R (tk R k))) else tp (cutR R) 22 (tk R k) := rfl
    have E10 : ly R rho 10 k = if clR R (tk R k) ≠ -1 then lset (R (910 + clR R (tk R k))) else uses (cutR R) (tk R k) := rfl
    have m22 : m8 (tp (cutR R) 22 (tk R k)) := by
      show m8 (if cutR R (1 + tk R k) = 0 then ishl 1 (cutR R (201 + tk R k)) else 0)
      split
      · exact m8_shl (t2 (by assumption))
      · exact m8_0
    by_cases cc : clR R (tk R k) ≠ -1
    · obtain ⟨c0, c1, c2⟩ := clR_spec cc
      obtain ⟨g1, g2, g3, g4, g5, g6, g7, g8, g9, g10, g11⟩ := hC _ c0 c1
      obtain ⟨m1, m2, m3, m4, m5⟩ := hM _ g2.1 g2.2
      have l1 : (rnl (rho (clR R (tk R k))) (LIn R (cm R (clR R (tk R k))))).length = (LIn R (cm R (clR R (tk R k)))).length := List.length_map ..
      have l2 : (rnl (rho (clR R (tk R k))) (LOt R (cm R (clR R (tk R k))))).length = (LOt R (cm R (clR R (tk R k)))).length := List.length_map ..
      have mg : MGm R (cm R (clR R (tk R k))) := ⟨m1, m2, m3, m4, m5⟩
      rw [E22, E10, if_pos cc, if_pos cc, g6, g7, if_pos (c7.mpr cc)]
      refine ⟨m8_lset (by omega) rnl_8, m8_lset (by omega) rnl_8, fun e he => ?_, ?_⟩
      · show m8 (if clR R (tk R ((16 * k + e) / 16)) ≠ -1 then csets R (clR R (tk R ((16 * k + e) / 16))) ((16 * k + e) % 16) else tp (cutR R) 22 (tk R ((16 * k + e) / 16)))
        rw [show (16 * k + e) / 16 = k by omega, show (16 * k + e) % 16 = e by omega, if_pos cc]
        unfold csets
        have e774 : R (774 + R (870 + clR R (tk R k))) = lpk (LOt R (cm R (clR R (tk R k)))) := m4.1
        rw [e774, g7]
        refine m8_of (csl_rg _ _ _ _ _ _ sl_rg0) (fun v _ hv => ?_)
        cases hb : bt (csl (lpk (LOt R (cm R (clR R (tk R k))))) (lpk (rnl (rho (clR R (tk R k))) (LOt R (cm R (clR R (tk R k)))))) (ior (lset (R (771 + R (870 + clR R (tk R k))))) (R (777 + 4 * R (870 + clR R (tk R k)) + sp_place e))) (irem (lpk (LOt R (cm R (clR R (tk R k))))) 16).toNat 0 0) v
        · rfl
        · obtain ⟨x, -, -, ex⟩ := (csl_ren (by omega) (mg.lo8 hT) v).mp hb
          have := rn_rng (rho (clR R (tk R k))) x
          omega
      · rw [e31, g7]
    · rw [E22, E10, if_neg cc, if_neg cc]
      refine ⟨m22, m8_uses, fun e he => ?_, ?_⟩
      · show m8 (if clR R (tk R ((16 * k + e) / 16)) ≠ -1 then csets R (clR R (tk R ((16 * k + e) / 16))) ((16 * k + e) % 16) else tp (cutR R) 22 (tk R ((16 * k + e) / 16)))
        rw [show (16 * k + e) / 16 = k by omega, if_neg cc]; exact m22
      · have v201 : R (201 + tk R k) = cutR R (201 + tk R k) := (cutR_eq (by rw [e30] at a; omega) (by have := a.1; rw [e30] at b; omega)).symm
        rw [E1, if_neg cc, if_neg (show ¬ cutR R (1 + tk R k) = 7 from t1), e30, v201]; rfl
end G
