/-! Lists of variables -/
theorem stp_mem {set a v : Int} {acc : List Int} : v ∈ stp set acc a ↔ v ∈ acc ∨ (v = a ∧ bt set a.toNat = true) := by
  unfold stp
  by_cases c : bt set a.toNat = true ∧ a ∉ acc
  · rw [if_pos c, List.mem_append, List.mem_singleton]
    constructor
    · rintro (h | h)
      · exact Or.inl h
      · exact Or.inr ⟨h, c.1⟩
    · rintro (h | h)
      · exact Or.inl h
      · exact Or.inr h.1
  · rw [if_neg c]
    constructor
    · exact fun h => Or.inl h
    · rintro (h | ⟨h, hb⟩)
      · exact h
      · refine Classical.byContradiction fun q => c ⟨hb, ?_⟩
        rw [← h]; exact q
theorem od_mem {set : Int} : ∀ (L acc : List Int) (v : Int), v ∈ od set acc L ↔ v ∈ acc ∨ (v ∈ L ∧ bt set v.toNat = true) := by
  intro L
  induction L with
  | nil => intro acc v; simp [od]
  | cons a t ih =>
    intro acc v
    rw [show od set acc (a :: t) = od set (stp set acc a) t from rfl, ih, stp_mem, List.mem_cons]
    constructor
    · rintro ((h | ⟨h, hb⟩) | ⟨h, hb⟩)
      · exact Or.inl h
      · exact Or.inr ⟨Or.inl h, by rw [h]; exact hb⟩
      · exact Or.inr ⟨Or.inr h, hb⟩
    · rintro (h | ⟨h | h, hb⟩)
      · exact Or.inl (Or.inl h)
      · exact Or.inl (Or.inr ⟨h, by rw [← h]; exact hb⟩)
      · exact Or.inr ⟨h, hb⟩
theorem stp_nodup {set a : Int} {acc : List Int} (h : acc.Nodup) : (stp set acc a).Nodup := by
  unfold stp
  by_cases c : bt set a.toNat = true ∧ a ∉ acc
  · rw [if_pos c, List.nodup_append]
    refine ⟨h, by simp, fun x hx y hy => ?_⟩
    rw [List.mem_singleton] at hy
    rintro rfl
    rw [hy] at hx
    exact c.2 hx
  · rw [if_neg c]; exact h
theorem od_nodup {set : Int} : ∀ (L acc : List Int), acc.Nodup → (od set acc L).Nodup := by
  intro L
  induction L with
  | nil => intro acc h; exact h
  | cons a t ih => intro acc h; exact ih _ (stp_nodup h)
/-- the length of a list without repetitions is the size of its set -/
theorem nodup_cnt : ∀ L : List Int, L.Nodup → (∀ v, v ∈ L → 0 ≤ v ∧ v < 8) → L.length = (decide ((0 : Int) ∈ L)).toNat + (decide ((1 : Int) ∈ L)).toNat + (decide ((2 : Int) ∈ L)).toNat + (decide ((3 : Int) ∈ L)).toNat + (decide ((4 : Int) ∈ L)).toNat + (decide ((5 : Int) ∈ L)).toNat + (decide ((6 : Int) ∈ L)).toNat + (decide ((7 : Int) ∈ L)).toNat := by
  intro L
  induction L with
  | nil => intro _ _; rfl
  | cons a t ih =>
    intro hn h8
    rw [List.nodup_cons] at hn
    have i := ih hn.2 (fun v hv => h8 v (List.mem_cons_of_mem _ hv))
    have ha := h8 a (List.mem_cons_self ..)
    have na := hn.1
    rw [List.length_cons, i]
    have key : ∀ x : Int, (decide (x ∈ a :: t)).toNat = (decide (x ∈ t)).toNat + (if x = a then 1 else 0) := by
      intro x
      by_cases e : x = a
      · subst e
        rw [if_pos rfl, decide_eq_true (List.mem_cons_self ..), decide_eq_false na]; rfl
      · rw [if_neg e]
        by_cases m : x ∈ t
        · rw [decide_eq_true m, decide_eq_true (List.mem_cons_of_mem _ m)]; rfl
        · rw [decide_eq_false m, decide_eq_false (fun w => by rcases List.mem_cons.mp w with w | w; exact e w; exact m w)]; rfl
    rw [key 0, key 1, key 2, key 3, key 4, key 5, key 6, key 7]
    have : a = 0 ∨ a = 1 ∨ a = 2 ∨ a = 3 ∨ a = 4 ∨ a = 5 ∨ a = 6 ∨ a = 7 := by omega
    rcases this with e | e | e | e | e | e | e | e <;> subst e <;> simp <;> omega
theorem pcn_len {m : Int} {L : List Int} (hn : L.Nodup) (h8 : ∀ v, v ∈ L → 0 ≤ v ∧ v < 8) (hm : ∀ v : Nat, v < 8 → (bt m v = true ↔ (v : Int) ∈ L)) : pcn m = L.length := by
  have e : ∀ v : Nat, v < 8 → bt m v = decide ((v : Int) ∈ L) := fun v hv => bt_iffT ((hm v hv).trans decide_eq_true_iff.symm)
  rw [nodup_cnt L hn h8]
  unfold pcn
  rw [e 0 (by omega), e 1 (by omega), e 2 (by omega), e 3 (by omega), e 4 (by omega), e 5 (by omega), e 6 (by omega), e 7 (by omega)]
  rfl
theorem lp_dec4' : ∀ m : Nat, m < 64 → ∀ k : Nat, k < 64 → irem (lpk [((m % 8 : Nat) : Int), ((m / 8 : Nat) : Int), ((k % 8 : Nat) : Int), ((k / 8 : Nat) : Int)]) 16 = 4 ∧ nib (lpk [((m % 8 : Nat) : Int), ((m / 8 : Nat) : Int), ((k % 8 : Nat) : Int), ((k / 8 : Nat) : Int)]) 0 = ((m % 8 : Nat) : Int) ∧ nib (lpk [((m % 8 : Nat) : Int), ((m / 8 : Nat) : Int), ((k % 8 : Nat) : Int), ((k / 8 : Nat) : Int)]) 1 = ((m / 8 : Nat) : Int) ∧ nib (lpk [((m % 8 : Nat) : Int), ((m / 8 : Nat) : Int), ((k % 8 : Nat) : Int), ((k / 8 : Nat) : Int)]) 2 = ((k % 8 : Nat) : Int) ∧ nib (lpk [((m % 8 : Nat) : Int), ((m / 8 : Nat) : Int), ((k % 8 : Nat) : Int), ((k / 8 : Nat) : Int)]) 3 = ((k / 8 : Nat) : Int) := by decide +kernel
theorem lp_dec4 (a : Nat) (ha : a < 8) (b : Nat) (hb : b < 8) (c : Nat) (hc : c < 8) (d : Nat) (hd : d < 8) : irem (lpk [(a : Int), b, c, d]) 16 = 4 ∧ nib (lpk [(a : Int), b, c, d]) 0 = a ∧ nib (lpk [(a : Int), b, c, d]) 1 = b ∧ nib (lpk [(a : Int), b, c, d]) 2 = c ∧ nib (lpk [(a : Int), b, c, d]) 3 = d := by
  have h := lp_dec4' (a + 8 * b) (by omega) (c + 8 * d) (by omega)
  rw [show (a + 8 * b) % 8 = a by omega, show (a + 8 * b) / 8 = b by omega, show (c + 8 * d) % 8 = c by omega, show (c + 8 * d) / 8 = d by omega] at h
  exact h
theorem lp_dec3 : ∀ a : Nat, a < 8 → ∀ b : Nat, b < 8 → ∀ c : Nat, c < 8 → irem (lpk [(a : Int), b, c]) 16 = 3 ∧ nib (lpk [(a : Int), b, c]) 0 = a ∧ nib (lpk [(a : Int), b, c]) 1 = b ∧ nib (lpk [(a : Int), b, c]) 2 = c := by decide +kernel
theorem lp_dec2 : ∀ a : Nat, a < 8 → ∀ b : Nat, b < 8 → irem (lpk [(a : Int), b]) 16 = 2 ∧ nib (lpk [(a : Int), b]) 0 = a ∧ nib (lpk [(a : Int), b]) 1 = b := by decide +kernel
theorem lp_dec1 : ∀ a : Nat, a < 8 → irem (lpk [(a : Int)]) 16 = 1 ∧ nib (lpk [(a : Int)]) 0 = a := by decide +kernel
theorem lp_dec0 : irem (lpk []) 16 = 0 := by decide +kernel
theorem lpk_spec : ∀ {L : List Int}, L.length ≤ 4 → (∀ v, v ∈ L → 0 ≤ v ∧ v < 8) → irem (lpk L) 16 = L.length ∧ ∀ i : Nat, i < L.length → nib (lpk L) i = L.getD i 0
  | [], _, _ => ⟨lp_dec0, fun i hi => by simp at hi⟩
  | [a], _, h8 => by
    have ha := h8 a (by simp)
    have d := lp_dec1 a.toNat (by omega)
    rw [show ((a.toNat : Nat) : Int) = a by omega] at d
    refine ⟨d.1, fun i hi => ?_⟩
    simp at hi; subst hi; exact d.2
  | [a, b], _, h8 => by
    have ha := h8 a (by simp)
    have hb := h8 b (by simp)
    have d := lp_dec2 a.toNat (by omega) b.toNat (by omega)
    rw [show ((a.toNat : Nat) : Int) = a by omega, show ((b.toNat : Nat) : Int) = b by omega] at d
    refine ⟨d.1, fun i hi => ?_⟩
    simp at hi
    have : i = 0 ∨ i = 1 := by omega
    rcases this with rfl | rfl
    · exact d.2.1
    · exact d.2.2
  | [a, b, c], _, h8 => by
    have ha := h8 a (by simp)
    have hb := h8 b (by simp)
    have hc := h8 c (by simp)
    have d := lp_dec3 a.toNat (by omega) b.toNat (by omega) c.toNat (by omega)
    rw [show ((a.toNat : Nat) : Int) = a by omega, show ((b.toNat : Nat) : Int) = b by omega, show ((c.toNat : Nat) : Int) = c by omega] at d
    refine ⟨d.1, fun i hi => ?_⟩
    simp at hi
    have : i = 0 ∨ i = 1 ∨ i = 2 := by omega
    rcases this with rfl | rfl | rfl
    · exact d.2.1
    · exact d.2.2.1
    · exact d.2.2.2
  | [a, b, c, e], _, h8 => by
    have ha := h8 a (by simp)
    have hb := h8 b (by simp)
    have hc := h8 c (by simp)
    have he := h8 e (by simp)
    have d := lp_dec4 a.toNat (by omega) b.toNat (by omega) c.toNat (by omega) e.toNat (by omega)
    rw [show ((a.toNat : Nat) : Int) = a by omega, show ((b.toNat : Nat) : Int) = b by omega, show ((c.toNat : Nat) : Int) = c by omega, show ((e.toNat : Nat) : Int) = e by omega] at d
    refine ⟨d.1, fun i hi => ?_⟩
    simp at hi
    have : i = 0 ∨ i = 1 ∨ i = 2 ∨ i = 3 := by omega
    rcases this with rfl | rfl | rfl | rfl
    · exact d.2.1
    · exact d.2.2.1
    · exact d.2.2.2.1
    · exact d.2.2.2.2
  | a :: b :: c :: d :: e :: t, h, _ => by simp at h
theorem lsl_bt {L : List Int} (h4 : L.length ≤ 4) (h8 : ∀ v, v ∈ L → 0 ≤ v ∧ v < 8) : ∀ (n h : Nat) (a : Int), h + n = L.length → ∀ w : Nat, (bt (lsl (lpk L) n h a) w = true ↔ (bt a w = true ∨ ∃ i : Nat, h ≤ i ∧ i < L.length ∧ L.getD i 0 = w)) := by
  intro n
  induction n with
  | zero =>
    intro h a hn w
    rw [lsl]
    constructor
    · exact fun z => Or.inl z
    · rintro (z | ⟨i, i1, i2, _⟩)
      · exact z
      · omega
  | succ n ih =>
    intro h a hn w
    have sp := (lpk_spec h4 h8).2 h (by omega)
    have hm : L.getD h 0 ∈ L := by
      rw [List.getD_eq_getElem?_getD, List.getElem?_eq_getElem (by omega)]
      exact List.getElem_mem _
    have hr := h8 _ hm
    rw [lsl, show ((h : Int) + 1) = ((h + 1 : Nat) : Int) by omega, ih (h + 1) _ (by omega) w, bt_ior, sp, bt_shl hr, Bool.or_eq_true, decide_eq_true_iff]
    constructor
    · rintro ((z | z) | ⟨i, i1, i2, i3⟩)
      · exact Or.inl z
      · exact Or.inr ⟨h, Nat.le_refl _, by omega, z.symm⟩
      · exact Or.inr ⟨i, by omega, i2, i3⟩
    · rintro (z | ⟨i, i1, i2, i3⟩)
      · exact Or.inl (Or.inl z)
      · by_cases e : i = h
        · subst e; exact Or.inl (Or.inr i3.symm)
        · exact Or.inr ⟨i, by omega, i2, i3⟩
theorem getD_mem {L : List Int} {v : Int} : v ∈ L ↔ ∃ i : Nat, i < L.length ∧ L.getD i 0 = v := by
  constructor
  · intro h
    obtain ⟨i, hi, e⟩ := List.getElem_of_mem h
    exact ⟨i, hi, by rw [List.getD_eq_getElem?_getD, List.getElem?_eq_getElem hi]; exact e⟩
  · rintro ⟨i, hi, e⟩
    rw [List.getD_eq_getElem?_getD, List.getElem?_eq_getElem hi] at e
    rw [← e]
    exact List.getElem_mem _
theorem lset_bt {L : List Int} (h4 : L.length ≤ 4) (h8 : ∀ v, v ∈ L → 0 ≤ v ∧ v < 8) (w : Nat) : bt (lset (lpk L)) w = true ↔ (w : Int) ∈ L := by
  unfold lset
  have sp := lpk_spec h4 h8
  rw [sp.1, show ((L.length : Nat) : Int).toNat = L.length by omega]
  refine (lsl_bt h4 h8 L.length 0 0 (by omega) w).trans ?_
  rw [bt_0, getD_mem]
  constructor
  · rintro (z | ⟨i, _, i2, i3⟩)
    · cases z
    · exact ⟨i, i2, i3⟩
  · rintro ⟨i, i2, i3⟩
    exact Or.inr ⟨i, by omega, i2, i3⟩
theorem lsl_rg (x : Int) : ∀ (n : Nat) (h a : Int), sl_rg a → sl_rg (lsl x n h a) := by
  intro n
  induction n with
  | zero => intro h a ha; exact ha
  | succ n ih => intro h a _; exact ih _ _ (rg_ior _ _)
theorem m8_lset {L : List Int} (h4 : L.length ≤ 4) (h8 : ∀ v, v ∈ L → 0 ≤ v ∧ v < 8) : m8 (lset (lpk L)) := by
  refine m8_of (lsl_rg _ _ _ _ sl_rg0) (fun v _ hv => ?_)
  cases h : bt (lset (lpk L)) v
  · rfl
  · have := h8 _ ((lset_bt h4 h8 v).mp h)
    omega
theorem csl_bt {L K : List Int} (h4 : L.length ≤ 4) (h8 : ∀ v, v ∈ L → 0 ≤ v ∧ v < 8) (hk : K.length = L.length) (k8 : ∀ v, v ∈ K → 0 ≤ v ∧ v < 8) {sr : Int} : ∀ (n h : Nat) (a : Int), h + n = L.length → ∀ w : Nat, (bt (csl (lpk L) (lpk K) sr n h a) w = true ↔ (bt a w = true ∨ ∃ i : Nat, h ≤ i ∧ i < L.length ∧ bt sr (L.getD i 0).toNat = true ∧ K.getD i 0 = w)) := by
  intro n
  induction n with
  | zero =>
    intro h a hn w
    rw [csl]
    constructor
    · exact fun z => Or.inl z
    · rintro (z | ⟨i, i1, i2, _⟩)
      · exact z
      · omega
  | succ n ih =>
    intro h a hn w
    have sp := (lpk_spec h4 h8).2 h (by omega)
    have sk := (lpk_spec (L := K) (by omega) k8).2 h (by omega)
    have hr := h8 _ (getD_mem.mpr ⟨h, by omega, rfl⟩)
    have kr := k8 _ (getD_mem.mpr ⟨h, by omega, rfl⟩)
    rw [csl, show ((h : Int) + 1) = ((h + 1 : Nat) : Int) by omega, ih (h + 1) _ (by omega) w, bt_ior, sp, sk, Bool.or_eq_true]
    have hb : (bt (if iand (ishr sr (L.getD h 0)) 1 = 1 then ishl 1 (K.getD h 0) else 0) w = true) ↔ (bt sr (L.getD h 0).toNat = true ∧ K.getD h 0 = w) := by
      by_cases c : iand (ishr sr (L.getD h 0)) 1 = 1
      · rw [if_pos c, bt_shl kr, decide_eq_true_iff]
        have := (has1 (m := sr) (k := L.getD h 0) (by omega)).mp c
        constructor
        · exact fun z => ⟨this, z.symm⟩
        · exact fun z => z.2.symm
      · rw [if_neg c, bt_0]
        constructor
        · intro z; cases z
        · intro z; exact (c ((has1 (by omega)).mpr z.1)).elim
    rw [hb]
    constructor
    · rintro ((z | z) | ⟨i, i1, i2, i3⟩)
      · exact Or.inl z
      · exact Or.inr ⟨h, Nat.le_refl _, by omega, z⟩
      · exact Or.inr ⟨i, by omega, i2, i3⟩
    · rintro (z | ⟨i, i1, i2, i3⟩)
      · exact Or.inl (Or.inl z)
      · by_cases e : i = h
        · subst e; exact Or.inl (Or.inr i3)
        · exact Or.inr ⟨i, by omega, i2, i3⟩
theorem csl_rg (x y sr : Int) : ∀ (n : Nat) (h a : Int), sl_rg a → sl_rg (csl x y sr n h a) := by
  intro n
  induction n with
  | zero => intro h a ha; exact ha
  | succ n ih => intro h a _; exact ih _ _ (rg_ior _ _)
/-- a list whose variables are renamed -/
abbrev rnl (r : Int) (L : List Int) : List Int := L.map (rn r)
theorem rnl_8 {r : Int} {L : List Int} : ∀ v, v ∈ rnl r L → 0 ≤ v ∧ v < 8 := by
  intro v hv
  obtain ⟨x, _, rfl⟩ := List.mem_map.mp hv
  exact rn_rng r x
theorem csl_ren {r : Int} {L : List Int} (h4 : L.length ≤ 4) (h8 : ∀ v, v ∈ L → 0 ≤ v ∧ v < 8) {sr : Int} (w : Nat) : bt (csl (lpk L) (lpk (rnl r L)) sr (irem (lpk L) 16).toNat 0 0) w = true ↔ ∃ v, v ∈ L ∧ bt sr v.toNat = true ∧ rn r v = w := by
  have sp := lpk_spec h4 h8
  have hl : (rnl r L).length = L.length := List.length_map ..
  have := csl_bt (L := L) (K := rnl r L) h4 h8 hl rnl_8 (sr := sr) L.length 0 0 (by omega) w
  rw [sp.1, show ((L.length : Nat) : Int).toNat = L.length by omega]
  refine this.trans ?_
  rw [bt_0]
  have g : ∀ i : Nat, i < L.length → (rnl r L).getD i 0 = rn r (L.getD i 0) := by
    intro i hi
    rw [List.getD_eq_getElem?_getD, List.getD_eq_getElem?_getD, List.getElem?_map, List.getElem?_eq_getElem hi]; rfl
  constructor
  · rintro (z | ⟨i, _, i2, i3, i4⟩)
    · cases z
    · rw [g i i2] at i4
      exact ⟨_, getD_mem.mpr ⟨i, i2, rfl⟩, i3, i4⟩
  · rintro ⟨v, hv, hb, e⟩
    obtain ⟨i, hi, rfl⟩ := getD_mem.mp hv
    exact Or.inr ⟨i, by omega, hi, hb, by rw [g i hi]; exact e⟩
theorem lset_ren {r m : Int} {L : List Int} (h4 : L.length ≤ 4) (h8 : ∀ v, v ∈ L → 0 ≤ v ∧ v < 8) (hm : ∀ v : Nat, v < 8 → (bt m v = true ↔ (v : Int) ∈ L)) : lset (lpk (rnl r L)) = rset r m := by
  have hl : (rnl r L).length = L.length := List.length_map ..
  refine m8_ext (m8_lset (by omega) rnl_8) (m8_rset _ _) (fun w _ => bt_iffT ?_)
  rw [lset_bt (by omega) rnl_8, rset_bt, List.mem_map]
  constructor
  · rintro ⟨x, hx, e⟩
    have := h8 x hx
    exact ⟨x, this.1, this.2, (hm x.toNat (by omega)).mpr (by rw [show ((x.toNat : Nat) : Int) = x by omega]; exact hx), e⟩
  · rintro ⟨x, x0, x1, hb, e⟩
    refine ⟨x, ?_, e⟩
    have := (hm x.toNat (by omega)).mp hb
    rwa [show ((x.toNat : Nat) : Int) = x by omega] at this
