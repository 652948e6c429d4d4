/-! The class's state that holds what the reference's row says -/
/-- n statements from f on, by themselves -/
def sft (T : Pg) (f n : Int) : Pg := fun i k => match i with
  | 0 => n
  | 2 => if T 2 (f + k) < f then -1 else T 2 (f + k) - f
  | 3 => T 3 (f + k) - f
  | 4 => if T 2 (f + k) < f then 0 else T 4 (f + k)
  | 12 => T 12 (16 * f + k)
  | 21 => T 21 (16 * f + k)
  | i => T i (f + k)
/-- the statements of a method -/
abbrev bod (R : Int → Int) (m : Int) : Pg := sft (tp (cutR R)) (mf0 R m) (tp (cutR R) 3 (ml0 R m) - mf0 R m)
abbrev rO (s : Nat) (m : Int) : Nat := 3 * s + m.toNat
/-- a method of the class's state -/
def SRt (M : sl_M) (s : Nat) (R : Int → Int) (m : Int) : Prop := CdA M (rO s m + 30) (bod R m) ∧ M (rO s m) 0 1 = R (768 + m) ∧ M (rO s m) 0 2 = iM R m ∧ M (rO s m) 0 3 = oM R m ∧ ∀ e, e4 e → M (rO s m) 5 e = iand (ior (R (777 + 4 * m + sp_place e)) (iM R m)) (oM R m)
/-- the class's state s is the reference's row R -/
def St (M : sl_M) (s : Nat) (R rho : Int → Int) : Prop := sl_cls s = 7 ∧ Good R rho ∧ CdA M (s + 10) (ly R rho) ∧ M s 0 2 = R 761 ∧ ∀ m, 0 ≤ m → m < R 761 → SRt M s R m
section G
variable {R rho : Int → Int} {M : sl_M} {s : Nat}
theorem Good.cl7 (h : Good R rho) {k : Int} (k0 : 0 ≤ k) (k1 : k < ly R rho 0 0) : (ly R rho 1 k = 7 ↔ clR R (tk R k) ≠ -1) ∧ (0 ≤ tk R k ∧ tk R k < cutR R 0) := by
  have hT := h.1
  have hs := h.spn
  have hL : Lay (tp (cutR R)) (clR R) (eR R) (ly R rho) := ly_lay
  have a := hL.at hT.1 hs k0 (by omega)
  have b : tk R k < cutR R 0 := (a.2.2.2.2 k1).1
  have a0 : 0 ≤ tk R k := a.1
  refine ⟨?_, a0, b⟩
  show (if clR R (tk R k) ≠ -1 then (7 : Int) else cutR R (1 + tk R k)) = 7 ↔ _
  constructor
  · intro z q
    rw [if_neg (fun w => w q)] at z
    exact (hT.2.2.2 (tk R k) a0 b).1 z
  · intro z; rw [if_pos z]
theorem Good.prs (h : Good R rho) : PRs R (ly R rho) := by
  intro k k0 k1
  obtain ⟨c7, a0, b⟩ := h.cl7 k0 k1
  obtain ⟨t1, t2, t3, t4, t5, t6, t7⟩ := h.1.2.2.2 (tk R k) a0 b
  have E11 : ly R rho 11 k = if clR R (tk R k) ≠ -1 then irem (R (910 + clR R (tk R k))) 16 + 1 + irem (R (950 + clR R (tk R k))) 16 else cutR R (241 + tk R k) := rfl
  have E6 : ly R rho 6 k = if clR R (tk R k) ≠ -1 then R (870 + clR R (tk R k)) else cutR R (201 + tk R k) := rfl
  have E12 : ∀ i, 0 ≤ i → i < 16 → ly R rho 12 (16 * k + i) = if clR R (tk R k) ≠ -1 then (if i < irem (R (910 + clR R (tk R k))) 16 then 97 + nib (R (910 + clR R (tk R k))) i else if i = irem (R (910 + clR R (tk R k))) 16 then 62 else 97 + nib (R (950 + clR R (tk R k))) (i - irem (R (910 + clR R (tk R k))) 16 - 1)) else cutR R ((281 + (12 * tk R k)) + i) := by
    intro i i0 i1
    show (if clR R (tk R ((16 * k + i) / 16)) ≠ -1 then (if (16 * k + i) % 16 < irem (R (910 + clR R (tk R ((16 * k + i) / 16)))) 16 then 97 + nib (R (910 + clR R (tk R ((16 * k + i) / 16)))) ((16 * k + i) % 16) else if (16 * k + i) % 16 = irem (R (910 + clR R (tk R ((16 * k + i) / 16)))) 16 then 62 else 97 + nib (R (950 + clR R (tk R ((16 * k + i) / 16)))) ((16 * k + i) % 16 - irem (R (910 + clR R (tk R ((16 * k + i) / 16)))) 16 - 1)) else cutR R ((281 + (12 * tk R ((16 * k + i) / 16))) + (16 * k + i) % 16)) = _
    rw [show (16 * k + i) / 16 = k by omega, show (16 * k + i) % 16 = i by omega]
  have e31 : ly R rho 31 k = clR R (tk R k) := rfl
  by_cases cc : clR R (tk R k) ≠ -1
  · obtain ⟨c0, c1, c2⟩ := clR_spec cc
    obtain ⟨g1, g2, g3, g4, g5, g6, g7, g8, g9, g10, g11⟩ := h.2.2.2.2.1 _ c0 c1
    have mg := h.2.2.1 _ g2.1 g2.2
    have l1 : (rnl (rho (clR R (tk R k))) (LIn R (cm R (clR R (tk R k))))).length = (LIn R (cm R (clR R (tk R k)))).length := List.length_map ..
    have l2 : (rnl (rho (clR R (tk R k))) (LOt R (cm R (clR R (tk R k))))).length = (LOt R (cm R (clR R (tk R k)))).length := List.length_map ..
    have n1 := mg.2.2.1.2
    have n2 := mg.2.2.2.1.2
    have s1 := lpk_spec (L := rnl (rho (clR R (tk R k))) (LIn R (cm R (clR R (tk R k))))) (by omega) rnl_8
    have s2 := lpk_spec (L := rnl (rho (clR R (tk R k))) (LOt R (cm R (clR R (tk R k))))) (by omega) rnl_8
    rw [← g6] at s1
    rw [← g7] at s2
    have q1 := s1.1
    have q2 := s2.1
    have r1 : ∀ i, 0 ≤ i → i < irem (R (910 + clR R (tk R k))) 16 → 0 ≤ nib (R (910 + clR R (tk R k))) i ∧ nib (R (910 + clR R (tk R k))) i < 8 := by
      intro i i0 i1
      have := s1.2 i.toNat (by omega)
      rw [show ((i.toNat : Nat) : Int) = i by omega] at this
      rw [this]
      exact rnl_8 _ (getD_mem.mpr ⟨i.toNat, by omega, rfl⟩)
    have r2 : ∀ i, 0 ≤ i → i < irem (R (950 + clR R (tk R k))) 16 → 0 ≤ nib (R (950 + clR R (tk R k))) i ∧ nib (R (950 + clR R (tk R k))) i < 8 := by
      intro i i0 i1
      have := s2.2 i.toNat (by omega)
      rw [show ((i.toNat : Nat) : Int) = i by omega] at this
      rw [this]
      exact rnl_8 _ (getD_mem.mpr ⟨i.toNat, by omega, rfl⟩)
    rw [e31, E11, E6, if_pos cc, if_pos cc]
    refine ⟨by omega, fun z => (z (c7.mpr cc)).elim, fun _ => ⟨by omega, by omega, rfl, fun i i0 i1 => ⟨?_, r1 i i0 i1⟩, ?_, fun i i0 i1 => ⟨?_, r2 i i0 i1⟩, rfl⟩⟩
    · rw [E12 i i0 (by omega), if_pos cc, if_pos i1]
    · rw [E12 _ (by omega) (by omega), if_pos cc, if_neg (by omega), if_pos rfl]
    · rw [E12 _ (by omega) (by omega), if_pos cc, if_neg (by omega), if_neg (by omega), show irem (R (910 + clR R (tk R k))) 16 + 1 + i - irem (R (910 + clR R (tk R k))) 16 - 1 = i by omega]
  · have n40 : cutR R 0 ≤ 40 := h.1.1.n0.2
    have e30 : ly R rho 30 k = tk R k := rfl
    have v201 : R (201 + tk R k) = cutR R (201 + tk R k) := (cutR_eq (by omega) (by omega)).symm
    have v241 : R (241 + tk R k) = cutR R (241 + tk R k) := (cutR_eq (by omega) (by omega)).symm
    rw [E11, E6, if_neg cc, if_neg cc, e30, v201, v241]
    refine ⟨t3, fun _ => ⟨rfl, fun i i0 i1 => ?_, fun z => ⟨rfl, t2 ?_⟩⟩, fun z => (cc (c7.mp z)).elim⟩
    · rw [E12 i i0 (by omega), if_neg cc]; exact cutR_eq (by omega) (by omega)
    · have E1 : ly R rho 1 k = if clR R (tk R k) ≠ -1 then 7 else cutR R (1 + tk R k) := rfl
      rw [E1, if_neg cc] at z; exact z
theorem Good.rda (h : Good R rho) : RdA R (ly R rho) (tp (cutR R)) := ⟨h.rdb, (TG.rdc h.1 h.2.2.2.1).1, h.prs⟩
/-- the sets of a method and its lists -/
theorem MGm.im (hT : TG (cutR R)) {m : Int} (h : MGm R m) (v : Nat) : bt (iM R m) v = true ↔ (v : Int) ∈ LIn R m := by
  have e : iM R m = lset (lpk (LIn R m)) := congrArg lset h.2.2.1.1
  have x := lset_bt h.2.2.1.2 (h.li8 hT) v
  rw [← e] at x; exact x
theorem MGm.om (hT : TG (cutR R)) {m : Int} (h : MGm R m) (v : Nat) : bt (oM R m) v = true ↔ (v : Int) ∈ LOt R m := by
  have e : oM R m = lset (lpk (LOt R m)) := congrArg lset h.2.2.2.1.1
  have x := lset_bt (by have := h.2.2.2.1.2; omega) (h.lo8 hT) v
  rw [← e] at x; exact x
theorem MGm.im8 (hT : TG (cutR R)) {m : Int} (h : MGm R m) : m8 (iM R m) := by
  have e : iM R m = lset (lpk (LIn R m)) := congrArg lset h.2.2.1.1
  rw [e]; exact m8_lset h.2.2.1.2 (h.li8 hT)
theorem MGm.om8 (hT : TG (cutR R)) {m : Int} (h : MGm R m) : m8 (oM R m) := by
  have e : oM R m = lset (lpk (LOt R m)) := congrArg lset h.2.2.2.1.1
  rw [e]; exact m8_lset (by have := h.2.2.2.1.2; omega) (h.lo8 hT)
theorem MGm.pi (hT : TG (cutR R)) {m : Int} (h : MGm R m) : pcn (iM R m) = (LIn R m).length := pcn_len (od_nodup _ _ List.nodup_nil) (h.li8 hT) (fun v _ => h.im hT v)
theorem MGm.po (hT : TG (cutR R)) {m : Int} (h : MGm R m) : pcn (oM R m) = (LOt R m).length := pcn_len (od_nodup _ _ List.nodup_nil) (h.lo8 hT) (fun v _ => h.om hT v)
/-- what a call sets, in the class's words -/
theorem csets_rset (hG : Good R rho) {c : Int} (hc : 0 ≤ c ∧ c < R 789) {e : Int} : csets R c e = rset (rho c) (iand (ior (R (777 + 4 * cm R c + sp_place e)) (iM R (cm R c))) (oM R (cm R c))) := by
  obtain ⟨g1, g2, g3, g4, g5, g6, g7, g8, g9, g10, g11⟩ := hG.2.2.2.2.1 _ hc.1 hc.2
  have mg := hG.2.2.1 _ g2.1 g2.2
  have n2 := mg.2.2.2.1.2
  have e774 : R (774 + R (870 + c)) = lpk (LOt R (cm R c)) := mg.2.2.2.1.1
  have key : ∀ w : Nat, bt (csets R c e) w = true ↔ ∃ v, v ∈ LOt R (cm R c) ∧ bt (ior (lset (R (771 + R (870 + c)))) (R (777 + 4 * R (870 + c) + sp_place e))) v.toNat = true ∧ rn (rho c) v = w := by
    intro w
    unfold csets
    rw [e774, g7]
    exact csl_ren (by omega) (mg.lo8 hG.1) w
  have hm : m8 (csets R c e) := by
    refine m8_of (csl_rg _ _ _ _ _ _ sl_rg0) (fun v _ hv => ?_)
    cases hb : bt (csets R c e) v
    · rfl
    · obtain ⟨x, -, -, ex⟩ := (key v).mp hb
      have := rn_rng (rho c) x
      omega
  refine m8_ext hm (m8_rset _ _) (fun w _ => bt_iffT ?_)
  rw [key w, rset_bt]
  constructor
  · rintro ⟨v, hv, hb, ev⟩
    have v8 := mg.lo8 hG.1 v hv
    refine ⟨v, v8.1, v8.2, ?_, ev⟩
    rw [bt_iand, bt_ior, Bool.and_eq_true]
    rw [bt_ior] at hb
    refine ⟨by rw [Bool.or_comm]; exact hb, ?_⟩
    rw [mg.om hG.1, show ((v.toNat : Nat) : Int) = v by omega]; exact hv
  · rintro ⟨x, x0, x1, hb, ev⟩
    rw [bt_iand, bt_ior, Bool.and_eq_true, mg.om hG.1, show ((x.toNat : Nat) : Int) = x by omega] at hb
    refine ⟨x, hb.2, ?_, ev⟩
    rw [bt_ior, Bool.or_comm]; exact hb.1
theorem St.stf (h : St M s R rho) : StF M s (ly R rho) := by
  obtain ⟨hs, hG, hC, h2, hR⟩ := h
  have rb := hG.rdb
  refine ⟨hs, hC.2.1, by have := hG.2.1; omega, fun k k0 k1 => ?_⟩
  obtain ⟨c7, a0, b⟩ := hG.cl7 k0 k1
  obtain ⟨d1, d2, d3, d4, d5, d6, d7, d8, d9⟩ := hC.2.2.1 k k0 k1
  obtain ⟨p1, p2, p3, p4, p5, p6⟩ := rb.2.2.1 k k0 k1
  obtain ⟨w1, w2, w3, w4⟩ := rb.2.2.2 k k0 k1
  have E6 : ly R rho 6 k = if clR R (tk R k) ≠ -1 then R (870 + clR R (tk R k)) else cutR R (201 + tk R k) := rfl
  have e30 : ly R rho 30 k = tk R k := rfl
  have e31 : ly R rho 31 k = clR R (tk R k) := rfl
  have E7 : ly R rho 7 k = if clR R (tk R k) ≠ -1 then rho (clR R (tk R k)) else 16434824 := rfl
  have n6 : ly R rho 1 k = 7 → M (s + 10) 6 k = cm R (clR R (tk R k)) ∧ (0 ≤ clR R (tk R k) ∧ clR R (tk R k) < R 789) ∧ M (s + 10) 7 k = rho (clR R (tk R k)) ∧ ro M s k = rO s (cm R (clR R (tk R k))) := by
    intro z
    have cc := c7.mp z
    have cs := clR_spec cc
    have e6 : M (s + 10) 6 k = cm R (clR R (tk R k)) := by rw [d6 z, E6, if_pos cc]
    refine ⟨e6, ⟨cs.1, cs.2.1⟩, by rw [d9, E7, if_pos cc], ?_⟩
    unfold ro; rw [e6]
  have n0 : ly R rho 1 k = 0 → M (s + 10) 6 k = R (201 + ly R rho 30 k) := by
    intro z
    have nc : ¬ clR R (tk R k) ≠ -1 := fun w => by have := c7.mpr w; omega
    have n40 : cutR R 0 ≤ 40 := hG.1.1.n0.2
    rw [(d5 z).1, E6, if_neg nc, e30]
    exact cutR_eq (by omega) (by omega)
  refine ⟨⟨d8, w2⟩, fun z => ?_, fun z => by rw [(d5 z).1]; exact (d5 z).2, ?_, fun e he => ?_, ?_⟩
  · obtain ⟨q1, q2, q3, q4⟩ := n6 z
    rw [q1, h2]
    exact (hG.2.2.2.2.1 _ q2.1 q2.2).2.1
  · rw [p4]
    by_cases z : ly R rho 1 k = 7
    · obtain ⟨q1, q2, q3, q4⟩ := n6 z
      have g2 := (hG.2.2.2.2.1 _ q2.1 q2.2).2.1
      rw [z, q4, (hR _ g2.1 g2.2).2.1, e31]
    · rw [if_neg (show ¬ ly R rho 1 k = 7 from z), if_neg (show ¬ ly R rho 1 k = 7 from z)]
  · rw [p5 e he]
    by_cases z : ly R rho 1 k = 7
    · obtain ⟨q1, q2, q3, q4⟩ := n6 z
      have g2 := (hG.2.2.2.2.1 _ q2.1 q2.2).2.1
      rw [if_pos z, if_pos z, q3, q4, (hR _ g2.1 g2.2).2.2.2.2 e he, e31]
      exact csets_rset hG q2
    · rw [if_neg z, if_neg z]
      by_cases z0 : ly R rho 1 k = 0
      · rw [if_pos z0, if_pos z0, n0 z0]
      · rw [if_neg z0, if_neg z0]
  · rw [w4]
    by_cases z : ly R rho 1 k = 7
    · obtain ⟨q1, q2, q3, q4⟩ := n6 z
      obtain ⟨g1, g2, g3, g4, g5, g6, g7, g8, g9, g10, g11⟩ := hG.2.2.2.2.1 _ q2.1 q2.2
      have mg := hG.2.2.1 _ g2.1 g2.2
      rw [if_pos z, if_pos z, q3, q4, (hR _ g2.1 g2.2).2.2.2.1, e31, g7]
      exact lset_ren (by have := mg.2.2.2.1.2; omega) (mg.lo8 hG.1) (fun v _ => mg.om hG.1 v)
    · rw [if_neg z, if_neg z]
      by_cases z0 : ly R rho 1 k = 0
      · rw [if_pos z0, if_pos z0, n0 z0]
      · rw [if_neg z0, if_neg z0]
/-- the state's cells and those of its methods -/
def StA (s o : Nat) : Prop := o = s ∨ o = s + 10 ∨ (3 * s ≤ o ∧ o < 3 * s + 3) ∨ (3 * s + 30 ≤ o ∧ o < 3 * s + 33)
theorem St.frame {N : sl_M} (h : St M s R rho) (hN : ∀ o i j, StA s o → N o i j = M o i j) : St N s R rho := by
  obtain ⟨hs, hG, hC, h2, hR⟩ := h
  refine ⟨hs, hG, hC.frame (fun i j => hN _ i j (Or.inr (Or.inl rfl))), by rw [hN _ _ _ (Or.inl rfl)]; exact h2, fun m m0 m1 => ?_⟩
  obtain ⟨r1, r2, r3, r4, r5⟩ := hR m m0 m1
  have := hG.2.1
  have f1 : ∀ i j, N (rO s m + 30) i j = M (rO s m + 30) i j := fun i j => hN _ i j (by unfold StA rO; omega)
  have f0 : ∀ i j, N (rO s m) i j = M (rO s m) i j := fun i j => hN _ i j (by unfold StA rO; omega)
  exact ⟨r1.frame f1, by rw [f0]; exact r2, by rw [f0]; exact r3, by rw [f0]; exact r4, fun e he => by rw [f0]; exact r5 e he⟩
end G
