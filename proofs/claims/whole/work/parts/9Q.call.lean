/-! A call, abstractly; and in the reference -/
/-- the outputs are handed back, in the order of the list -/
def outL (r : Int) (Di : Int → Int) (Bi : Int) : List Int → (Int → Int) → Int → (Int → Int) × Int
  | [], D, B => (D, B)
  | u :: L, D, B => if bt Bi u.toNat = true then outL r Di Bi L (fun q => if q = rn r u then Di u else D q) (ior B (ishl 1 (rn r u))) else outL r Di Bi L D B
def OutR (r : Int) (Di : Int → Int) (Bi : Int) (D : Int → Int) (B : Int) (S : Int → Prop) (D' : Int → Int) (B' : Int) : Prop := m8 B' ∧ (∀ w : Nat, w < 8 → (bt B' w = true ↔ (bt B w = true ∨ ∃ u, S u ∧ bt Bi u.toNat = true ∧ rn r u = (w : Int)))) ∧ (∀ u, S u → bt Bi u.toNat = true → D' (rn r u) = Di u) ∧ (∀ w, (∀ u, S u → bt Bi u.toNat = true → rn r u ≠ w) → D' w = D w)
section O
variable {r Bi B : Int} {Di D : Int → Int}
theorem OutR.no (hB : m8 B) : OutR r Di Bi D B (fun _ => False) D B := ⟨hB, fun w _ => ⟨Or.inl, fun h => h.elim id (fun ⟨_, z, _⟩ => z.elim)⟩, fun _ z => z.elim, fun _ _ => rfl⟩
theorem OutR.step {S : Int → Prop} {D' : Int → Int} {B' : Int} (h : OutR r Di Bi D B S D' B') {u : Int} (hb : bt Bi u.toNat = true) (hi : ∀ a, S a → rn r a = rn r u → a = u) : OutR r Di Bi D B (fun a => S a ∨ a = u) (fun q => if q = rn r u then Di u else D' q) (ior B' (ishl 1 (rn r u))) := by
  obtain ⟨h1, h2, h3, h4⟩ := h
  have hr := rn_rng r u
  refine ⟨m8_or h1 (m8_shl hr), fun w hw => ?_, fun a ha hba => ?_, fun w hw => ?_⟩
  · rw [bt_ior, bt_shl hr, Bool.or_eq_true, decide_eq_true_eq, h2 w hw]
    constructor
    · rintro ((a | ⟨a, a1, a2, a3⟩) | a)
      · exact Or.inl a
      · exact Or.inr ⟨a, Or.inl a1, a2, a3⟩
      · exact Or.inr ⟨u, Or.inr rfl, hb, a.symm⟩
    · rintro (a | ⟨a, a1 | a1, a2, a3⟩)
      · exact Or.inl (Or.inl a)
      · exact Or.inl (Or.inr ⟨a, a1, a2, a3⟩)
      · subst a1; exact Or.inr a3.symm
  · show (if rn r a = rn r u then Di u else D' (rn r a)) = Di a
    by_cases c : rn r a = rn r u
    · rw [if_pos c]
      rcases ha with ha | ha
      · rw [hi a ha c]
      · rw [ha]
    · rw [if_neg c]
      rcases ha with ha | ha
      · exact h3 a ha hba
      · rw [ha] at c; exact (c rfl).elim
  · show (if w = rn r u then Di u else D' w) = D w
    rw [if_neg (fun z => hw u (Or.inr rfl) hb z.symm)]
    exact h4 w (fun a ha hba => hw a (Or.inl ha) hba)
theorem OutR.skip {S : Int → Prop} {D' : Int → Int} {B' : Int} (h : OutR r Di Bi D B S D' B') {u : Int} (hb : bt Bi u.toNat = false) : OutR r Di Bi D B (fun a => S a ∨ a = u) D' B' := by
  obtain ⟨h1, h2, h3, h4⟩ := h
  have no : ∀ a, a = u → bt Bi a.toNat = true → False := fun a e q => by rw [e, hb] at q; cases q
  refine ⟨h1, fun w hw => ?_, fun a ha hba => ?_, fun w hw => h4 w (fun a ha hba => hw a (Or.inl ha) hba)⟩
  · rw [h2 w hw]
    constructor
    · rintro (a | ⟨a, a1, a2, a3⟩)
      · exact Or.inl a
      · exact Or.inr ⟨a, Or.inl a1, a2, a3⟩
    · rintro (a | ⟨a, a1 | a1, a2, a3⟩)
      · exact Or.inl a
      · exact Or.inr ⟨a, a1, a2, a3⟩
      · exact (no a a1 a2).elim
  · rcases ha with ha | ha
    · exact h3 a ha hba
    · exact (no a ha hba).elim
theorem OutR.same {S S' : Int → Prop} (hS : ∀ u, bt Bi u.toNat = true → (S u ↔ S' u)) {D1 D2 : Int → Int} {B1 B2 : Int} (h : OutR r Di Bi D B S D1 B1) (h' : OutR r Di Bi D B S' D2 B2) : D1 = D2 ∧ B1 = B2 := by
  constructor
  · funext w
    by_cases c : ∃ u, S u ∧ bt Bi u.toNat = true ∧ rn r u = w
    · obtain ⟨u, u1, u2, rfl⟩ := c
      rw [h.2.2.1 u u1 u2, h'.2.2.1 u ((hS u u2).mp u1) u2]
    · rw [h.2.2.2 w (fun u u1 u2 u3 => c ⟨u, u1, u2, u3⟩), h'.2.2.2 w (fun u u1 u2 u3 => c ⟨u, (hS u u2).mpr u1, u2, u3⟩)]
  · refine m8_ext h.1 h'.1 (fun v hv => ?_)
    rw [Bool.eq_iff_iff, h.2.1 v hv, h'.2.1 v hv]
    constructor
    · rintro (a | ⟨a, a1, a2, a3⟩)
      · exact Or.inl a
      · exact Or.inr ⟨a, (hS a a2).mp a1, a2, a3⟩
    · rintro (a | ⟨a, a1, a2, a3⟩)
      · exact Or.inl a
      · exact Or.inr ⟨a, (hS a a2).mpr a1, a2, a3⟩
theorem outL_R : ∀ (L : List Int) (S : Int → Prop) (D' : Int → Int) (B' : Int), OutR r Di Bi D B S D' B' → (∀ a b, (S a ∨ a ∈ L) → (S b ∨ b ∈ L) → rn r a = rn r b → a = b) → OutR r Di Bi D B (fun a => S a ∨ a ∈ L) (outL r Di Bi L D' B').1 (outL r Di Bi L D' B').2 := by
  intro L
  induction L with
  | nil =>
    intro S D' B' h _
    have : (fun a => S a ∨ a ∈ ([] : List Int)) = S := by funext a; simp
    rw [this]; exact h
  | cons u L ih =>
    intro S D' B' h hi
    have e : (fun a => S a ∨ a ∈ u :: L) = (fun a => (S a ∨ a = u) ∨ a ∈ L) := by funext a; simp only [List.mem_cons, or_assoc]
    have hi' : ∀ a b, ((S a ∨ a = u) ∨ a ∈ L) → ((S b ∨ b = u) ∨ b ∈ L) → rn r a = rn r b → a = b := fun a b ha hb => hi a b (by simp only [List.mem_cons, ← or_assoc]; exact ha) (by simp only [List.mem_cons, ← or_assoc]; exact hb)
    rw [e]
    unfold outL
    by_cases c : bt Bi u.toNat = true
    · rw [if_pos c]
      exact ih _ _ _ (h.step c (fun a ha hr => hi a u (Or.inl ha) (Or.inr (by simp)) hr)) hi'
    · rw [if_neg c]
      exact ih _ _ _ (h.skip (by cases q : bt Bi u.toNat with | true => exact (c q).elim | false => rfl)) hi'
end O
/-- a call is done: failure, minus the exit, the frame behind -/
def wkC (R rho : Int → Int) (c : Int) (D : Int → Int) (g : Gs) : Rs := wkA (tp (cutR R)) (mf0 R (cm R c)) (tp (cutR R) 3 (ml0 R (cm R c)) - 1) (401 - g.2.1).toNat (mf0 R (cm R c)) (fun v => D (rn (rho c) v)) (iM R (cm R c)) g
def clA (R rho : Int → Int) (c : Int) (D : Int → Int) (B : Int) (g : Gs) : Rs := if (wkC R rho c D g).1 ≠ 0 then ((wkC R rho c D g).1, -1, D, B, (wkC R rho c D g).2.2.2.2) else (0, (wkC R rho c D g).2.1, (outL (rho c) (wkC R rho c D g).2.2.1 (wkC R rho c D g).2.2.2.1 (LOt R (cm R c)) D B).1, (outL (rho c) (wkC R rho c D g).2.2.1 (wkC R rho c D g).2.2.2.1 (LOt R (cm R c)) D B).2, (wkC R rho c D g).2.2.2.2)
section K
variable {l : Launch} {M : sl_M} {Q : sl_R} {rho R : Int → Int}
/-- what going through a method changes -/
def FGo (M N : sl_M) : Prop := ∀ (o i : Nat) (j : Int), ¬ (o = 1 ∧ (i = 53 ∨ i = 58 ∨ i = 62 ∨ i = 63 ∨ i = 64 ∨ (i = 0 ∧ (j = 53 ∨ j = 54 ∨ j = 55 ∨ j = 56 ∨ j = 59 ∨ j = 60 ∨ j = 31 ∨ j = 32)))) → N o i j = M o i j
theorem kX10_goesThrough (hGd : Good R rho) (hR : M 1 1 = R) (hL : LaB M 41 (tp (cutR R))) {c : Int} (hc : 0 ≤ c ∧ c < R 789) {D : Int → Int} {B : Int} {g : Gs} (hg : gI g) (hF : RFr M 51 D B) (hG : RG2 M g) (hin : ∀ v, v ∈ LIn R (cm R c) → bt B (rn (rho c) v).toNat = true)
    (hQ : ∀ N, FGo M N → RRs N 53 (wkC R rho c D g) → Q (some (vI (if (wkC R rho c D g).1 = 0 then -(wkC R rho c D g).2.1 else 0))) N) : sl_Runs l mX10_goesThrough [vR 1 0, vI c] M Q := by
  have hcg := hGd.2.2.2.2.1 c hc.1 hc.2
  have c40 := hGd.2.2.2.1
  have m3 := hGd.2.1
  have hm := hcg.2.1
  have ecm : cm R c = R (870 + c) := rfl
  have hM := hGd.2.2.1 (cm R c) hm.1 hm.2
  obtain ⟨M1, M2, ⟨M3, M4⟩, M5, M6⟩ := hM
  have hM' := hGd.2.2.1 (cm R c) hm.1 hm.2
  have l8 := hM'.li8 hGd.1
  have sp := lpk_spec M4 l8
  have sp2 := lpk_spec (L := rnl (rho c) (LIn R (cm R c))) (by rw [List.length_map]; exact M4) rnl_8
  rw [List.length_map] at sp2
  have e910 : R (910 + c) = lpk (rnl (rho c) (LIn R (cm R c))) := hcg.2.2.2.2.2.1
  have hw : WF (tp (cutR R)) := hGd.1.1
  have n0 := hw.n0
  obtain ⟨s0, s1, s2, s3, s4⟩ := M1
  have aj := hw.af (k := ml0 R (cm R c)) (by omega) s2
  have eml : ml0 R (cm R c) = R (765 + cm R c) := rfl
  have emf : mf0 R (cm R c) = R (762 + cm R c) := rfl
  have e3 : tp (cutR R) 3 (ml0 R (cm R c)) = R (41 + R (765 + cm R c)) := cutR_eq (by omega) (by omega)
  have e771 : M 1 1 (771 + cm R c) = lpk (LIn R (cm R c)) := by rw [hR]; exact M3
  have loop : ∀ (n : Nat) (h : Nat) (N : sl_M) (B' : Int), h + n = (LIn R (cm R c)).length → FGo M N → RFr N 53 (fun v => D (rn (rho c) v)) B' → m8 B' → (∀ w : Nat, bt B' w = true ↔ (w : Int) ∈ (LIn R (cm R c)).take h) → RG2 N g → sl_At l mX10_goesThrough 18 [(0, vR 1 0), (1, vI c), (2, vI (cm R c)), (3, vI (h : Int))] [] N Q := by
    intro n
    induction n with
    | zero =>
      intro h N B' hn fN rF m8B hB rG
      have eR : N 1 1 = R := by rw [← hR]; funext q; exact fN 1 1 q (by omega)
      refine vX10_goesThrough_18 fun _ _ _ _ => ⟨by omega, fun _ => ?_, fun z => ?_⟩
      · rw [eR]
        refine ⟨by omega, fun N4 e4' => ?_⟩
        have f4 : ∀ o i j, ¬ (o = 1 ∧ i = 0 ∧ j = 31) → N4 o i j = N o i j := fun o i j q => by rw [e4']; simp only [sl_wr]; rw [if_neg q]
        have eR4 : N4 1 1 = R := by rw [← eR]; funext q; exact f4 1 1 q (by omega)
        refine kX10_endOf (by omega) (by rw [eR4]; omega) ⟨_, rfl, fun N7 e7 => ?_⟩
        rw [eR4] at e7
        have f7 : ∀ o i j, ¬ (o = 1 ∧ i = 0 ∧ (j = 31 ∨ j = 32)) → N7 o i j = N o i j := fun o i j q => by rw [e7]; simp only [sl_wr]; rw [if_neg (by omega)]; exact f4 o i j (by omega)
        have h31 : N7 1 0 31 = mf0 R (cm R c) := by rw [e7]; simp only [sl_wr]; rw [if_neg (by omega), e4', sl_wr_s]
        have h32 : N7 1 0 32 = tp (cutR R) 3 (ml0 R (cm R c)) := by rw [e7, sl_wr_s, e3]
        have eR7 : N7 1 1 = R := by rw [← eR]; funext q; exact f7 1 1 q (by omega)
        have fM : FGo M N7 := fun o i j q => by rw [f7 o i j (by omega)]; exact fN o i j q
        have eB : B' = iM R (cm R c) := by
          refine m8_ext m8B ?_ (fun v hv => ?_)
          · show m8 (lset (R (771 + cm R c))); rw [M3]; exact m8_lset M4 l8
          · rw [Bool.eq_iff_iff, hB v, hM'.im hGd.1 v, List.take_of_length_le (by omega)]
        rw [h31]
        have hm0 : g.2.1 + (((401 - g.2.1).toNat : Nat) : Int) = 401 := by have := hg.2.2; omega
        refine wkR hGd ⟨s0, s1, s2, s3, s4⟩ (401 - g.2.1).toNat N7 (mf0 R (cm R c)) (fun v => D (rn (rho c) v)) (iM R (cm R c)) g eR7 (hL.eq hw (fun a b q => fM 1 a b (by unfold inB at q; omega))) h31 h32 hm0 ⟨Int.le_refl _, by omega⟩ hg ?_ ?_ (fun O fO rO' => hQ O (fun o i j q => by rw [fO o i j (by omega)]; exact fM o i j q) rO')
        · rw [← eB]
          exact ⟨by rw [f7 1 0 _ (by omega)]; exact rF.1, fun v v0 v1 hb => by rw [f7 1 53 v (by omega)]; exact rF.2 v v0 v1 hb⟩
        · exact ⟨by rw [f7 1 0 54 (by omega)]; exact rG.1, by rw [f7 1 0 55 (by omega)]; exact rG.2.1, by rw [f7 1 0 56 (by omega)]; exact rG.2.2.1, fun q q0 q1 => by rw [f7 1 58 q (by omega)]; exact rG.2.2.2 q q0 q1⟩
      · exfalso
        have : N 1 1 (771 + cm R c) = lpk (LIn R (cm R c)) := by rw [eR]; exact M3
        rw [this, sp.1] at z
        omega
    | succ n ih =>
      intro h N B' hn fN rF m8B hB rG
      have eR : N 1 1 = R := by rw [← hR]; funext q; exact fN 1 1 q (by omega)
      have t771 : N 1 1 (771 + cm R c) = lpk (LIn R (cm R c)) := by rw [eR]; exact M3
      have t910 : N 1 1 (910 + c) = lpk (rnl (rho c) (LIn R (cm R c))) := by rw [eR]; exact e910
      have hlt : h < (LIn R (cm R c)).length := by omega
      refine vX10_goesThrough_18 fun _ _ _ _ => ⟨by omega, fun z => ?_, fun z => ?_⟩
      · exfalso; rw [t771, sp.1] at z; omega
      · rw [t771, t910]
        have u1 : iand (ishr (lpk (LIn R (cm R c))) (4 + 4 * (h : Int))) 15 = (LIn R (cm R c))[h] := by
          have := sp.2 h hlt
          unfold nib at this
          rw [this, List.getD_eq_getElem?_getD, List.getElem?_eq_getElem hlt]; rfl
        have u2 : iand (ishr (lpk (rnl (rho c) (LIn R (cm R c)))) (4 + 4 * (h : Int))) 15 = rn (rho c) (LIn R (cm R c))[h] := by
          have := sp2.2 h hlt
          unfold nib at this
          rw [this, List.getD_eq_getElem?_getD, List.getElem?_map, List.getElem?_eq_getElem hlt]; rfl
        have mem : (LIn R (cm R c))[h] ∈ LIn R (cm R c) := List.getElem_mem hlt
        have v8 := l8 _ mem
        have r8 := rn_rng (rho c) (LIn R (cm R c))[h]
        rw [u1, u2]
        refine ⟨by omega, r8, kX10_sets v8 ⟨rfl, ?_⟩⟩
        rw [if_neg (by omega)]
        have ev : N 1 51 (rn (rho c) (LIn R (cm R c))[h]) = D (rn (rho c) (LIn R (cm R c))[h]) := by
          rw [fN 1 51 _ (by omega)]; exact hF.2 _ r8.1 r8.2 (hin _ mem)
        rw [ev]
        refine ⟨by omega, ?_⟩
        have gv := rF.give (x := D (rn (rho c) (LIn R (cm R c))[h])) (Or.inr rfl) v8
        have ef : (fun q => if q = (LIn R (cm R c))[h] then D (rn (rho c) (LIn R (cm R c))[h]) else D (rn (rho c) q)) = (fun v => D (rn (rho c) v)) := by
          funext q
          by_cases e : q = (LIn R (cm R c))[h]
          · rw [if_pos e, e]
          · rw [if_neg e]
        rw [ef] at gv
        have fg : ∀ (o i : Nat) (j : Int), ¬ (o = 1 ∧ (i = 53 ∨ (i = 0 ∧ j = 53))) → (sl_wr (sl_wr N 1 53 (LIn R (cm R c))[h] (D (rn (rho c) (LIn R (cm R c))[h]))) 1 0 53 (ior (N 1 0 53) (ishl 1 (LIn R (cm R c))[h]))) o i j = N o i j := fun o i j q => by simp only [sl_wr]; rw [if_neg (by omega), if_neg (by omega)]
        rw [show (h : Int) + 1 = ((h + 1 : Nat) : Int) by omega]
        refine ih (h + 1) _ (ior B' (ishl 1 (LIn R (cm R c))[h])) (by omega) (fun o i j q => by rw [fg o i j (by omega)]; exact fN o i j q) gv (m8_or m8B (m8_shl v8)) (fun w => ?_) ⟨by rw [fg 1 0 54 (by omega)]; exact rG.1, by rw [fg 1 0 55 (by omega)]; exact rG.2.1, by rw [fg 1 0 56 (by omega)]; exact rG.2.2.1, fun q q0 q1 => by rw [fg 1 58 q (by omega)]; exact rG.2.2.2 q q0 q1⟩
        rw [bt_ior, bt_shl v8, Bool.or_eq_true, decide_eq_true_eq, hB w]
        have e : List.take (h + 1) (LIn R (cm R c)) = List.take h (LIn R (cm R c)) ++ [(LIn R (cm R c))[h]] := by rw [List.take_succ, List.getElem?_eq_getElem hlt]; rfl
        rw [e, List.mem_append, List.mem_singleton]
  refine eX10_goesThrough (vX10_goesThrough_0 fun _ _ => ⟨by omega, fun N2 e2 => ?_⟩)
  rw [hR]
  have f2 : ∀ o i j, ¬ (o = 1 ∧ i = 0 ∧ j = 53) → N2 o i j = M o i j := fun o i j q => by rw [e2]; simp only [sl_wr]; rw [if_neg q]
  exact loop _ 0 N2 0 (Nat.zero_add _) (fun o i j q => f2 o i j (by omega)) ⟨by rw [e2]; exact sl_wr_s, fun v v0 v1 hb => by rw [bt_0] at hb; cases hb⟩ m8_0 (fun w => by rw [bt_0]; simp) ⟨by rw [f2 1 0 54 (by omega)]; exact hG.1, by rw [f2 1 0 55 (by omega)]; exact hG.2.1, by rw [f2 1 0 56 (by omega)]; exact hG.2.2.1, fun q q0 q1 => by rw [f2 1 58 q (by omega)]; exact hG.2.2.2 q q0 q1⟩
end K
