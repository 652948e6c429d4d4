/-! The reference lifts a span -/
section C
variable {R R' rho : Int → Int} {i j : Int}
/-- a row that differs in the new method's numbers alone -/
theorem pr_cong (h : Good R rho) (h1 : ∀ q, 0 ≤ q → q ≤ 760 → R' q = R q) (h2 : ∀ q, 789 ≤ q → q < 990 → R' q = R q) (h3 : ∀ m, 0 ≤ m → m < R 761 → R' (768 + m) = R (768 + m) ∧ R' (771 + m) = R (771 + m) ∧ R' (774 + m) = R (774 + m) ∧ ∀ x, 0 ≤ x → x < 4 → R' (777 + 4 * m + x) = R (777 + 4 * m + x)) : PRf R' (ly R rho) ∧ PRs R' (ly R rho) := by
  have a := h.rdb.2.2.1
  have b := h.prs
  have cs := h.2.2.2.1
  refine ⟨fun k k0 k1 => ?_, fun k k0 k1 => ?_⟩
  · obtain ⟨p1, p2, p3, p4, p5, p6⟩ := a k k0 k1
    have e201 : R' (201 + ly R rho 30 k) = R (201 + ly R rho 30 k) := h1 _ (by omega) (by omega)
    rw [e201]
    by_cases z : ly R rho 1 k = 7
    · obtain ⟨c1, c2, -⟩ := h.cnode k0 k1 z
      have e31 : ly R rho 31 k = clR R (tk R k) := rfl
      have e870 : R' (870 + ly R rho 31 k) = R (870 + ly R rho 31 k) := h2 _ (by rw [e31]; omega) (by rw [e31]; omega)
      have gm := (h.2.2.2.2.1 _ c2.1 c2.2).2.1
      have em : R (870 + ly R rho 31 k) = cm R (clR R (tk R k)) := rfl
      obtain ⟨m1, m2, m3, m4⟩ := h3 _ gm.1 gm.2
      rw [e870]
      refine ⟨p1, p2, p3, ?_, fun e he => ?_, p6⟩
      · rw [em, m1, ← em]; exact p4
      · rw [p5 e he]
        have : csets R' (ly R rho 31 k) e = csets R (ly R rho 31 k) e := by
          unfold csets
          rw [e870, em, m2, m3, h2 (950 + ly R rho 31 k) (by rw [e31]; omega) (by rw [e31]; omega), m4 _ sp_bd.1 sp_bd.2]
        rw [this]
    · refine ⟨p1, p2, fun w => (z w).elim, ?_, fun e he => ?_, p6⟩
      · rw [if_neg (show ¬ ly R rho 1 k = 7 from z)] at p4 ⊢; exact p4
      · have q := p5 e he
        rw [if_neg z] at q ⊢; exact q
  · obtain ⟨p1, p2, p3⟩ := b k k0 k1
    obtain ⟨a1, -⟩ := a k k0 k1
    refine ⟨p1, fun z => ?_, fun z => ?_⟩
    · obtain ⟨q1, q2, q3⟩ := p2 z
      rw [h1 (241 + ly R rho 30 k) (by omega) (by omega), h1 (201 + ly R rho 30 k) (by omega) (by omega)]
      exact ⟨q1, fun y y0 y1 => by rw [h1 _ (by omega) (by omega)]; exact q2 y y0 y1, q3⟩
    · obtain ⟨c1, c2, -⟩ := h.cnode k0 k1 z
      have e31 : ly R rho 31 k = clR R (tk R k) := rfl
      rw [h2 (910 + ly R rho 31 k) (by rw [e31]; omega) (by rw [e31]; omega), h2 (950 + ly R rho 31 k) (by rw [e31]; omega) (by rw [e31]; omega), h2 (870 + ly R rho 31 k) (by rw [e31]; omega) (by rw [e31]; omega)]
      exact p3 z
/-! how many calls there can be -/
def cnl (R : Int → Int) : Nat → Int → List Int
  | 0, _ => []
  | n + 1, c => ixn (clR R) (eR R) (ca R c).toNat :: cnl R n (c + 1)
theorem cnl_mem {x : Int} : ∀ (n : Nat) (c : Int), x ∈ cnl R n c → ∃ d, c ≤ d ∧ d < c + n ∧ x = ixn (clR R) (eR R) (ca R d).toNat := by
  intro n
  induction n with
  | zero => intro c h; cases h
  | succ n ih =>
    intro c h
    rcases List.mem_cons.mp h with h | h
    · exact ⟨c, by omega, by omega, h⟩
    · obtain ⟨d, d0, d1, d2⟩ := ih (c + 1) h
      exact ⟨d, by omega, by omega, d2⟩
theorem cnl_len : ∀ (n : Nat) (c : Int), (cnl R n c).length = n := by
  intro n
  induction n with
  | zero => intro c; rfl
  | succ n ih => intro c; rw [cnl, List.length_cons, ih]
theorem cnl_nodup (h : Good R rho) : ∀ (n : Nat) (c : Int), 0 ≤ c → c + n ≤ R 789 → (cnl R n c).Nodup := by
  intro n
  induction n with
  | zero => intro c _ _; exact List.nodup_nil
  | succ n ih =>
    intro c c0 c1
    rw [cnl, List.nodup_cons]
    refine ⟨fun z => ?_, ih (c + 1) (by omega) (by omega)⟩
    obtain ⟨d, d0, d1, d2⟩ := cnl_mem n (c + 1) z
    have a := h.cn (c := c) ⟨c0, by omega⟩
    have b := h.cn (c := d) ⟨by omega, by omega⟩
    have x := (h.of a.2.2.1 (by omega) a.1).2.2.1
    have y := (h.of b.2.2.1 (by omega) b.1).2.2.1
    rw [d2, y] at x
    have := a.2.1
    rw [← x, b.2.1] at this
    omega
theorem tks_fst {P : Pg} : ∀ (m : Nat) (f fr : Int), ((tks P i j m f fr).map Prod.fst).Nodup := by
  intro m
  induction m with
  | zero => intro f fr; exact List.nodup_nil
  | succ m ih =>
    intro f fr
    by_cases c : f < fr ∨ cand P i j f = none
    · rw [tks_skip c]; exact ih _ _
    · cases e : cand P i j f with
      | none => exact (c (Or.inr e)).elim
      | some to =>
        rw [tks_take (fun z => c (Or.inl z)) e, List.map_cons, List.nodup_cons]
        refine ⟨fun z => ?_, ih _ _⟩
        obtain ⟨q, hq, eq⟩ := List.mem_map.mp z
        have := (tks_mem m (f + 1) _ q hq).1
        have eq : q.1 = f := eq
        omega
/-- those taken stand apart -/
theorem tks_apart {P : Pg} : ∀ (m : Nat) (f fr : Int) (a b : Nat) (p q : Int × (Int → Int)), a < b → (tks P i j m f fr)[a]? = some p → (tks P i j m f fr)[b]? = some q → p.1 + (P 3 j - i) ≤ q.1 := by
  intro m
  induction m with
  | zero => intro f fr a b p q _ h; simp [tks] at h
  | succ m ih =>
    intro f fr a b p q hab ha hb
    by_cases c : f < fr ∨ cand P i j f = none
    · rw [tks_skip c] at ha hb; exact ih _ _ a b p q hab ha hb
    · cases e : cand P i j f with
      | none => exact (c (Or.inr e)).elim
      | some to =>
        rw [tks_take (fun z => c (Or.inl z)) e] at ha hb
        cases b with
        | zero => omega
        | succ b =>
          rw [List.getElem?_cons_succ] at hb
          cases a with
          | zero =>
            injection ha with ha
            subst ha
            have := tks_mem m (f + 1) _ q (List.mem_of_getElem? hb)
            exact this.2.2.1
          | succ a =>
            rw [List.getElem?_cons_succ] at ha
            exact ih _ _ a b p q (by omega) ha hb
theorem cnt40 (h : Good R rho) (hs : isp (ly R rho) i j) (hn : ∀ k, i ≤ k → k < ly R rho 3 j → ly R rho 1 k ≠ 7) : R 789 + 1 + (tka (ly R rho) i j).length ≤ 40 := by
  have hw := h.wf
  have n0 := hw.n0
  have aj := hw.af (k := j) (by have := hs.1; have := hs.2.1; omega) hs.2.2.1
  have s1 := hs.1
  have s2 := hs.2.1
  have s3 := hs.2.2.1
  have cs := h.2.2.2.1
  have mem : ∀ q, q ∈ tka (ly R rho) i j → 0 ≤ q.1 ∧ q.1 < ly R rho 0 0 ∧ q.1 ≠ i ∧ ly R rho 1 q.1 ≠ 7 := by
    intro q hq
    have me := tks_mem (P := ly R rho) (i := i) (j := j) (ly R rho 0 0).toNat 0 0 q hq
    have ci := (cand_inv me.2.2.2).2
    have cp := cand_isp hw ⟨me.1, by omega⟩ ci
    have al := hw.af (k := lsf (ly R rho) i j q.1) (by have := cp.1.1; have := cp.1.2.1; omega) cp.1.2.2.1
    have sh := ci.2.2.2.1 0 (by omega) (by omega)
    refine ⟨me.1, by omega, ?_, ?_⟩
    · have := ci.2.2.1
      have := cp.1.2.1
      omega
    · have q1 := sh.1
      have q2 := sh.2.1
      rw [Int.add_zero] at q1
      rw [Int.add_zero, Int.add_zero] at q2
      omega
  have cal : ∀ x, x ∈ cnl R (R 789).toNat 0 → 0 ≤ x ∧ x < ly R rho 0 0 ∧ ly R rho 1 x = 7 := by
    intro x hx
    obtain ⟨d, d0, d1, d2⟩ := cnl_mem _ _ hx
    have cn := h.cn (c := d) ⟨by omega, by omega⟩
    have of := h.of cn.2.2.1 (by omega) cn.1
    have lt := of.2.2.2 cn.2.2.2
    rw [d2]
    exact ⟨of.1, lt, (h.cl7 of.1 lt).1.mpr (by rw [of.2.2.1, cn.2.1]; omega)⟩
  have nd_ : (cnl R (R 789).toNat 0 ++ (i :: (tka (ly R rho) i j).map Prod.fst)).Nodup := by
    rw [List.nodup_append]
    refine ⟨cnl_nodup h _ 0 (by omega) (by omega), ?_, fun x hx y hy => ?_⟩
    · rw [List.nodup_cons]
      refine ⟨fun z => ?_, tks_fst _ _ _⟩
      obtain ⟨q, hq, eq⟩ := List.mem_map.mp z
      exact (mem q hq).2.2.1 eq
    · rintro rfl
      have c7 := (cal x hx).2.2
      rcases List.mem_cons.mp hy with z | z
      · rw [z] at c7; exact hn i (by omega) (by omega) c7
      · obtain ⟨q, hq, eq⟩ := List.mem_map.mp z
        have eq : q.1 = x := eq
        rw [← eq] at c7
        exact (mem q hq).2.2.2 c7
  have len := nodup_len' (ly R rho 0 0).toNat _ nd_ (fun v hv => by
    rw [show (((ly R rho 0 0).toNat : Nat) : Int) = ly R rho 0 0 by omega]
    rcases List.mem_append.mp hv with z | z
    · exact ⟨(cal v z).1, (cal v z).2.1⟩
    · rcases List.mem_cons.mp z with z | z
      · rw [z]; exact ⟨s1, by omega⟩
      · obtain ⟨q, hq, eq⟩ := List.mem_map.mp z
        have eq : q.1 = v := eq
        rw [← eq]; exact ⟨(mem q hq).1, (mem q hq).2.1⟩)
  rw [List.length_append, List.length_cons, List.length_map, cnl_len] at len
  omega
end C
section K
variable {l : Launch} {M : sl_M} {Q : sl_R} {P : Pg} {rho : Int → Int}
theorem kX10_calls (h : 0 ≤ M 1 1 789 ∧ M 1 1 789 < 40) {a b m x y : Int} (hQ : ∀ N, (∀ o i j, ¬ (o = 1 ∧ i = 1 ∧ (j = 790 + M 1 1 789 ∨ j = 830 + M 1 1 789 ∨ j = 870 + M 1 1 789 ∨ j = 910 + M 1 1 789 ∨ j = 950 + M 1 1 789 ∨ j = 789)) → N o i j = M o i j) → N 1 1 789 = M 1 1 789 + 1 → N 1 1 (790 + M 1 1 789) = a → N 1 1 (830 + M 1 1 789) = b → N 1 1 (870 + M 1 1 789) = m → N 1 1 (910 + M 1 1 789) = x → N 1 1 (950 + M 1 1 789) = y → Q none N) : sl_Runs l mX10_calls [vR 1 0, vI a, vI b, vI m, vI x, vI y] M Q := by
  refine eX10_calls (vX10_calls_0 fun _ _ _ _ _ _ => ⟨by omega, fun M2 e2 => ⟨by omega, fun M4 e4' => ⟨by omega, fun M6 e6 => ⟨by omega, fun M8 e8 => ⟨by omega, fun M10 e10 => ?_⟩⟩⟩⟩⟩)
  have v : M10 1 1 789 = M 1 1 789 := by rw [e10, e8, e6, e4', e2]; simp only [sl_wr]; rw [if_neg (by omega), if_neg (by omega), if_neg (by omega), if_neg (by omega), if_neg (by omega)]
  rw [v]
  refine ⟨by omega, fun M12 e12 => hQ M12 (fun o i j z => ?_) (by rw [e12, sl_wr_s]) ?_ ?_ ?_ ?_ ?_⟩
  · rw [e12, e10, e8, e6, e4', e2]; simp only [sl_wr]; rw [if_neg (by omega), if_neg (by omega), if_neg (by omega), if_neg (by omega), if_neg (by omega), if_neg (by omega)]
  · rw [e12, e10, e8, e6, e4', e2]; simp only [sl_wr]; rw [if_neg (by omega), if_neg (by omega), if_neg (by omega), if_neg (by omega), if_neg (by omega), if_pos (by simp)]
  · rw [e12, e10, e8, e6, e4']; simp only [sl_wr]; rw [if_neg (by omega), if_neg (by omega), if_neg (by omega), if_neg (by omega), if_pos (by simp)]
  · rw [e12, e10, e8, e6]; simp only [sl_wr]; rw [if_neg (by omega), if_neg (by omega), if_neg (by omega), if_pos (by simp)]
  · rw [e12, e10, e8]; simp only [sl_wr]; rw [if_neg (by omega), if_neg (by omega), if_pos (by simp)]
  · rw [e12, e10]; simp only [sl_wr]; rw [if_neg (by omega), if_pos (by simp)]
theorem ior_swap (a b c : Int) : ior (ior a b) c = ior (ior a c) b := by
  refine bt_ext (rg_ior _ _) (rg_ior _ _) (fun v _ => ?_)
  rw [bt_ior, bt_ior, bt_ior, bt_ior]
  cases bt a v <;> cases bt b v <;> cases bt c v <;> rfl
theorem kX10_answeredList {to : Int → Int} {L : List Int} {a : Nat} (h4 : L.length ≤ 4) (h8 : ∀ v, v ∈ L → 0 ≤ v ∧ v < 8) (ha : a < 40) (hm : ∀ v, v ∈ L → M 1 49 (8 * a + v) = to v) (hQ : Q (some (vI (lpk (L.map to)))) M) : sl_Runs l mX10_answeredList [vR 1 0, vI (lpk L), vI (a : Int)] M Q := by
  have sp := lpk_spec h4 h8
  have pkr : ∀ (acc : List Int) (n : Nat), sl_rg (pkl acc n) := by
    intro acc n
    cases n with
    | zero => exact sl_rg0
    | succ n => exact rg_ior _ _
  have loop : ∀ (n : Nat) (k : Nat) (x : Int), k + n = L.length → x = ior (pkl (L.map to) k) L.length → sl_At l mX10_answeredList 8 [(0, vR 1 0), (1, vI (lpk L)), (2, vI (a : Int)), (3, vI x), (4, vI (k : Int))] [] M Q := by
    intro n
    induction n with
    | zero =>
      intro k x hk hx
      refine vX10_answeredList_8 fun _ _ _ _ _ => ?_
      rw [sp.1]
      refine ⟨fun _ => ?_, fun z => by omega⟩
      have : x = lpk (L.map to) := by
        unfold lpk
        rw [List.length_map, hx, show k = L.length by omega]
      rw [this]; exact hQ
    | succ n ih =>
      intro k x hk hx
      have v8 := h8 _ (getD_mem.mpr ⟨k, by omega, rfl⟩)
      have nb : iand (ishr (lpk L) (4 + 4 * (k : Int))) 15 = L.getD k 0 := sp.2 k (by omega)
      refine vX10_answeredList_8 fun _ _ _ _ _ => ?_
      rw [sp.1, nb, hm _ (getD_mem.mpr ⟨k, by omega, rfl⟩)]
      refine ⟨fun z => by omega, fun _ => ⟨by omega, fun y ey => ⟨by omega, ?_⟩⟩⟩
      have := ih (k + 1) y (by omega) ?_
      · rw [show ((k + 1 : Nat) : Int) = (k : Int) + 1 by omega] at this; exact this
      · rw [ey, hx, pkl, if_pos (by omega), ior_swap]
        have : (L.map to).getD k 0 = to (L.getD k 0) := by
          rw [List.getD_eq_getElem?_getD, List.getD_eq_getElem?_getD, List.getElem?_map, List.getElem?_eq_getElem (by omega)]; rfl
        rw [this]
  refine eX10_answeredList (vX10_answeredList_0 fun _ _ _ y ey => loop L.length 0 y (by omega) ?_)
  rw [ey, sp.1]
  refine (bt_ext (rg_ior _ _) ?_ (fun v _ => ?_)).symm
  · omega
  · show bt (ior 0 (L.length : Int)) v = _
    rw [bt_ior, bt_0, Bool.false_or]
theorem kX10_lastTold (hw : WF P) (h2 : WF2 P) (hL : Ld M 0 P) (hN : LdN M 0 P) {a f e : Int} (ha : 0 ≤ a ∧ a < 40) (hs : isp P f e) (h47 : M 1 47 a = f) (h48 : M 1 48 a = P 3 e - 1) (hQ : Q (some (vI (P 30 e))) M) : sl_Runs l mX10_lastTold [vR 1 0, vI a] M Q := by
  have n0 := hw.n0
  have loop : ∀ (n : Nat) (k : Int), isp P k e → (e - k).toNat ≤ n → sl_At l mX10_lastTold 7 [(0, vR 1 0), (1, vI a), (2, vI k)] [] M Q := by
    intro n
    induction n with
    | zero =>
      intro k hk hn
      have k0 := hk.1
      have k1 := hk.2.1
      have k2 := hk.2.2.1
      have ek : k = e := by omega
      subst ek
      have e20 : M 1 20 k = P 3 k := by have := (hL.2.2 k k0 k2).2.2.1; rw [Int.zero_add] at this; exact this
      have e21 : M 1 21 k = P 30 k := by have := (hN k k0 k2).1; rw [Int.zero_add] at this; exact this
      refine vX10_lastTold_7 fun _ _ _ => ⟨by omega, ha, ?_⟩
      rw [h48, e20, e21]
      exact ⟨fun _ => hQ, fun z => by omega⟩
    | succ n ih =>
      intro k hk hn
      have k0 := hk.1
      have k1 := hk.2.1
      have k2 := hk.2.2.1
      by_cases ek : k = e
      · exact ih k hk (by omega)
      · obtain ⟨f1, f2, f3⟩ := isp_next hw h2 hk (by omega)
        have ae := hw.af (k := e) (by omega) k2
        have e20 : M 1 20 k = P 3 k := by have := (hL.2.2 k k0 (by omega)).2.2.1; rw [Int.zero_add] at this; exact this
        refine vX10_lastTold_7 fun _ _ _ => ⟨by omega, ha, ?_⟩
        rw [h48, e20]
        exact ⟨fun z => by have := f2.2.1; omega, fun _ => ih (P 3 k) f2 (by omega)⟩
  refine eX10_lastTold (vX10_lastTold_0 fun _ _ => ⟨ha, ?_⟩)
  rw [h47]
  exact loop (e - f).toNat f hs (Nat.le_refl _)
end K
