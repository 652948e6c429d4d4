/-! The reference: the spans that are alike -/
/-- what the search changes -/
def FAl (M N : sl_M) : Prop := ∀ o i j, ¬ (o = 1 ∧ ((39 ≤ i ∧ i ≤ 42) ∨ (47 ≤ i ∧ i ≤ 50) ∨ (i = 0 ∧ ((31 ≤ j ∧ j ≤ 37) ∨ j = 45)))) → N o i j = M o i j
theorem FAl.tr {M N O : sl_M} (h1 : FAl M N) (h2 : FAl N O) : FAl M O := fun o i j z => (h2 o i j z).trans (h1 o i j z)
theorem FAl.rf {M : sl_M} : FAl M M := fun _ _ _ _ => rfl
theorem FAl.laf {M N : sl_M} {P : Pg} (h : FAl M N) (hw : WF P) (hL : LaB M 0 P) : LaB N 0 P := hL.eq hw (fun i j z => h 1 i j (by unfold inB at z; omega))
theorem FAl.row {M N : sl_M} (h : FAl M N) : N 1 1 = M 1 1 := by funext j; exact h 1 1 j (by omega)
theorem FSp.al {M N : sl_M} (h : FSp M N) : FAl M N := fun o i j z => h o i j (by omega)
theorem FA50.al {M N : sl_M} (h : FA50 M N) : FAl M N := fun o i j z => h o i j (by omega)
/-- the reference's list -/
def TrL (N : sl_M) (L : List (Int × (Int → Int))) (sz : Int) : Prop := N 1 0 45 = L.length ∧ ∀ (a : Nat) (q : Int × (Int → Int)), L[a]? = some q → N 1 47 a = q.1 ∧ N 1 48 a = q.1 + sz - 1 ∧ ∀ v, 0 ≤ v → v < 8 → N 1 49 (8 * a + v) = q.2 v
section K
variable {l : Launch} {M : sl_M} {Q : sl_R} {P : Pg} {rho : Int → Int}
theorem kX10_lengthOf (hw : WF P) (h2 : WF2 P) (hL : Ld M 0 P) {i j : Int} (hs : isp P i j) (hQ : Q (some (vI (1 + (cnB P j 40 i : Int)))) M) : sl_Runs l mX10_lengthOf [vR 1 0, vI i, vI j] M Q := by
  have n0 := hw.n0
  have loop : ∀ (n : Nat) (y k : Int), isp P k j → j - k < n → 0 ≤ y → y + (j - k) ≤ 100 → y + (cnB P j n k : Int) = 1 + (cnB P j 40 i : Int) → sl_At l mX10_lengthOf 5 [(0, vR 1 0), (2, vI j), (3, vI y), (4, vI k)] [] M Q := by
    intro n
    induction n with
    | zero => intro y k hk hj; have := hk.2.1; omega
    | succ n ih =>
      intro y k hk hj y0 y1 he
      rw [cnB] at he
      have k0 := hk.1
      have k1 := hk.2.1
      have k2 := hk.2.2.1
      refine vX10_lengthOf_5 fun _ _ _ _ => ⟨fun z => ?_, fun z => ⟨by omega, by omega, ?_⟩⟩
      · rw [if_neg (by omega)] at he
        have e : y = 1 + (cnB P j 40 i : Int) := by rw [← he]; show y = y + ((0 : Nat) : Int); omega
        rw [e]; exact hQ
      · rw [if_pos (by omega)] at he
        obtain ⟨f1, f2, f3⟩ := isp_next hw h2 hk (by omega)
        have e20 : M 1 20 k = P 3 k := by have := (hL.2.2 k k0 (by omega)).2.2.1; rw [Int.zero_add] at this; exact this
        rw [e20]
        exact ih (y + 1) (P 3 k) f2 (by omega) (by omega) (by omega) (by omega)
  exact eX10_lengthOf (vX10_lengthOf_0 fun _ _ _ => loop 40 1 i hs (by have := hs.1; have := hs.2.2.1; omega) (by omega) (by have := hs.1; have := hs.2.2.1; omega) (by omega))
theorem kX10_lastOf (hw : WF P) (hL : Ld M 0 P) {f : Int} {n : Nat} (hf : 0 ≤ f ∧ f < P 0 0) (hn : n ≤ 1000) (hQ : Q (some (vI (lst P n f))) M) : sl_Runs l mX10_lastOf [vR 1 0, vI f, vI (1 + (n : Int))] M Q := by
  have n0 := hw.n0
  have loop : ∀ (m : Nat) (k x : Int), x + m = 1 + (n : Int) → 1 ≤ x → isp P f k → lst P m k = lst P n f → sl_At l mX10_lastOf 5 [(0, vR 1 0), (1, vI f), (2, vI (1 + (n : Int))), (3, vI k), (4, vI x)] [] M Q := by
    intro m
    induction m with
    | zero =>
      intro k x hx x0 hk he
      rw [lst] at he
      exact vX10_lastOf_5 fun _ _ _ _ _ => ⟨fun _ => by rw [he]; exact hQ, fun z => by omega⟩
    | succ m ih =>
      intro k x hx x0 hk he
      obtain ⟨k0, k1, k2, k3, k4⟩ := hk
      have af := hw.af (k := k) (by omega) k2
      rw [lst, if_neg (by omega)] at he
      have e20 : M 1 20 k = P 3 k := by have := (hL.2.2 k (by omega) k2).2.2.1; rw [Int.zero_add] at this; exact this
      refine vX10_lastOf_5 fun _ _ _ _ _ => ⟨fun z => by omega, fun _ => ⟨by omega, ?_⟩⟩
      rw [e20]
      refine kX10_manyOf hL ⟨_, rfl, fun z => ?_, fun z => ?_⟩
      · have e : fol P k = -1 := by unfold fol; rw [if_neg (by omega)]
        rw [e, lst_m1] at he
        rw [he]; exact hQ
      · refine kX10_areOfBlock hw hL hf ⟨by omega, by omega⟩ ⟨_, rfl, fun z2 => ⟨by omega, ?_⟩, fun z2 => ?_⟩
        · have z2 := b_ne0.mp z2
          have e : fol P k = P 3 k := by unfold fol; rw [if_pos ⟨by omega, by omega, by omega⟩]
          rw [e] at he
          exact ih (P 3 k) (x + 1) (by omega) (by omega) ⟨k0, by omega, by omega, z2.1, z2.2⟩ he
        · have z2 : ¬ (P 2 f = P 2 (P 3 k) ∧ P 4 f = P 4 (P 3 k)) := fun q => z2 (b_ne0.mpr q)
          have e : fol P k = -1 := by unfold fol; rw [if_neg (by omega)]
          rw [e, lst_m1] at he
          rw [he]; exact hQ
  exact eX10_lastOf (vX10_lastOf_0 fun _ _ _ => loop n f 1 (by omega) (by omega) (isp_self hf) rfl)
theorem kX10_hasCall (hw : WF P) (hL : Ld M 0 P) {a e : Int} (ha : 0 ≤ a) (he : e ≤ P 0 0) (hQ : Q (some (vI (cif (∃ k, a ≤ k ∧ k < e ∧ P 1 k = 7) 1 0))) M) : sl_Runs l mX10_hasCall [vR 1 0, vI a, vI e] M Q := by
  have n0 := hw.n0
  have loop : ∀ (n : Nat) (k y : Int), (e - k).toNat ≤ n → a ≤ k → (k ≤ e ∨ k = a) → y = cif (∃ z, a ≤ z ∧ z < k ∧ P 1 z = 7) 1 0 → sl_At l mX10_hasCall 5 [(0, vR 1 0), (2, vI e), (3, vI y), (4, vI k)] [] M Q := by
    intro n
    induction n with
    | zero =>
      intro k y hk k0 k1 hy
      refine vX10_hasCall_5 fun _ _ _ _ => ⟨fun _ => ⟨by rw [hy]; exact cif01 _, ?_⟩, fun z => by omega⟩
      have e1 : cif (∃ z, a ≤ z ∧ z < k ∧ P 1 z = 7) 1 0 = cif (∃ k, a ≤ k ∧ k < e ∧ P 1 k = 7) 1 0 := by
        have : (∃ z, a ≤ z ∧ z < k ∧ P 1 z = 7) ↔ (∃ k, a ≤ k ∧ k < e ∧ P 1 k = 7) := by
          constructor
          · rintro ⟨z, z0, z1, z2⟩; exact ⟨z, z0, by omega, z2⟩
          · rintro ⟨z, z0, z1, z2⟩; exact ⟨z, z0, by omega, z2⟩
        by_cases q : ∃ k, a ≤ k ∧ k < e ∧ P 1 k = 7
        · rw [cif1 q, cif1 (this.mpr q)]
        · rw [cif0 q, cif0 (fun w => q (this.mp w))]
      rw [hy, e1]; exact hQ
    | succ n ih =>
      intro k y hk k0 k1 hy
      by_cases c : e ≤ k
      · exact ih k y (by omega) k0 k1 hy
      · have e17 : M 1 17 k = P 1 k := by have := (hL.2.2 k (by omega) (by omega)).1; rw [Int.zero_add] at this; exact this
        refine vX10_hasCall_5 fun _ _ _ _ => ⟨fun z => by omega, fun _ => ⟨fun _ => by omega, fun y6 e6 => ⟨by omega, ih (k + 1) y6 (by omega) (by omega) (Or.inl (by omega)) ?_⟩⟩⟩
        rw [e6, e17, hy]
        by_cases q : ∃ z, a ≤ z ∧ z < k ∧ P 1 z = 7
        · rw [cif1 q, if_pos (Or.inl (by omega)), cif1 (by obtain ⟨z, z0, z1, z2⟩ := q; exact ⟨z, z0, by omega, z2⟩)]
        · rw [cif0 q]
          by_cases q7 : P 1 k = 7
          · rw [if_pos (Or.inr (fun w => w q7)), cif1 ⟨k, k0, by omega, q7⟩]
          · rw [if_neg (by omega), cif0]
            rintro ⟨z, z0, z1, z2⟩
            by_cases ez : z = k
            · rw [ez] at z2; exact q7 z2
            · exact q ⟨z, z0, by omega, z2⟩
  refine eX10_hasCall (vX10_hasCall_0 fun _ _ _ => loop (e - a).toNat a 0 (Nat.le_refl _) (by omega) (Or.inr rfl) ?_)
  rw [cif0]
  rintro ⟨z, z0, z1, _⟩; omega
/-- a set of variables, answered -/
theorem kX10_answered {to : Int → Int} (hT : Tr M to) {set : Int} (hd : ∀ v : Nat, v < 8 → bt set v = true → to v ≠ -1) (hQ : Q (some (vI (rset (pkn to) set))) M) : sl_Runs l mX10_answered [vR 1 0, vI set] M Q := by
  have loop : ∀ (n : Nat) (v x : Int), v + n = 8 → 0 ≤ v → m8 x → (∀ w : Nat, w < 8 → (bt x w = true ↔ ∃ u, 0 ≤ u ∧ u < v ∧ bt set u.toNat = true ∧ rn (pkn to) u = w)) → sl_At l mX10_answered 4 [(0, vR 1 0), (1, vI set), (2, vI x), (3, vI v)] [] M Q := by
    intro n
    induction n with
    | zero =>
      intro v x hv v0 hm hx
      refine vX10_answered_4 fun _ _ _ _ => ⟨fun _ => ?_, fun z => by omega⟩
      have : x = rset (pkn to) set := by
        refine m8_ext hm (m8_rset _ _) (fun w hw => bt_iffT ?_)
        rw [hx w hw, rset_bt]
        constructor
        · rintro ⟨u, u0, u1, u2⟩; exact ⟨u, u0, by omega, u2⟩
        · rintro ⟨u, u0, u1, u2⟩; exact ⟨u, u0, by omega, u2⟩
      rw [this]; exact hQ
    | succ n ih =>
      intro v x hv v0 hm hx
      have tv := hT.2 v v0 (by omega)
      have tr := hT.1.1 v v0 (by omega)
      refine vX10_answered_4 fun _ _ _ _ => ⟨fun z => by omega, fun _ => ⟨fun _ => by omega, fun y ey => ⟨by omega, ?_⟩⟩⟩
      rw [tv] at ey
      by_cases c : iand (ishr set v) 1 = 1
      · have hb := (has1 (by omega)).mp c
        have d := hd v.toNat (by omega) hb
        rw [show ((v.toNat : Nat) : Int) = v by omega] at d
        rw [if_neg (by omega), if_neg d] at ey
        have rv : rn (pkn to) v = to v := rn_pkn hT.1.1 ⟨v0, by omega⟩ d
        refine ih (v + 1) y (by omega) (by omega) (by rw [ey]; exact m8_or hm (m8_shl (by omega))) (fun w hw => ?_)
        rw [ey, bt_ior, Bool.or_eq_true, hx w hw, bt_shl (by omega), decide_eq_true_iff]
        constructor
        · rintro (⟨u, u0, u1, u2⟩ | e)
          · exact ⟨u, u0, by omega, u2⟩
          · exact ⟨v, v0, by omega, hb, by rw [rv]; exact e.symm⟩
        · rintro ⟨u, u0, u1, u2, u3⟩
          by_cases eu : u = v
          · rw [eu, rv] at u3; exact Or.inr u3.symm
          · exact Or.inl ⟨u, u0, by omega, u2, u3⟩
      · rw [if_pos c, ior_0 hm] at ey
        refine ih (v + 1) y (by omega) (by omega) (by rw [ey]; exact hm) (fun w hw => ?_)
        rw [ey, hx w hw]
        constructor
        · rintro ⟨u, u0, u1, u2⟩; exact ⟨u, u0, by omega, u2⟩
        · rintro ⟨u, u0, u1, u2, u3⟩
          have : u ≠ v := fun e => c ((has1 (by omega)).mpr (by rw [← e]; exact u2))
          exact ⟨u, u0, by omega, u2, u3⟩
  refine eX10_answered (vX10_answered_0 fun _ _ => loop 8 0 0 (by omega) (by omega) m8_0 (fun w hw => ?_))
  rw [bt_0]
  constructor
  · intro q; cases q
  · rintro ⟨u, u0, u1, _⟩; omega
theorem kX10_laysAlike (hG : Good (M 1 1) rho) (hL : LaB M 0 (ly (M 1 1) rho)) {i j : Int} (hs : isp (ly (M 1 1) rho) i j) (hQ : ∀ N, FAl M N → SpR N (ly (M 1 1) rho) i j → TrL N (tka (ly (M 1 1) rho) i j) (ly (M 1 1) rho 3 j - i) → Q none N) : sl_Runs l mX10_laysAlike [vR 1 0, vI i, vI j] M Q := by
  have hw := hG.wf
  have h2 := hG.wf2
  have rd := hG.rda
  have n0 := hw.n0
  have hs' := hs
  obtain ⟨s1, s2, s3, s4, s5⟩ := hs
  have aj := hw.af (k := j) (by omega) s3
  have hT := hG.1
  have tn0 := hT.1.n0
  have e00 : tp (cutR (M 1 1)) 0 0 = cutR (M 1 1) 0 := rfl
  have hsp := hG.spn
  have hLy : Lay (tp (cutR (M 1 1))) (clR (M 1 1)) (eR (M 1 1)) (ly (M 1 1) rho) := ly_lay
  have spn : ∀ N, FAl M N → ∀ i j, isp (ly (M 1 1) rho) i j → ∀ Q' : sl_R, (∀ O, SpR O (ly (M 1 1) rho) i j → FSp N O → Q' none O) → sl_Runs l mX10_laysSpan [vR 1 0, vI i, vI j] N Q' := by
    intro N hF i j h Q' hq
    exact kX10_laysSpan hw (hF.laf hw hL).laf (by rw [hF.row]; exact rd.1.2.2.1) (by rw [hF.row]; exact rd.1.2.2.2) h hq
  have tkn : ∀ k, 0 ≤ k → k ≤ ly (M 1 1) rho 0 0 → 0 ≤ tk (M 1 1) k ∧ tk (M 1 1) k ≤ cutR (M 1 1) 0 ∧ (k < ly (M 1 1) rho 0 0 → tk (M 1 1) k < cutR (M 1 1) 0) := fun k k0 k1 => ⟨(hLy.at hT.1 hsp k0 k1).1, (hLy.at hT.1 hsp k0 k1).2.1, fun z => ((hLy.at hT.1 hsp k0 k1).2.2.2.2 z).1⟩
  have loop : ∀ (m : Nat) (f fr : Int) (N : sl_M) (L : List (Int × (Int → Int))), f + m = ly (M 1 1) rho 0 0 → 0 ≤ f → FAl M N → TrL N L (ly (M 1 1) rho 3 j - i) → (L.length : Int) ≤ f → (∀ q, q ∈ L → 0 ≤ q.1 ∧ q.1 < f ∧ q.1 + (ly (M 1 1) rho 3 j - i) ≤ fr) → (f < fr → ∃ q, q ∈ L ∧ q.1 + (ly (M 1 1) rho 3 j - i) = fr) → tka (ly (M 1 1) rho) i j = L ++ tks (ly (M 1 1) rho) i j m f fr → sl_At l mX10_laysAlike 15 [(0, vR 1 0), (1, vI i), (2, vI j), (3, vI (1 + (cnB (ly (M 1 1) rho) j 40 i : Int))), (4, vI f)] [] N Q := by
    intro m
    induction m with
    | zero =>
      intro f fr N L hf f0 hF hTL hlf hqL hfr he
      have hLN := hF.laf hw hL
      refine vX10_laysAlike_15 fun _ _ _ _ _ => kX10_manyOf hLN.1 ⟨_, rfl, fun _ => ?_, fun z => by omega⟩
      have e : tka (ly (M 1 1) rho) i j = L := by rw [he]; exact List.append_nil _
      refine spn N hF i j hs' _ (fun O sp fs => ⟨rfl, hQ O (hF.tr fs.al) sp ?_⟩)
      rw [e]
      refine ⟨by rw [fs 1 0 45 (by omega)]; exact hTL.1, fun a q hq => ?_⟩
      rw [fs 1 47 a (by omega), fs 1 48 a (by omega)]
      have := hTL.2 a q hq
      exact ⟨this.1, this.2.1, fun v v0 v1 => by rw [fs 1 49 _ (by omega)]; exact this.2.2 v v0 v1⟩
    | succ m ih =>
      intro f fr N L hf f0 hF hTL hlf hqL hfr he
      have hLN := hF.laf hw hL
      have f1 : f < ly (M 1 1) rho 0 0 := by omega
      have e20 : ∀ k, 0 ≤ k → k < ly (M 1 1) rho 0 0 → N 1 20 k = ly (M 1 1) rho 3 k := fun k k0 k1 => by have := (hLN.1.2.2 k k0 k1).2.2.1; rw [Int.zero_add] at this; exact this
      have e21 : ∀ k, 0 ≤ k → k < ly (M 1 1) rho 0 0 → N 1 21 k = tk (M 1 1) k := fun k k0 k1 => by have := (hLN.2.1 k k0 k1).1; rw [Int.zero_add] at this; exact this
      have c1000 : cnB (ly (M 1 1) rho) j 40 i ≤ 1000 := by
        have : ∀ (n : Nat) (k : Int), cnB (ly (M 1 1) rho) j n k ≤ n := by
          intro n
          induction n with
          | zero => intro k; exact Nat.le_refl _
          | succ n ih => intro k; rw [cnB]; split; have := ih (ly (M 1 1) rho 3 k); omega; omega
        have := this 40 i
        omega
      -- on to the next
      have skip : ∀ N', (f < fr ∨ cand (ly (M 1 1) rho) i j f = none) → FAl M N' → TrL N' L (ly (M 1 1) rho 3 j - i) → sl_At l mX10_laysAlike 15 [(0, vR 1 0), (1, vI i), (2, vI j), (3, vI (1 + (cnB (ly (M 1 1) rho) j 40 i : Int))), (4, vI (f + 1))] [] N' Q := by
        intro N' h1 h2 h3
        exact ih (f + 1) fr N' L (by omega) (by omega) h2 h3 (by omega) (fun q hq => ⟨(hqL q hq).1, by have := (hqL q hq).2.1; omega, (hqL q hq).2.2⟩) (fun z => hfr (by omega)) (by rw [he, tks_skip h1])
      have lr : lsf (ly (M 1 1) rho) i j f = -1 ∨ isp (ly (M 1 1) rho) f (lsf (ly (M 1 1) rho) i j f) := by
        by_cases q : lsf (ly (M 1 1) rho) i j f = -1
        · exact Or.inl q
        · exact Or.inr (lst_isp hw _ f (isp_self ⟨f0, f1⟩) q)
      -- nothing comes of it
      have dead : ∀ (n : Nat) (x : Int), x + n = (L.length : Int) → 0 ≤ x → cand (ly (M 1 1) rho) i j f = none ∨ f < fr → sl_At l mX10_laysAlike 102 [(0, vR 1 0), (1, vI i), (2, vI j), (3, vI (1 + (cnB (ly (M 1 1) rho) j 40 i : Int))), (4, vI f), (5, vI (lsf (ly (M 1 1) rho) i j f)), (6, vI 0), (7, vI x)] [] N Q := by
        intro n
        induction n with
        | zero =>
          intro x hx x0 hc
          refine vX10_laysAlike_102 fun _ _ _ _ _ _ _ _ => ?_
          rw [hTL.1]
          exact ⟨fun _ => ⟨fun _ => ⟨by omega, skip N hc.symm hF hTL⟩, fun z => (z rfl).elim⟩, fun z => by omega⟩
        | succ n ih2 =>
          intro x hx x0 hc
          refine vX10_laysAlike_102 fun _ _ _ _ _ _ _ _ => ?_
          rw [hTL.1]
          refine ⟨fun z => by omega, fun _ => ⟨fun z => (z rfl).elim, fun y ey => ⟨by omega, ?_⟩⟩⟩
          rw [if_neg (fun q => q.1 rfl)] at ey
          rw [ey]
          exact ih2 (x + 1) (by omega) (by omega) hc
      refine vX10_laysAlike_15 fun _ _ _ _ _ => kX10_manyOf hLN.1 ⟨_, rfl, fun z => by omega, fun _ => kX10_lastOf hw hLN.1 ⟨f0, f1⟩ c1000 ⟨_, rfl, fun z => ?_, fun z => ⟨by omega, ?_⟩⟩⟩
      · exact dead L.length 0 (by omega) (by omega) (Or.inl (cand_none (fun to _ hcn => hcn.1 z)))
      · show sl_RI l mX10_hasCall [vR 1 0, vI i, vI (N 1 20 j)] N _
        rw [e20 j (by omega) s3]
        have lr' : isp (ly (M 1 1) rho) f (lsf (ly (M 1 1) rho) i j f) := by
          rcases lr with lr | lr
          · exact (z lr).elim
          · exact lr
        have lr'' := lr'
        obtain ⟨l1, l2, l3, l4, l5⟩ := lr'
        have al := hw.af (k := lsf (ly (M 1 1) rho) i j f) (by omega) l3
        refine kX10_hasCall hw hLN.1 s1 aj.2 ⟨_, rfl, fun zc => ?_, fun zc => ⟨by show 0 ≤ lsf (ly (M 1 1) rho) i j f ∧ lsf (ly (M 1 1) rho) i j f < 82; omega, ?_⟩⟩
        · refine dead L.length 0 (by omega) (by omega) (Or.inl (cand_none (fun to _ hcn => ?_)))
          by_cases q : ∃ k, i ≤ k ∧ k < ly (M 1 1) rho 3 j ∧ ly (M 1 1) rho 1 k = 7
          · obtain ⟨k, k0, k1, k2⟩ := q
            have := (hcn.2.2.2.1 (k - i) (by omega) (by omega)).1
            rw [show i + (k - i) = k by omega] at this
            exact this k2
          · rw [cif0 q] at zc; omega
        · have nci : ∀ k, i ≤ k → k < ly (M 1 1) rho 3 j → ly (M 1 1) rho 1 k ≠ 7 := fun k k0 k1 k2 => zc (by rw [cif1 ⟨k, k0, k1, k2⟩]; omega)
          show sl_RI l mX10_hasCall [vR 1 0, vI f, vI (N 1 20 (lsf (ly (M 1 1) rho) i j f))] N _
          rw [e20 _ (by omega) l3]
          refine kX10_hasCall hw hLN.1 f0 al.2 ⟨_, rfl, fun y ey => ?_⟩
          rw [e20 _ (by omega) l3, e20 j (by omega) s3] at ey
          show sl_At l mX10_laysAlike 102 [(0, vR 1 0), (1, vI i), (2, vI j), (3, vI (1 + (cnB (ly (M 1 1) rho) j 40 i : Int))), (4, vI f), (5, vI (lsf (ly (M 1 1) rho) i j f)), (6, vI y), (7, vI 0)] [] N Q
          by_cases ok : (¬ ∃ k, f ≤ k ∧ k < ly (M 1 1) rho 3 (lsf (ly (M 1 1) rho) i j f) ∧ ly (M 1 1) rho 1 k = 7) ∧ (ly (M 1 1) rho 3 (lsf (ly (M 1 1) rho) i j f) ≤ i ∨ ly (M 1 1) rho 3 j ≤ f)
          · have ey : y = 1 := by
              rw [ey, cif0 ok.1, if_pos]
              refine ⟨by omega, ?_⟩
              rcases ok.2 with q | q
              · exact Or.inl q
              · exact Or.inr (by omega)
            subst ey
            have ncf : ∀ k, f ≤ k → k < ly (M 1 1) rho 3 (lsf (ly (M 1 1) rho) i j f) → ly (M 1 1) rho 1 k ≠ 7 := fun k k0 k1 k2 => ok.1 ⟨k, k0, k1, k2⟩
            have ci := hG.cf hs' nci
            have cfr := hG.cf lr'' ncf
            by_cases hfree : f < fr
            · -- it meets one that is taken
              obtain ⟨q, hq, hq2⟩ := hfr hfree
              obtain ⟨ai, hai, eai⟩ := List.getElem_of_mem hq
              have live : ∀ (n : Nat) (x : Int), x + n = (L.length : Int) → 0 ≤ x → x ≤ ai → sl_At l mX10_laysAlike 102 [(0, vR 1 0), (1, vI i), (2, vI j), (3, vI (1 + (cnB (ly (M 1 1) rho) j 40 i : Int))), (4, vI f), (5, vI (lsf (ly (M 1 1) rho) i j f)), (6, vI 1), (7, vI x)] [] N Q := by
                intro n
                induction n with
                | zero => intro x hx x0 xa; omega
                | succ n ih2 =>
                  intro x hx x0 xa
                  refine vX10_laysAlike_102 fun _ _ _ _ _ _ _ _ => ?_
                  rw [hTL.1]
                  have n40 : (L.length : Int) ≤ 40 := by omega
                  refine ⟨fun w => by omega, fun _ => ⟨fun _ => ⟨fun _ => ⟨by omega, by omega⟩, fun _ => ⟨by omega, by omega⟩⟩, fun y ey => ⟨by omega, ?_⟩⟩⟩
                  have xl : x.toNat < L.length := by omega
                  have tx := hTL.2 x.toNat _ (List.getElem?_eq_getElem xl)
                  rw [show ((x.toNat : Nat) : Int) = x by omega] at tx
                  have qx := hqL _ (List.getElem_mem xl)
                  rw [e20 _ (by omega) l3, tx.1, tx.2.1] at ey
                  by_cases cx : f ≤ L[x.toNat].1 + (ly (M 1 1) rho 3 j - i) - 1
                  · rw [if_neg (by omega)] at ey
                    rw [ey]
                    exact dead n (x + 1) (by omega) (by omega) (Or.inr hfree)
                  · rw [if_pos ⟨by omega, Or.inl ⟨by omega, Or.inr cx⟩⟩] at ey
                    rw [ey]
                    by_cases exa : x = ai
                    · have : L[x.toNat] = q := by
                        have : x.toNat = ai := by omega
                        simp only [this]; exact eai
                      rw [this] at cx; omega
                    · exact ih2 (x + 1) (by omega) (by omega) (by omega)
              exact live L.length 0 (by omega) (by omega) (by omega)
            · -- it is free
              have tf := tkn f f0 (by omega)
              have ti := tkn i s1 (by omega)
              have tj := tkn j (by omega) (by omega)
              have tl := tkn (lsf (ly (M 1 1) rho) i j f) (by omega) (by omega)
              have fin : sl_At l mX10_laysAlike 102 [(0, vR 1 0), (1, vI i), (2, vI j), (3, vI (1 + (cnB (ly (M 1 1) rho) j 40 i : Int))), (4, vI f), (5, vI (lsf (ly (M 1 1) rho) i j f)), (6, vI 1), (7, vI (L.length : Int))] [] N Q := by
                refine vX10_laysAlike_102 fun _ _ _ _ _ _ _ _ => ?_
                rw [hTL.1]
                refine ⟨fun _ => ⟨fun w => by omega, fun _ => ?_⟩, fun w => by omega⟩
                have r41 : ∀ k, 0 ≤ k → k < ly (M 1 1) rho 0 0 → N 1 1 (41 + tk (M 1 1) k) = tp (cutR (M 1 1)) 3 (tk (M 1 1) k) := by
                  intro k k0 k1
                  have a := tkn k k0 (by omega)
                  rw [hF.row]
                  exact (TG.tr hT (tk (M 1 1) k) a.1 (a.2.2 k1)).2.1
                rw [e21 _ (by omega) l3, e21 f f0 f1, e21 j (by omega) s3, e21 i s1 (by omega), r41 _ (by omega) l3, r41 j (by omega) s3, ci.2.2.1, cfr.2.2.1]
                have cg := cfr.2.2.2.2.2.1
                have cig := ci.2.2.2.2.2.1
                have cg4 := cg.2.2.2.1
                have cig4 := cig.2.2.2.1
                rw [e00] at cg4 cig4
                refine ⟨by omega, by omega, by omega, by omega, by omega, by omega, by omega, by omega, fun w => ⟨by omega, skip N (Or.inr (cand_none (fun to _ hcn => ?_))) hF hTL⟩, fun w => ?_⟩
                · have := hcn.2.1; omega
                · have esz : ly (M 1 1) rho 3 (lsf (ly (M 1 1) rho) i j f) - f = ly (M 1 1) rho 3 j - i := by omega
                  have trN : TR (N 1 1) (tp (cutR (M 1 1))) := by rw [hF.row]; exact TG.tr hT
                  rw [esz] at cg cg4
                  have hsh : (∀ x, 0 ≤ x → x < ly (M 1 1) rho 3 j - i → shR (tp (cutR (M 1 1))) (tk (M 1 1) i) (tk (M 1 1) f) x) ↔ (∀ x, 0 ≤ x → x < ly (M 1 1) rho 3 j - i → shp (ly (M 1 1) rho) i f x) := by
                    rw [shR_shq cig cg, shp_shq ci cfr esz]
                    exact ⟨fun h x x0 x1 => ⟨nci (i + x) (by omega) (by omega), h x x0 x1⟩, fun h x x0 x1 => (h x x0 x1).2⟩
                  have hnm := nms_told hT ci cfr esz (to := fun _ => -1)
                  refine kX10_areAlike hT.1 trN (fun t t0 t1 => ⟨(hT.2.2.2 t t0 t1).2.2.1, fun z => (hT.2.2.2 t t0 t1).2.1 z⟩) (n := ly (M 1 1) rho 3 j - i) ti.1 tf.1 (by omega) (by rw [e00]; omega) (by rw [e00]; omega) (fun to N1 hsR hnT hTr hF1 => ⟨_, rfl, fun u => by omega, fun _ => ?_⟩) (fun hno N1 hF1 => ⟨_, rfl, fun _ => ⟨by omega, ?_⟩, fun u => (u rfl).elim⟩)
                  · -- they are alike
                    have hmt : mtc (ly (M 1 1) rho) i j f to := ⟨hsh.mp hsR, by rw [hnm]; exact hnT⟩
                    have FA1 : FAl M N1 := hF.tr hF1.al
                    have n8s : ∀ y, 0 ≤ y → y < 0 + ((ly (M 1 1) rho 3 j - i).toNat : Int) → 0 ≤ ly (M 1 1) rho 11 (i + y) ∧ N8 (ly (M 1 1) rho) (i + y) ∧ N8 (ly (M 1 1) rho) (f + y) ∧ ly (M 1 1) rho 1 (i + y) = ly (M 1 1) rho 1 (f + y) := by
                      intro y y0 y1
                      have p1 := rd.2.2 (i + y) (by omega) (by omega)
                      have p2 := rd.2.2 (f + y) (by omega) (by omega)
                      exact ⟨p1.1.1, fun q => ((p1.2.1 (by omega)).2.2 q).2, fun q => ((p2.2.1 (by omega)).2.2 q).2, (hmt.1 y y0 (by omega)).2.1⟩
                    have nsp := nms_spec (P := ly (M 1 1) rho) (i := i) (f := f) _ 0 (fun _ => -1) to n8s Inj.none hmt.2
                    have dom : ∀ v : Nat, v < 8 → (v : Int) ∈ ocf (ly (M 1 1) rho) i j → to v ≠ -1 := fun v hv hm => (nsp.2.2.1 v (by omega) (by omega)).mpr (Or.inr (by rw [Int.add_zero]; exact hm))
                    refine spn N1 FA1 i j hs' _ (fun O1 sp1 fs1 => ⟨rfl, ?_⟩)
                    have tr1 : Tr O1 to := ⟨hTr.1, fun v v0 v1 => by rw [fs1 1 50 v (by omega)]; exact hTr.2 v v0 v1⟩
                    show sl_RI l mX10_answered [vR 1 0, vI (O1 1 0 34)] O1 _
                    rw [sp1.2.2.2.1]
                    refine kX10_answered tr1 (fun v hv hb => dom v hv (in_oc hG hs' nci hv hb)) ⟨_, rfl, ?_⟩
                    show sl_RI l mX10_answered [vR 1 0, vI (O1 1 0 35)] O1 _
                    rw [sp1.2.2.2.2.1]
                    refine kX10_answered tr1 (fun v hv hb => dom v hv (out_oc hG hs' nci hv hb)) ⟨_, rfl, ?_⟩
                    refine spn O1 (FA1.tr fs1.al) f (lsf (ly (M 1 1) rho) i j f) lr'' _ (fun O2 sp2 fs2 => ⟨rfl, ?_⟩)
                    have FA2 : FAl M O2 := (FA1.tr fs1.al).tr fs2.al
                    have TL2 : TrL O2 L (ly (M 1 1) rho 3 j - i) := by
                      refine ⟨by rw [fs2 1 0 45 (by omega), fs1 1 0 45 (by omega), hF1 1 0 45 (by omega)]; exact hTL.1, fun a q hq => ?_⟩
                      have := hTL.2 a q hq
                      rw [fs2 1 47 a (by omega), fs1 1 47 a (by omega), hF1 1 47 a (by omega), fs2 1 48 a (by omega), fs1 1 48 a (by omega), hF1 1 48 a (by omega)]
                      exact ⟨this.1, this.2.1, fun v v0 v1 => by rw [fs2 1 49 _ (by omega), fs1 1 49 _ (by omega), hF1 1 49 _ (by omega)]; exact this.2.2 v v0 v1⟩
                    show (O2 1 0 37 ≠ 0 → _) ∧ (¬ (O2 1 0 37 ≠ 0) → _)
                    rw [sp2.2.2.2.2.2.1, sp2.2.2.1, sp2.2.2.2.1, sp2.2.2.2.2.1, sp1.2.2.1]
                    have none_of : (¬ (sB (ly (M 1 1) rho) f (lsf (ly (M 1 1) rho) i j f) = 0 ∧ sX (ly (M 1 1) rho) f (ly (M 1 1) rho 3 (lsf (ly (M 1 1) rho) i j f) - 1) = sX (ly (M 1 1) rho) i (ly (M 1 1) rho 3 j - 1) ∧ sI (ly (M 1 1) rho) f (lsf (ly (M 1 1) rho) i j f) = rset (pkn to) (sI (ly (M 1 1) rho) i j) ∧ sO (ly (M 1 1) rho) f (lsf (ly (M 1 1) rho) i j f) = rset (pkn to) (sO (ly (M 1 1) rho) i j))) → cand (ly (M 1 1) rho) i j f = none := by
                      intro hh
                      refine cand_none (fun to' e hcn => ?_)
                      rw [hmt.2] at e
                      injection e with e
                      subst e
                      exact hh ⟨hcn.2.2.2.2.1, hcn.2.2.2.2.2.1, hcn.2.2.2.2.2.2.1, hcn.2.2.2.2.2.2.2⟩
                    refine ⟨fun u => ⟨by omega, skip O2 (Or.inr (none_of (fun q => u q.1))) FA2 TL2⟩, fun u => ⟨fun u2 => ⟨by omega, skip O2 (Or.inr (none_of (fun q => u2 q.2.1))) FA2 TL2⟩, fun u2 => ⟨fun u3 => ⟨by omega, skip O2 (Or.inr (none_of (fun q => u3 q.2.2.1))) FA2 TL2⟩, fun u3 => ⟨fun u4 => ⟨by omega, skip O2 (Or.inr (none_of (fun q => u4 q.2.2.2))) FA2 TL2⟩, fun u4 => ?_⟩⟩⟩⟩
                    have cnd : Cnd (ly (M 1 1) rho) i j f to := ⟨z, esz, ok.2.symm, hmt.1, by omega, by omega, by omega, by omega⟩
                    have cs := cand_some hmt.2 cnd
                    rw [TL2.1]
                    refine ⟨by omega, fun M33 e33 => ?_⟩
                    have v33 : M33 1 0 45 = L.length := by rw [e33]; simp only [sl_wr]; rw [if_neg (by omega)]; exact TL2.1
                    have v20 : M33 1 20 (lsf (ly (M 1 1) rho) i j f) = ly (M 1 1) rho 3 (lsf (ly (M 1 1) rho) i j f) := by
                      have := ((FA2.laf hw hL).1.2.2 (lsf (ly (M 1 1) rho) i j f) (by omega) l3).2.2.1
                      rw [Int.zero_add] at this
                      rw [e33]; simp only [sl_wr]; rw [if_neg (by omega)]; exact this
                    show (0 ≤ M33 1 0 45 ∧ M33 1 0 45 < 40) ∧ sl_rg (M33 1 20 (lsf (ly (M 1 1) rho) i j f) - 1) ∧ ∀ M36, M36 = sl_wr M33 1 48 (M33 1 0 45) (M33 1 20 (lsf (ly (M 1 1) rho) i j f) - 1) → _
                    rw [v33, v20]
                    refine ⟨by omega, by omega, fun M36 e36 => ?_⟩
                    have f36 : ∀ o a b, ¬ (o = 1 ∧ (a = 47 ∨ a = 48) ∧ b = (L.length : Int)) → M36 o a b = O2 o a b := fun o a b zz => by rw [e36, e33]; simp only [sl_wr]; rw [if_neg (by omega), if_neg (by omega)]
                    have w47 : M36 1 47 L.length = f := by rw [e36, e33]; simp [sl_wr]
                    have w48 : M36 1 48 L.length = ly (M 1 1) rho 3 (lsf (ly (M 1 1) rho) i j f) - 1 := by rw [e36, sl_wr_s]
                    have cpy50 : ∀ (n : Nat) (v : Int) (O : sl_M), v + n = 8 → 0 ≤ v → (∀ o a b, ¬ (o = 1 ∧ a = 49 ∧ 8 * (L.length : Int) ≤ b) → O o a b = M36 o a b) → (∀ u, 0 ≤ u → u < v → O 1 49 (8 * (L.length : Int) + u) = to u) → sl_At l mX10_laysAlike 361 [(0, vR 1 0), (1, vI i), (2, vI j), (3, vI (1 + (cnB (ly (M 1 1) rho) j 40 i : Int))), (4, vI f), (10, vI v)] [] O Q := by
                      intro n
                      induction n with
                      | zero =>
                        intro v O hv v0 hO hu
                        have o45 : O 1 0 45 = L.length := by rw [hO 1 0 45 (by omega), f36 1 0 45 (by omega)]; exact TL2.1
                        refine vX10_laysAlike_361 fun _ _ _ _ _ _ => ?_
                        rw [o45]
                        refine ⟨fun _ => ⟨by omega, fun M3 e3 => ⟨by omega, ?_⟩⟩, fun u => by omega⟩
                        have f3 : ∀ o a b, ¬ (o = 1 ∧ a = 0 ∧ b = 45) → M3 o a b = O o a b := fun o a b zz => by rw [e3]; simp only [sl_wr]; rw [if_neg (by omega)]
                        refine ih (f + 1) (f + (ly (M 1 1) rho 3 j - i)) M3 (L ++ [(f, to)]) (by omega) (by omega) (fun o a b zz => by rw [f3 o a b (by omega), hO o a b (by omega), f36 o a b (by omega)]; exact FA2 o a b zz) ⟨by rw [e3, sl_wr_s]; simp, fun a q hq => ?_⟩ (by simp; omega) (fun q hq => ?_) (fun u => ⟨(f, to), List.mem_append_right _ (List.mem_singleton.mpr rfl), rfl⟩) (by rw [he, tks_take hfree cs, List.append_assoc]; rfl)
                        · by_cases ha : a < L.length
                          · rw [List.getElem?_append_left ha] at hq
                            have t := TL2.2 a q hq
                            rw [f3 1 47 a (by omega), hO 1 47 a (by omega), f36 1 47 a (by omega), f3 1 48 a (by omega), hO 1 48 a (by omega), f36 1 48 a (by omega)]
                            exact ⟨t.1, t.2.1, fun v v0 v1 => by rw [f3 1 49 _ (by omega), hO 1 49 _ (by omega), f36 1 49 _ (by omega)]; exact t.2.2 v v0 v1⟩
                          · rw [List.getElem?_append_right (by omega)] at hq
                            have ea : a = L.length := by
                              refine Nat.le_antisymm ?_ (by omega)
                              refine Nat.not_lt.mp fun u => ?_
                              rw [List.getElem?_eq_none (by simp; omega)] at hq
                              cases hq
                            rw [ea, Nat.sub_self] at hq
                            injection hq with hq
                            subst hq
                            rw [ea, f3 1 47 _ (by omega), hO 1 47 _ (by omega), w47, f3 1 48 _ (by omega), hO 1 48 _ (by omega), w48]
                            exact ⟨rfl, by show _ = f + _ - 1; omega, fun v v0 v1 => by rw [f3 1 49 _ (by omega)]; exact hu v v0 (by omega)⟩
                        · rcases List.mem_append.mp hq with hq | hq
                          · have := hqL q hq; exact ⟨this.1, by omega, by omega⟩
                          · rw [List.mem_singleton] at hq
                            subst hq
                            exact ⟨f0, by show f < f + 1; omega, Int.le_refl _⟩
                      | succ n ih3 =>
                        intro v O hv v0 hO hu
                        have o45 : O 1 0 45 = L.length := by rw [hO 1 0 45 (by omega), f36 1 0 45 (by omega)]; exact TL2.1
                        have o50 : O 1 50 v = to v := by rw [hO 1 50 v (by omega), f36 1 50 v (by omega), fs2 1 50 v (by omega)]; exact tr1.2 v v0 (by omega)
                        refine vX10_laysAlike_361 fun _ _ _ _ _ _ => ?_
                        rw [o45, o50]
                        refine ⟨fun u => by omega, fun _ => ⟨by omega, by omega, fun M7 e7 => ⟨by omega, ih3 (v + 1) M7 (by omega) (by omega) (fun o a b zz => by rw [e7]; simp only [sl_wr]; rw [if_neg (by omega)]; exact hO o a b zz) (fun u u0 u1 => ?_)⟩⟩⟩
                        by_cases eu : u = v
                        · rw [eu, e7, sl_wr_s]
                        · rw [e7]; simp only [sl_wr]; rw [if_neg (by omega)]; exact hu u u0 (by omega)
                    exact cpy50 8 0 M36 (by omega) (by omega) (fun _ _ _ _ => rfl) (fun u u0 u1 => by omega)
                  · refine skip N1 (Or.inr (cand_none (fun to' e hcn => hno ⟨hsh.mpr hcn.2.2.2.1, to', by rw [← hnm]; exact e⟩))) (hF.tr hF1.al) ⟨by rw [hF1 1 0 45 (by omega)]; exact hTL.1, fun a q hq => ?_⟩
                    rw [hF1 1 47 a (by omega), hF1 1 48 a (by omega)]
                    have := hTL.2 a q hq
                    exact ⟨this.1, this.2.1, fun v v0 v1 => by rw [hF1 1 49 _ (by omega)]; exact this.2.2 v v0 v1⟩
              have live : ∀ (n : Nat) (x : Int), x + n = (L.length : Int) → 0 ≤ x → sl_At l mX10_laysAlike 102 [(0, vR 1 0), (1, vI i), (2, vI j), (3, vI (1 + (cnB (ly (M 1 1) rho) j 40 i : Int))), (4, vI f), (5, vI (lsf (ly (M 1 1) rho) i j f)), (6, vI 1), (7, vI x)] [] N Q := by
                intro n
                induction n with
                | zero =>
                  intro x hx x0
                  have : x = L.length := by omega
                  rw [this]; exact fin
                | succ n ih2 =>
                  intro x hx x0
                  refine vX10_laysAlike_102 fun _ _ _ _ _ _ _ _ => ?_
                  rw [hTL.1]
                  refine ⟨fun w => by omega, fun _ => ⟨fun _ => ⟨fun _ => ⟨by omega, by omega⟩, fun _ => ⟨by omega, by omega⟩⟩, fun y ey => ⟨by omega, ?_⟩⟩⟩
                  have xl : x.toNat < L.length := by omega
                  have tx := hTL.2 x.toNat _ (List.getElem?_eq_getElem xl)
                  rw [show ((x.toNat : Nat) : Int) = x by omega] at tx
                  have qx := hqL _ (List.getElem_mem xl)
                  rw [e20 _ (by omega) l3, tx.1, tx.2.1, if_pos ⟨by omega, Or.inl ⟨z, Or.inr (by omega)⟩⟩] at ey
                  rw [ey]
                  exact ih2 (x + 1) (by omega) (by omega)
              exact live L.length 0 (by omega) (by omega)
          · have ey : y = 0 := by
              rw [ey, if_neg]
              rintro ⟨q1, q2⟩
              refine ok ⟨fun q => q1 (by rw [cif1 q]; omega), ?_⟩
              rcases q2 with q2 | q2
              · exact Or.inl q2
              · exact Or.inr (by omega)
            subst ey
            refine dead L.length 0 (by omega) (by omega) (Or.inl (cand_none (fun to _ hcn => ok ⟨?_, hcn.2.2.1.symm⟩)))
            rintro ⟨k, k0, k1, k2⟩
            have sz := hcn.2.1
            have q := hcn.2.2.2.1 (k - f) (by omega) (by omega)
            have q1 := q.1
            have q2 := q.2.1
            rw [show f + (k - f) = k by omega] at q2
            omega
  refine eX10_laysAlike (vX10_laysAlike_0 fun _ _ _ M1 e1 => ?_)
  have F1 : FAl M M1 := fun o a b zz => by rw [e1]; simp only [sl_wr]; rw [if_neg (by omega)]
  refine kX10_lengthOf hw h2 (F1.laf hw hL).1 hs' ⟨_, rfl, ?_⟩
  exact loop (ly (M 1 1) rho 0 0).toNat 0 0 M1 [] (by omega) (by omega) F1 ⟨by rw [e1, sl_wr_s]; rfl, fun a q hq => by simp at hq⟩ (by simp) (fun q hq => by cases hq) (fun z => by omega) rfl
theorem kX10_alike (hG : Good (M 1 1) rho) (ht : Tl M) {i j w k : Int} (hQ : ∀ N, FR M N (qAlike (ly (M 1 1) rho) i j w k).2 → Q (some (vI (qAlike (ly (M 1 1) rho) i j w k).1)) N) : sl_Runs l mX10_alike [vR 1 0, vI i, vI j, vI w, vI k] M Q := by
  have hr := hG.rda
  have hw := hG.wf
  refine eX10_alike (vX10_alike_0 fun _ _ _ _ _ => kX10_lays hr.1 hr.2.1 fun N f1 l1 l2 => ⟨rfl, ?_⟩)
  have T2 := f1.fq.tl ht
  have er : N 1 1 = M 1 1 := f1.fq.row
  have bad : ¬ ((0 ≤ w ∧ w ≤ 2) ∧ 0 ≤ k ∧ (w = 2 → k ≤ 7)) → sl_RI l mX10_bad [vR 1 0] N (fun y M => Q (some (vI y)) M) := fun z => kX10_bad T2 (fun O f2 => ⟨_, rfl, ask hQ (if_pos z) (f1.fq.ref f2)⟩)
  have go : ((0 ≤ w ∧ w ≤ 2) ∧ 0 ≤ k ∧ (w = 2 → k ≤ 7)) → sl_At l mX10_alike 35 [(0, vR 1 0), (1, vI i), (2, vI j), (3, vI w), (4, vI k)] [] N Q := by
    intro hq
    refine vX10_alike_35 fun _ _ _ _ _ => kX10_isSpan hw l1.1 ⟨_, rfl, fun z => ?_, fun z => ?_⟩
    · have hs := isp_yes z
      have hG' : Good (N 1 1) rho := by rw [er]; exact hG
      refine kX10_laysAlike hG' (by rw [er]; exact l1) (by rw [er]; exact hs) (fun O f2 sp tl => ⟨rfl, ?_⟩)
      rw [er] at tl
      have l40 : (tka (ly (M 1 1) rho) i j).length ≤ 40 := by
        have : (tka (ly (M 1 1) rho) i j).length ≤ _ := tks_len (P := ly (M 1 1) rho) (i := i) (j := j) (ly (M 1 1) rho 0 0).toNat 0 0
        have := hw.n0; omega
      have fq : FQ N O := fun o a b zz => f2 o a b (by omega)
      have cr : FR M O 0 := (f1.fq.tr fq).fr
      refine ⟨fun z0 => ⟨fun z1 => ⟨fun _ => by omega, ?_⟩, fun z1 => ⟨fun z2 => by rw [tl.1] at z2; omega, ?_⟩⟩, fun z0 => ?_⟩
      · rw [tl.1]
        refine ask hQ ?_ cr
        unfold qAlike; rw [if_neg (fun q => q hq), if_neg (fun q => q hs), if_neg z0, if_neg z1]
        cases h : tka (ly (M 1 1) rho) i j with
        | nil => rw [if_neg (by simp)]
        | cons a t =>
          rw [if_pos (by rw [List.length_cons]; omega)]
          have := (tl.2 0 a (by rw [h]; rfl)).2.2 k (by omega) (by have := hq.2.2 (by omega); omega)
          rw [show 8 * ((0 : Nat) : Int) + k = k by omega] at this
          rw [this]
      · rw [tl.1]
        refine ask hQ ?_ cr
        unfold qAlike; rw [if_neg (fun q => q hq), if_neg (fun q => q hs), if_neg z0, if_pos (by omega)]
        by_cases c : ((tka (ly (M 1 1) rho) i j).length : Int) ≤ k
        · rw [if_pos c, if_pos c]
        · rw [if_neg c, if_neg c]
          have hlt : k.toNat < (tka (ly (M 1 1) rho) i j).length := by omega
          have := (tl.2 k.toNat _ (List.getElem?_eq_getElem hlt)).1
          rw [show ((k.toNat : Nat) : Int) = k by omega] at this
          rw [this, List.getD_eq_getElem?_getD, List.getElem?_eq_getElem hlt]; rfl
      · rw [tl.1]
        refine ask hQ ?_ cr
        unfold qAlike; rw [if_neg (fun q => q hq), if_neg (fun q => q hs), if_pos (by omega)]
    · have hs := isp_no z
      refine kX10_no T2 (fun O f2 => ⟨_, rfl, ask hQ ?_ (f1.fq.ref f2)⟩)
      unfold qAlike; rw [if_neg (fun q => q hq), if_pos hs]
  exact ⟨fun z => bad (fun q => z q.1), fun z => ⟨fun z2 => bad (by omega), fun z2 => ⟨fun z3 => go (by omega), fun z3 => ⟨fun z4 => go (by omega), fun z4 => bad (by omega)⟩⟩⟩⟩
end K
