/-! The reference: questions of a program, and their answers (answer, refusal) -/
def RdA (R : Int → Int) (P P' : Pg) : Prop := RdB R 0 P ∧ RdB R 41 P' ∧ PRs R P
def qStatement (P : Pg) (k w : Int) : Int × Int := if (0 ≤ k ∧ k < P 0 0) ∧ 0 ≤ w ∧ w ≤ 6 then (prp P k w, 0) else (-2, 1)
def qSign (P : Pg) (k i : Int) : Int × Int := if (0 ≤ k ∧ k < P 0 0) ∧ 0 ≤ i then (sgn P k i, 0) else (-2, 1)
noncomputable def qSpan (P : Pg) (i j w : Int) : Int × Int := if ¬ (0 ≤ w ∧ w ≤ 3) then (-2, 1) else if ¬ isp P i j then (-3, 2) else (if w = 0 then sX P i (P 3 j - 1) else if w = 1 then sI P i j else if w = 2 then sO P i j else sB P i j, 0)
noncomputable def qHands (P : Pg) (i j w k : Int) : Int × Int := if ¬ (0 ≤ w ∧ w ≤ 1 ∧ 0 ≤ k) then (-2, 1) else if ¬ isp P i j then (-3, 2) else (fnd k (od (if w = 0 then sI P i j else sO P i j) [] (ocs P (P 3 j - i).toNat i)), 0)
noncomputable def qLive (P : Pg) (i j e v : Int) : Int × Int := if ¬ (e4 e ∧ 0 ≤ v ∧ v ≤ 7) then (-2, 1) else if ¬ isp P i j then (-3, 2) else if iand (sX P i (P 3 j - 1)) e = 0 then (-3, 2) else (cif (sL P j e v.toNat) 1 0, 0)
noncomputable def qSure (P : Pg) (k v : Int) : Int × Int := if (0 ≤ k ∧ k < P 0 0) ∧ 0 ≤ v ∧ v ≤ 7 then (cif (nS P k v.toNat) 0 1, 0) else (-2, 1)
section K
variable {l : Launch} {M : sl_M} {Q : sl_R} {P P' : Pg}
theorem ask {N : sl_M} {q : Int × Int} {a r : Int} (hQ : ∀ N, FR M N q.2 → Q (some (vI q.1)) N) (e : q = (a, r)) (h : FR M N r) : Q (some (vI a)) N := by
  subst e
  exact hQ N h
theorem FLa.rda {N : sl_M} (h : FLa M N) (hR : RdA (M 1 1) P P') : RdA (N 1 1) P P' := by rw [h.fq.row]; exact hR
theorem kX10_statement (hR : RdA (M 1 1) P P') (ht : Tl M) {k w : Int} (hQ : ∀ N, FR M N (qStatement P k w).2 → Q (some (vI (qStatement P k w).1)) N) : sl_Runs l mX10_statement [vR 1 0, vI k, vI w] M Q := by
  have hw := hR.1.1
  refine eX10_statement (vX10_statement_0 fun _ _ _ => kX10_lays hR.1 hR.2.1 fun N f1 l1 l2 => ⟨rfl, ?_⟩)
  have R2 := f1.rda hR
  have T2 := f1.fq.tl ht
  refine kX10_isStatement hw l1.1 ⟨_, rfl, fun q => ?_, fun q => ⟨fun q2 => ?_, fun q2 => ?_⟩⟩
  · refine kX10_bad T2 (fun O f2 => ⟨_, rfl, ask hQ (if_neg fun z => ?_) (f1.fq.ref f2)⟩)
    rw [if_pos z.1] at q; omega
  · refine kX10_bad T2 (fun O f2 => ⟨_, rfl, ask hQ (if_neg fun z => q2 z.2) (f1.fq.ref f2)⟩)
  · have hk : 0 ≤ k ∧ k < P 0 0 := by
      by_cases z : 0 ≤ k ∧ k < P 0 0
      · exact z
      · rw [if_neg z] at q; omega
    exact kX10_statementIs hw l1.1 l1.2.1 R2.1.2.2.1 R2.2.2 hk q2 ⟨_, rfl, ask hQ (if_pos ⟨hk, q2⟩) f1.fq.fr⟩
theorem kX10_sign (hR : RdA (M 1 1) P P') (ht : Tl M) {k i : Int} (hQ : ∀ N, FR M N (qSign P k i).2 → Q (some (vI (qSign P k i).1)) N) : sl_Runs l mX10_sign [vR 1 0, vI k, vI i] M Q := by
  have hw := hR.1.1
  refine eX10_sign (vX10_sign_0 fun _ _ _ => kX10_lays hR.1 hR.2.1 fun N f1 l1 l2 => ⟨rfl, ?_⟩)
  have R2 := f1.rda hR
  have T2 := f1.fq.tl ht
  refine kX10_isStatement hw l1.1 ⟨_, rfl, fun q => ?_, fun q => ⟨fun q2 => ?_, fun q2 => ?_⟩⟩
  · refine kX10_bad T2 (fun O f2 => ⟨_, rfl, ask hQ (if_neg fun z => ?_) (f1.fq.ref f2)⟩)
    rw [if_pos z.1] at q; omega
  · refine kX10_bad T2 (fun O f2 => ⟨_, rfl, ask hQ (if_neg fun z => ?_) (f1.fq.ref f2)⟩)
    omega
  · have hk : 0 ≤ k ∧ k < P 0 0 := by
      by_cases z : 0 ≤ k ∧ k < P 0 0
      · exact z
      · rw [if_neg z] at q; omega
    exact kX10_signOf hw l1.1 l1.2.1 R2.1.2.2.1 R2.2.2 hk (by omega) ⟨_, rfl, ask hQ (if_pos ⟨hk, by omega⟩) f1.fq.fr⟩
theorem kX10_span (hR : RdA (M 1 1) P P') (ht : Tl M) {i j w : Int} (hQ : ∀ N, FR M N (qSpan P i j w).2 → Q (some (vI (qSpan P i j w).1)) N) : sl_Runs l mX10_span [vR 1 0, vI i, vI j, vI w] M Q := by
  have hw := hR.1.1
  refine eX10_span (vX10_span_0 fun _ _ _ _ => kX10_lays hR.1 hR.2.1 fun N f1 l1 l2 => ⟨rfl, ?_⟩)
  have R2 := f1.rda hR
  have T2 := f1.fq.tl ht
  refine ⟨fun q => kX10_isSpan hw l1.1 ⟨_, rfl, fun q2 => ?_, fun q2 => ?_⟩, fun q => ?_⟩
  · have hs : isp P i j := by
      refine Classical.byContradiction fun z => ?_
      rw [if_neg z] at q2; omega
    refine kX10_laysSpan hw l1.laf R2.1.2.2.1 R2.1.2.2.2 hs (fun O s f2 => ⟨rfl, ask hQ ?_ (f1.fq.tr f2.fq).fr⟩)
    unfold qSpan
    obtain ⟨-, -, s3, s4, s5, s6, -⟩ := s
    rw [if_neg (fun z => z q), if_neg (fun z => z hs), s3, s4, s5, s6]
    by_cases w0 : w = 0
    · rw [if_pos w0, if_neg (fun z => z w0)]
    · rw [if_neg w0, if_pos w0]
      by_cases w1 : w = 1
      · rw [if_pos w1, if_neg (fun z => z w1)]
      · rw [if_neg w1, if_pos w1]
        by_cases w2 : w = 2
        · rw [if_pos w2, if_neg (fun z => z w2)]
        · rw [if_neg w2, if_pos w2]
  · have hs : ¬ isp P i j := fun z => by rw [if_pos z] at q2; omega
    refine kX10_no T2 (fun O f2 => ⟨_, rfl, ask hQ ?_ (f1.fq.ref f2)⟩)
    unfold qSpan
    rw [if_neg (fun z => z q), if_pos hs]
  · refine kX10_bad T2 (fun O f2 => ⟨_, rfl, ask hQ ?_ (f1.fq.ref f2)⟩)
    unfold qSpan
    rw [if_pos q]
theorem kX10_hands (hR : RdA (M 1 1) P P') (ht : Tl M) {i j w k : Int} (hQ : ∀ N, FR M N (qHands P i j w k).2 → Q (some (vI (qHands P i j w k).1)) N) : sl_Runs l mX10_hands [vR 1 0, vI i, vI j, vI w, vI k] M Q := by
  have hw := hR.1.1
  refine eX10_hands (vX10_hands_0 fun _ _ _ _ _ => kX10_lays hR.1 hR.2.1 fun N f1 l1 l2 => ⟨rfl, ?_⟩)
  have R2 := f1.rda hR
  have T2 := f1.fq.tl ht
  have bad : ¬ (0 ≤ w ∧ w ≤ 1 ∧ 0 ≤ k) → sl_RI l mX10_bad [vR 1 0] N (fun y M => Q (some (vI y)) M) := by
    intro z
    refine kX10_bad T2 (fun O f2 => ⟨_, rfl, ask hQ ?_ (f1.fq.ref f2)⟩)
    unfold qHands
    rw [if_pos z]
  refine ⟨fun q => bad (by omega), fun q => ⟨fun q1 => kX10_isSpan hw l1.1 ⟨_, rfl, fun q2 => ?_, fun q2 => ?_⟩, fun q1 => bad (by omega)⟩⟩
  · have hs : isp P i j := by
      refine Classical.byContradiction fun z => ?_
      rw [if_neg z] at q2; omega
    have hs' := hs
    obtain ⟨i0, i1, j1, -⟩ := hs'
    have haf := hw.af (k := j) (by omega) j1
    refine kX10_laysSpan hw l1.laf R2.1.2.2.1 R2.1.2.2.2 hs (fun O s f2 => ⟨rfl, ?_⟩)
    obtain ⟨s1, s2, s3, s4, s5, s6, -⟩ := s
    have R3 : O 1 1 = M 1 1 := (f1.fq.tr f2.fq).row
    have L3 := f2.laf l1.laf
    have e : (if w ≠ 0 then O 1 0 35 else O 1 0 34) = (if w = 0 then sI P i j else sO P i j) := by
      rw [s4, s5]
      by_cases w0 : w = 0
      · rw [if_pos w0, if_neg (fun z => z w0)]
      · rw [if_neg w0, if_pos w0]
    rw [e]
    refine kX10_listOf hw L3.1 L3.2.1 (by rw [R3]; exact hR.1.2.2.1) (by rw [R3]; exact hR.2.2) q1 (by omega) s1 s2 (fun O2 f3 _ => ⟨_, rfl, ask hQ ?_ ((f1.fq.tr f2.fq).tr f3.fq).fr⟩)
    unfold qHands
    rw [if_neg (fun z => z ⟨q.1, q.2, q1⟩), if_neg (fun z => z hs)]
  · have hs : ¬ isp P i j := fun z => by rw [if_pos z] at q2; omega
    refine kX10_no T2 (fun O f2 => ⟨_, rfl, ask hQ ?_ (f1.fq.ref f2)⟩)
    unfold qHands
    rw [if_neg (fun z => z ⟨q.1, q.2, q1⟩), if_pos hs]
theorem kX10_sure (hR : RdA (M 1 1) P P') (ht : Tl M) {k v : Int} (hQ : ∀ N, FR M N (qSure P k v).2 → Q (some (vI (qSure P k v).1)) N) : sl_Runs l mX10_sure [vR 1 0, vI k, vI v] M Q := by
  have hw := hR.1.1
  have hn := hw.n0
  refine eX10_sure (vX10_sure_0 fun _ _ _ => kX10_lays hR.1 hR.2.1 fun N f1 l1 l2 => ⟨rfl, ?_⟩)
  have T2 := f1.fq.tl ht
  refine kX10_isStatement hw l1.1 ⟨_, rfl, fun q => ?_, fun q => ⟨fun q2 => ?_, fun q2 => ?_⟩⟩
  · refine kX10_bad T2 (fun O f2 => ⟨_, rfl, ask hQ ?_ (f1.fq.ref f2)⟩)
    unfold qSure
    rw [if_neg fun z => ?_]
    rw [if_pos z.1] at q; omega
  · have hk : 0 ≤ k ∧ k < P 0 0 := by
      by_cases z : 0 ≤ k ∧ k < P 0 0
      · exact z
      · rw [if_neg z] at q; omega
    refine ⟨by omega, ask hQ ?_ f1.fq.fr⟩
    unfold qSure
    rw [if_pos ⟨hk, q2⟩]
    have h := (l1.2.2.2.2.2 k hk.1 hk.2).2 v.toNat (by omega)
    unfold Sf at h
    rw [Int.zero_add] at h
    have hb : iand (ishr (ior (N 1 31 k) 3) v) 1 = 1 ↔ ¬ nS P k v.toNat := by
      rw [has1 (by omega), bt_ior, ← h]
      have h3 : bt 3 v.toNat = true → bt (N 1 31 k) v.toNat = true := by
        intro z
        refine Bool.not_eq_false _ |>.mp fun y => ?_
        have := (h.mp y).1
        rw [z] at this
        cases this
      cases h1 : bt (N 1 31 k) v.toNat
      · cases h2 : bt 3 v.toNat
        · simp
        · have := h3 h2; rw [h1] at this; cases this
      · simp
    by_cases z : nS P k v.toNat
    · rw [cif1 z, if_neg (fun y => hb.mp y z)]
    · rw [cif0 z, if_pos (hb.mpr z)]
  · refine kX10_bad T2 (fun O f2 => ⟨_, rfl, ask hQ ?_ (f1.fq.ref f2)⟩)
    unfold qSure
    rw [if_neg fun z => q2 z.2]
theorem kX10_live (hR : RdA (M 1 1) P P') (ht : Tl M) {i j e v : Int} (hQ : ∀ N, FR M N (qLive P i j e v).2 → Q (some (vI (qLive P i j e v).1)) N) : sl_Runs l mX10_live [vR 1 0, vI i, vI j, vI e, vI v] M Q := by
  have hw := hR.1.1
  refine eX10_live (vX10_live_0 fun _ _ _ _ _ => kX10_lays hR.1 hR.2.1 fun N f1 l1 l2 => ⟨rfl, ?_⟩)
  have R2 := f1.rda hR
  have T2 := f1.fq.tl ht
  have bad : ¬ (e4 e ∧ 0 ≤ v ∧ v ≤ 7) → sl_RI l mX10_bad [vR 1 0] N (fun y M => Q (some (vI y)) M) := by
    intro z
    refine kX10_bad T2 (fun O f2 => ⟨_, rfl, ask hQ ?_ (f1.fq.ref f2)⟩)
    unfold qLive
    rw [if_pos z]
  intro _ _
  refine ⟨fun q => bad (by unfold e4; omega), fun q => ⟨fun q1 => kX10_isSpan hw l1.1 ⟨_, rfl, fun q2 => ?_, fun q2 => ?_⟩, fun q1 => bad (by omega)⟩⟩
  · have hs : isp P i j := by
      refine Classical.byContradiction fun z => ?_
      rw [if_neg z] at q2; omega
    have he : e4 e := by unfold e4; omega
    refine kX10_laysSpan hw l1.laf R2.1.2.2.1 R2.1.2.2.2 hs (fun O s f2 => ⟨rfl, ?_⟩)
    obtain ⟨s1, s2, s3, s4, s5, s6, s7⟩ := s
    rw [s3]
    refine ⟨fun q3 => ⟨by unfold sp_place; split <;> (try split) <;> (try split) <;> omega, ask hQ ?_ (f1.fq.tr f2.fq).fr⟩, fun q3 => ?_⟩
    · unfold qLive
      rw [if_neg (fun z => z ⟨he, q1⟩), if_neg (fun z => z hs), if_neg q3]
      have h := (s7 e he).1.2 v.toNat (by omega)
      by_cases z : sL P j e v.toNat
      · rw [cif1 z, if_pos ((has1 (by omega)).mpr (h.mpr z))]
      · rw [cif0 z, if_neg (fun y => z (h.mp ((has1 (by omega)).mp y)))]
    · refine kX10_no ((f1.fq.tr f2.fq).tl ht) (fun O2 f3 => ⟨_, rfl, ask hQ ?_ ((f1.fq.tr f2.fq).ref f3)⟩)
      unfold qLive
      rw [if_neg (fun z => z ⟨he, q1⟩), if_neg (fun z => z hs), if_pos (by omega)]
  · have hs : ¬ isp P i j := fun z => by rw [if_pos z] at q2; omega
    have he : e4 e := by unfold e4; omega
    refine kX10_no T2 (fun O f2 => ⟨_, rfl, ask hQ ?_ (f1.fq.ref f2)⟩)
    unfold qLive
    rw [if_neg (fun z => z ⟨he, q1⟩), if_pos hs]
end K
