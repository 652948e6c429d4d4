/-! The reference: the symbols of a statement, and its lists -/
def PRs (R : Int → Int) (P : Pg) : Prop := ∀ k, 0 ≤ k → k < P 0 0 → (0 ≤ P 11 k ∧ P 11 k ≤ 12) ∧
  (P 1 k ≠ 7 → P 11 k = R (241 + P 30 k) ∧ (∀ i, 0 ≤ i → i < P 11 k → P 12 (16 * k + i) = R ((281 + (12 * P 30 k)) + i)) ∧ (P 1 k = 0 → P 6 k = R (201 + P 30 k) ∧ 0 ≤ P 6 k ∧ P 6 k < 8)) ∧
  (P 1 k = 7 → (0 ≤ irem (R (910 + P 31 k)) 16 ∧ irem (R (910 + P 31 k)) 16 ≤ 4) ∧ (0 ≤ irem (R (950 + P 31 k)) 16 ∧ irem (R (950 + P 31 k)) 16 ≤ 3) ∧ P 11 k = irem (R (910 + P 31 k)) 16 + 1 + irem (R (950 + P 31 k)) 16 ∧
    (∀ i, 0 ≤ i → i < irem (R (910 + P 31 k)) 16 → P 12 (16 * k + i) = 97 + nib (R (910 + P 31 k)) i ∧ 0 ≤ nib (R (910 + P 31 k)) i ∧ nib (R (910 + P 31 k)) i < 8) ∧ P 12 (16 * k + irem (R (910 + P 31 k)) 16) = 62 ∧
    (∀ i, 0 ≤ i → i < irem (R (950 + P 31 k)) 16 → P 12 (16 * k + (irem (R (910 + P 31 k)) 16 + 1 + i)) = 97 + nib (R (950 + P 31 k)) i ∧ 0 ≤ nib (R (950 + P 31 k)) i ∧ nib (R (950 + P 31 k)) i < 8) ∧ P 6 k = R (870 + P 31 k))
/-- a list of numbers: its length and then four bits each -/
def lpk (acc : List Int) : Int := ior (pkl acc acc.length) acc.length
section K
variable {l : Launch} {M : sl_M} {Q : sl_R} {P : Pg}
theorem FAc.tr {N O : sl_M} (h1 : FAc M N) (h2 : FAc N O) : FAc M O := fun o i j z => (h2 o i j z).trans (h1 o i j z)
theorem sy_app (k : Int) (b : Nat) : ∀ (a : Nat) (i : Int), sy P k (a + b) i = sy P k a i ++ sy P k b (i + a) := by
  intro a
  induction a with
  | zero => intro i; simp [sy]
  | succ a ih =>
    intro i
    rw [show a + 1 + b = (a + b) + 1 by omega, sy, ih, sy, show i + 1 + (a : Int) = i + ((a + 1 : Nat) : Int) by omega]
    rfl
theorem kX10_listOf (hw : WF P) (hL : Ld M 0 P) (hN : LdN M 0 P) (hR : PRf (M 1 1) P) (hS : PRs (M 1 1) P) {set k i t : Int} (hk : 0 ≤ k) (hi : 0 ≤ i ∧ i ≤ t ∧ t ≤ P 0 0) (h31 : M 1 0 31 = i) (h32 : M 1 0 32 = t) (hQ : ∀ N, FAc M N → N 1 0 43 = lpk (od set [] (ocs P (t - i).toNat i)) → Q (some (vI (fnd k (od set [] (ocs P (t - i).toNat i))))) N) : sl_Runs l mX10_listOf [vR 1 0, vI set, vI k] M Q := by
  have hn := hw.n0
  have row : ∀ N, FAc M N → N 1 1 = M 1 1 ∧ N 1 0 32 = t ∧ ∀ s, 0 ≤ s → s < P 0 0 → N 1 17 s = P 1 s ∧ N 1 21 s = P 30 s ∧ N 1 22 s = P 31 s := by
    intro N hf
    refine ⟨by funext j; exact hf 1 1 j (by omega), by rw [hf 1 0 32 (by omega)]; exact h32, fun s s0 s1 => ?_⟩
    have a := hL.2.2 s s0 s1
    have b := hN s s0 s1
    rw [Int.zero_add] at a b
    rw [hf 1 17 s (by omega), hf 1 21 s (by omega), hf 1 22 s (by omega)]
    exact ⟨a.1, b.1, b.2.1⟩
  have loop : ∀ (m : Nat) (s : Int) (acc : List Int) (N : sl_M), s = t - (m : Int) → 0 ≤ s → FAc M N → Acc N acc → od set acc (ocs P m s) = od set [] (ocs P (t - i).toNat i) → sl_At l mX10_listOf 23 [(0, vR 1 0), (1, vI set), (2, vI k), (3, vI (fnd k acc)), (4, vI s)] [] N Q := by
    intro m
    induction m with
    | zero =>
      intro s acc N es s0 hf hA ho
      have ho : acc = od set [] (ocs P (t - i).toNat i) := ho
      refine vX10_listOf_23 fun _ _ _ _ _ => ⟨fun _ M2 e2 => ?_, fun q => by rw [(row N hf).2.1] at q; omega⟩
      rw [ho]
      refine hQ M2 ?_ ?_
      · refine hf.tr fun o a j z => ?_
        rw [e2]; simp only [sl_wr]; rw [if_neg (by omega)]
      · rw [e2, sl_wr_s, hA.1, hA.2.1, ← ho]; rfl
    | succ m ih =>
      intro s acc N es s0 hf hA ho
      have sn : s < P 0 0 := by omega
      obtain ⟨q1, q2, q3⟩ := hS s s0 sn
      have pf := hR s s0 sn
      obtain ⟨r1, r2, r3⟩ := row N hf
      obtain ⟨k17, k21, k22⟩ := r3 s s0 sn
      rw [ocs, od_app] at ho
      have go : ∀ N', FAc M N' → Acc N' (od set acc (oc P s)) → sl_At l mX10_listOf 23 [(0, vR 1 0), (1, vI set), (2, vI k), (3, vI (fnd k (od set acc (oc P s)))), (4, vI (s + 1))] [] N' Q := fun N' f' a' => ih (s + 1) _ N' (by omega) (by omega) f' a' ho
      refine vX10_listOf_23 fun _ _ _ _ _ => ⟨fun q => by rw [r2] at q; omega, fun _ => ⟨by omega, fun c7 => ?_, fun c7 => ?_⟩⟩
      · rw [k17] at c7
        obtain ⟨l1, l2, l3⟩ := q2 c7
        rw [k21]
        have lp : ∀ (n : Nat) (h : Int) (ac : List Int) (N1 : sl_M), h = P 11 s - (n : Int) → 0 ≤ h → FAc M N1 → Acc N1 ac → od set ac ((sy P s n h).filterMap vo ++ (if P 1 s = 0 then [P 6 s] else [])) = od set acc (oc P s) → sl_At l mX10_listOf 182 [(0, vR 1 0), (1, vI set), (2, vI k), (3, vI (fnd k ac)), (4, vI s), (5, vI (P 30 s)), (6, vI h)] [] N1 Q := by
          intro n
          induction n with
          | zero =>
            intro h ac N1 eh h0 f1 a1 o1
            obtain ⟨z1, z2, z3⟩ := row N1 f1
            obtain ⟨y1, y2, y3⟩ := z3 s s0 sn
            rw [show (sy P s 0 h).filterMap vo = [] from rfl, List.nil_append] at o1
            refine vX10_listOf_182 fun _ _ _ _ _ _ _ => ?_
            rw [z1, y1]
            refine ⟨by omega, fun _ => ⟨by omega, fun c0 => ⟨by omega, ?_⟩, fun c0 => ⟨by omega, ?_⟩⟩, fun q => by omega⟩
            · rw [if_neg c0] at o1
              have o1 : ac = od set acc (oc P s) := o1
              rw [o1] at a1 ⊢
              exact go N1 f1 a1
            · have c0 : P 1 s = 0 := by omega
              obtain ⟨u1, u2⟩ := l3 c0
              rw [if_pos c0] at o1
              have o1 : stp set ac (P 6 s) = od set acc (oc P s) := o1
              rw [← u1]
              refine kX10_meets u2 hk a1 (fun N2 f2 a2 => ⟨_, rfl, by omega, ?_⟩)
              rw [o1] at a2 ⊢
              exact go N2 (f1.tr f2) a2
          | succ n ih2 =>
            intro h ac N1 eh h0 f1 a1 o1
            obtain ⟨z1, z2, z3⟩ := row N1 f1
            refine vX10_listOf_182 fun _ _ _ _ _ _ _ => ?_
            rw [z1, ← l2 h h0 (by omega)]
            rw [sy] at o1
            refine ⟨by omega, fun q => by omega, fun _ => ⟨by omega, fun c => ⟨by omega, ?_⟩, fun c => ⟨by omega, ?_⟩⟩⟩
            · rw [List.filterMap_cons_none (by unfold vo; rw [if_neg c])] at o1
              exact ih2 (h + 1) ac N1 (by omega) (by omega) f1 a1 o1
            · rw [List.filterMap_cons_some (b := P 12 (16 * s + h) - 97) (by unfold vo; rw [if_pos c])] at o1
              refine kX10_meets (by omega) hk a1 (fun N2 f2 a2 => ⟨_, rfl, by omega, ?_⟩)
              exact ih2 (h + 1) _ N2 (by omega) (by omega) (f1.tr f2) a2 o1
        refine lp (P 11 s).toNat 0 acc N (by omega) (by omega) hf hA rfl
      · have c7 : P 1 s = 7 := by omega
        obtain ⟨l1, l2, l3, l4, l5, l6, l7⟩ := q3 c7
        obtain ⟨g1, g2⟩ := pf.2.2.1 c7
        rw [k22]
        -- the outputs
        have lp2 : ∀ (n : Nat) (h : Int) (ac : List Int) (N1 : sl_M), h = irem (M 1 1 (950 + P 31 s)) 16 - (n : Int) → 0 ≤ h → FAc M N1 → Acc N1 ac → od set ac ((sy P s n (irem (M 1 1 (910 + P 31 s)) 16 + 1 + h)).filterMap vo) = od set acc (oc P s) → sl_At l mX10_listOf 122 [(0, vR 1 0), (1, vI set), (2, vI k), (3, vI (fnd k ac)), (4, vI s), (6, vI (P 31 s)), (7, vI h)] [] N1 Q := by
          intro n
          induction n with
          | zero =>
            intro h ac N1 eh h0 f1 a1 o1
            obtain ⟨z1, z2, z3⟩ := row N1 f1
            refine vX10_listOf_122 fun _ _ _ _ _ _ _ => ?_
            rw [z1]
            refine ⟨by omega, fun _ => ⟨by omega, ?_⟩, fun q => by omega⟩
            have o1 : ac = od set acc (oc P s) := o1
            rw [o1] at a1 ⊢
            exact go N1 f1 a1
          | succ n ih2 =>
            intro h ac N1 eh h0 f1 a1 o1
            obtain ⟨z1, z2, z3⟩ := row N1 f1
            obtain ⟨u1, u2⟩ := l6 h h0 (by omega)
            refine vX10_listOf_122 fun _ _ _ _ _ _ _ => ?_
            rw [z1]
            rw [sy, u1, List.filterMap_cons_some (b := nib (M 1 1 (950 + P 31 s)) h) (by unfold vo; rw [if_pos (by omega)]; congr 1; omega)] at o1
            refine ⟨by omega, fun q => by omega, fun _ => ?_⟩
            refine kX10_meets u2 hk a1 (fun N2 f2 a2 => ⟨_, rfl, by omega, ?_⟩)
            refine ih2 (h + 1) _ N2 (by omega) (by omega) (f1.tr f2) a2 ?_
            rw [show irem (M 1 1 (910 + P 31 s)) 16 + 1 + (h + 1) = irem (M 1 1 (910 + P 31 s)) 16 + 1 + h + 1 by omega]
            exact o1
        have lp1 : ∀ (n : Nat) (h : Int) (ac : List Int) (N1 : sl_M), h = irem (M 1 1 (910 + P 31 s)) 16 - (n : Int) → 0 ≤ h → FAc M N1 → Acc N1 ac → od set ac ((sy P s (n + 1 + (irem (M 1 1 (950 + P 31 s)) 16).toNat) h).filterMap vo) = od set acc (oc P s) → sl_At l mX10_listOf 65 [(0, vR 1 0), (1, vI set), (2, vI k), (3, vI (fnd k ac)), (4, vI s), (6, vI (P 31 s)), (7, vI h)] [] N1 Q := by
          intro n
          induction n with
          | zero =>
            intro h ac N1 eh h0 f1 a1 o1
            obtain ⟨z1, z2, z3⟩ := row N1 f1
            refine vX10_listOf_65 fun _ _ _ _ _ _ _ => ?_
            rw [z1]
            refine ⟨by omega, fun _ => lp2 (irem (M 1 1 (950 + P 31 s)) 16).toNat 0 ac N1 (by omega) (by omega) f1 a1 ?_, fun q => by omega⟩
            rw [show 0 + 1 + (irem (M 1 1 (950 + P 31 s)) 16).toNat = (irem (M 1 1 (950 + P 31 s)) 16).toNat + 1 by omega, sy, show h = irem (M 1 1 (910 + P 31 s)) 16 by omega, l5, List.filterMap_cons_none (by decide +kernel)] at o1
            rw [Int.add_zero]
            exact o1
          | succ n ih2 =>
            intro h ac N1 eh h0 f1 a1 o1
            obtain ⟨z1, z2, z3⟩ := row N1 f1
            obtain ⟨u1, u2⟩ := l4 h h0 (by omega)
            refine vX10_listOf_65 fun _ _ _ _ _ _ _ => ?_
            rw [z1]
            rw [show n + 1 + 1 + (irem (M 1 1 (950 + P 31 s)) 16).toNat = (n + 1 + (irem (M 1 1 (950 + P 31 s)) 16).toNat) + 1 by omega, sy, u1, List.filterMap_cons_some (b := nib (M 1 1 (910 + P 31 s)) h) (by unfold vo; rw [if_pos (by omega)]; congr 1; omega)] at o1
            refine ⟨by omega, fun q => by omega, fun _ => ?_⟩
            refine kX10_meets u2 hk a1 (fun N2 f2 a2 => ⟨_, rfl, by omega, ?_⟩)
            exact ih2 (h + 1) _ N2 (by omega) (by omega) (f1.tr f2) a2 o1
        refine lp1 (irem (M 1 1 (910 + P 31 s)) 16).toNat 0 acc N (by omega) (by omega) hf hA ?_
        unfold oc
        rw [if_neg (by omega), List.append_nil, show (P 11 s).toNat = (irem (M 1 1 (910 + P 31 s)) 16).toNat + 1 + (irem (M 1 1 (950 + P 31 s)) 16).toNat by omega]
  refine eX10_listOf (vX10_listOf_0 fun _ _ _ M1 e1 M2 e2 M3 e3 => ?_)
  have f3 : FAc M M3 := by
    intro o a j z
    rw [e3, e2, e1]; simp only [sl_wr]
    rw [if_neg (by omega), if_neg (by omega), if_neg (by omega)]
  have h3 : M3 1 0 31 = i := by rw [f3 1 0 31 (by omega)]; exact h31
  rw [h3]
  refine loop (t - i).toNat i [] M3 (by omega) hi.1 f3 ⟨?_, ?_, fun v _ => ?_, ?_, ?_⟩ rfl
  · rw [e3]; exact sl_wr_s
  · rw [e3, e2]; simp [sl_wr, pkl]
  · have : M3 1 0 42 = 0 := by rw [e3, e2, e1]; simp [sl_wr]
    rw [this, bt_0]; simp
  · simp
  · simp
end K
