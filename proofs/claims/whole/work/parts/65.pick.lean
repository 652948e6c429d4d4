/-! The class: one of a set by its first occurrence -/
theorem stp_pre {set v d : Int} {acc : List Int} {n : Nat} (h : n < acc.length) : (stp set acc v).getD n d = acc.getD n d := by
  unfold stp
  split
  · exact getD_left h
  · rfl
theorem od_pre {set d : Int} : ∀ (L acc : List Int) (n : Nat), n < acc.length → (od set acc L).getD n d = acc.getD n d := by
  intro L
  induction L with
  | nil => intro acc n _; rfl
  | cons v L ih =>
    intro acc n h
    show (od set (stp set acc v) L).getD n d = _
    rw [ih _ n (Nat.lt_of_lt_of_le h stp_len), stp_pre h]
theorem od_len {set : Int} : ∀ (L acc : List Int), acc.length ≤ (od set acc L).length := by
  intro L
  induction L with
  | nil => intro acc; exact Nat.le_refl _
  | cons v L ih => intro acc; exact Nat.le_trans stp_len (ih (stp set acc v))
/-- what the class knows of a list under way -/
def Rst (set r : Int) (acc : List Int) : Prop := ∀ v, v < 8 → (bt r v = true ↔ bt set v = true ∧ (v : Int) ∉ acc)
section K
variable {l : Launch} {M : sl_M} {Q : sl_R} {P : Pg} {c : Nat}
theorem kX0_pick (hc : sl_cls c = 0) (hw : WF P) (hC : Cd M c P) (hS : CdS M c P) {f t set k : Int} (hf : 0 ≤ f ∧ f ≤ t + 1 ∧ t < P 0 0) (hk : 0 ≤ k) (hQ : Q (some (vI (fnd k (od set [] (ocs P (t + 1 - f).toNat f))))) M) : sl_Runs l mX0_pick [vR c 0, vI f, vI t, vI set, vI k] M Q := by
  have hn := hw.n0
  have loop : ∀ (m : Nat) (x r : Int) (acc : List Int), x = t + 1 - (m : Int) → 0 ≤ x → (acc.length : Int) ≤ k → Rst set r acc → od set acc (ocs P m x) = od set [] (ocs P (t + 1 - f).toNat f) → sl_At l mX0_pick 9 [(0, vR c 0), (2, vI t), (4, vI k), (5, vI r), (6, vI (acc.length : Int)), (7, vI x)] [] M Q := by
    intro m
    induction m with
    | zero =>
      intro x r acc ex x0 hl hr ho
      have ho : acc = od set [] (ocs P (t + 1 - f).toNat f) := ho
      rw [← ho] at hQ
      unfold fnd at hQ
      rw [getD_none (by omega)] at hQ
      exact vX0_pick_9 hc fun _ _ _ _ _ _ => ⟨fun _ => hQ, fun q => by omega⟩
    | succ m ih =>
      intro x r acc ex x0 hl hr ho
      have xn : x < P 0 0 := by omega
      obtain ⟨a1, a2, a3, a4⟩ := hC.2 x x0 xn
      obtain ⟨s1, s2, s3, s4, s5, s6, -⟩ := hS x x0 xn
      rw [ocs, od_app] at ho
      have nm : (if M c 1 x ≠ 0 then (-1) else M c 6 x) = (if P 1 x = 0 then P 6 x else -1) := by
        rw [a1]
        by_cases z : P 1 x = 0
        · rw [if_neg (fun u => u z), if_pos z, (s5 z).1]
        · rw [if_pos z, if_neg z]
      refine vX0_pick_9 hc fun _ _ _ _ _ _ => ⟨fun q => by omega, fun _ => ⟨by omega, fun y ey => ?_⟩⟩
      rw [nm] at ey
      -- one occurrence
      have one : ∀ (h s0 r1 : Int) (ac T : List Int), 0 ≤ h → h ≤ 12 → (s0 = -1 ∨ (0 ≤ s0 ∧ s0 < 8)) → (ac.length : Int) ≤ k → Rst set r1 ac → od set ac ((if s0 = -1 then [] else [s0]) ++ T) = od set acc (oc P x) → (∀ (r2 : Int) (ac2 : List Int), (ac2.length : Int) ≤ k → Rst set r2 ac2 → od set ac2 T = od set acc (oc P x) → sl_At l mX0_pick 41 [(0, vR c 0), (2, vI t), (4, vI k), (5, vI r2), (6, vI (ac2.length : Int)), (7, vI x), (8, vI y), (9, vI (h + 1))] [] M Q) → sl_rg s0 → sl_At l mX0_pick 88 [(0, vR c 0), (2, vI t), (4, vI k), (5, vI r1), (6, vI (ac.length : Int)), (7, vI x), (8, vI y), (9, vI h)] [vI s0] M Q := by
        intro h s0 r1 ac T h0 h12 hs0 hl1 hr1 ho1 hgo hrg
        refine vX0_pick_88 hc hrg fun _ _ _ _ _ _ _ _ => ⟨fun q => ⟨by omega, ?_⟩, fun q => ⟨fun q2 => ?_, fun q2 => ⟨by omega, ?_⟩⟩⟩
        · rw [if_pos q, List.nil_append] at ho1
          exact hgo r1 ac hl1 hr1 ho1
        · have hs : 0 ≤ s0 ∧ s0 < 8 := by omega
          have hb := (has0 (m := r1) (k := s0) (by omega)).mp q2
          have hb' := (hr1 s0.toNat (by omega)).mp hb
          rw [show ((s0.toNat : Nat) : Int) = s0 by omega] at hb'
          have es : stp set ac s0 = ac ++ [s0] := by unfold stp; rw [if_pos hb']
          rw [if_neg q] at ho1
          have ho1 : od set (stp set ac s0) T = od set acc (oc P x) := ho1
          rw [es] at ho1
          refine ⟨fun q3 => ⟨by omega, fun y6 e6 => ⟨by omega, ?_⟩⟩, fun q3 => ?_⟩
          · have := hgo y6 (ac ++ [s0]) (by simp; omega) (fun v hv => ?_) ho1
            · rw [show (((ac ++ [s0]).length : Nat) : Int) = (ac.length : Int) + 1 by simp] at this
              exact this
            · rw [e6, bt_iand, bt_not _ (by omega), bt_shl hs, Bool.and_eq_true, hr1 v hv]
              simp
              constructor
              · rintro ⟨⟨z1, z2⟩, z3⟩; exact ⟨z1, z2, z3⟩
              · rintro ⟨z1, z2, z3⟩; exact ⟨⟨z1, z2⟩, z3⟩
          · have e : fnd k (od set [] (ocs P (t + 1 - f).toNat f)) = s0 := by
              rw [← ho, ← ho1]
              unfold fnd
              have l1 : (ac ++ [s0]).length ≤ (od set (ac ++ [s0]) T).length := od_len T _
              have l2 : (ac ++ [s0]).length = ac.length + 1 := by simp
              have l3 : k.toNat = ac.length := by omega
              rw [l3, od_pre _ _ _ (by omega), od_pre _ _ _ (by omega)]
              simp
            rw [← e]; exact hQ
        · have hs : 0 ≤ s0 ∧ s0 < 8 := by omega
          have hb : ¬ (bt set s0.toNat = true ∧ s0 ∉ ac) := by
            intro z
            apply q2
            refine (has0 (m := r1) (k := s0) (by omega)).mpr ((hr1 s0.toNat (by omega)).mpr ?_)
            rw [show ((s0.toNat : Nat) : Int) = s0 by omega]
            exact z
          have es : stp set ac s0 = ac := by unfold stp; rw [if_neg hb]
          rw [if_neg q] at ho1
          have ho1 : od set (stp set ac s0) T = od set acc (oc P x) := ho1
          rw [es] at ho1
          exact hgo r1 ac hl1 hr1 ho1
      have hy : y = -1 ∨ (0 ≤ y ∧ y < 8) := by
        rw [ey]
        by_cases z : P 1 x = 0
        · rw [if_pos z]; exact Or.inr (s5 z).2
        · rw [if_neg z]; exact Or.inl rfl
      have ylist : (if y = -1 then [] else [y]) = (if P 1 x = 0 then [P 6 x] else []) := by
        rw [ey]
        by_cases z : P 1 x = 0
        · have := (s5 z).2
          rw [if_pos z, if_pos z, if_neg (by omega)]
        · rw [if_neg z, if_neg z, if_pos rfl]
      have end41 : ∀ (r1 : Int) (ac : List Int), (ac.length : Int) ≤ k → Rst set r1 ac → od set ac [] = od set acc (oc P x) → sl_At l mX0_pick 41 [(0, vR c 0), (2, vI t), (4, vI k), (5, vI r1), (6, vI (ac.length : Int)), (7, vI x), (8, vI y), (9, vI (P 11 x + 1))] [] M Q := by
        intro r1 ac hl1 hr1 ho1
        refine vX0_pick_41 hc fun _ _ _ _ _ _ _ _ => ?_
        rw [s1]
        refine ⟨by omega, fun _ => ⟨by omega, ?_⟩, fun q => by omega⟩
        have ho1 : ac = od set acc (oc P x) := ho1
        refine ih (x + 1) r1 ac (by omega) (by omega) hl1 hr1 ?_
        rw [ho1]; exact ho
      have lp : ∀ (n : Nat) (h r1 : Int) (ac : List Int), h = P 11 x - (n : Int) → 0 ≤ h → (ac.length : Int) ≤ k → Rst set r1 ac → od set ac ((sy P x n h).filterMap vo ++ (if P 1 x = 0 then [P 6 x] else [])) = od set acc (oc P x) → sl_At l mX0_pick 41 [(0, vR c 0), (2, vI t), (4, vI k), (5, vI r1), (6, vI (ac.length : Int)), (7, vI x), (8, vI y), (9, vI h)] [] M Q := by
        intro n
        induction n with
        | zero =>
          intro h r1 ac eh h0 hl1 hr1 ho1
          have eh : h = P 11 x := by omega
          subst eh
          refine vX0_pick_41 hc fun _ _ _ _ _ _ _ _ => ?_
          rw [s1]
          refine ⟨by omega, fun q => by omega, fun _ => ⟨fun _ => ?_, fun q => by omega⟩⟩
          refine one (P 11 x) y r1 ac [] h0 (by omega) hy hl1 hr1 ?_ end41 (by omega)
          rw [List.append_nil, ylist]
          exact ho1
        | succ n ih2 =>
          intro h r1 ac eh h0 hl1 hr1 ho1
          refine vX0_pick_41 hc fun _ _ _ _ _ _ _ _ => ?_
          rw [s1, s4 h h0 (by omega)]
          refine ⟨by omega, fun q => by omega, fun _ => ⟨fun q => by omega, fun _ => ⟨by omega, ?_⟩⟩⟩
          have hv : sp_var (P 12 (16 * x + h)) = -1 ∨ (0 ≤ sp_var (P 12 (16 * x + h)) ∧ sp_var (P 12 (16 * x + h)) < 8) := by
            unfold sp_var
            split <;> omega
          refine one h _ r1 ac ((sy P x n (h + 1)).filterMap vo ++ (if P 1 x = 0 then [P 6 x] else [])) h0 (by omega) hv hl1 hr1 ?_ (fun r2 ac2 g1 g2 g3 => ih2 (h + 1) r2 ac2 (by omega) (by omega) g1 g2 g3) (by omega)
          rw [← ho1, sy]
          by_cases z : 97 ≤ P 12 (16 * x + h) ∧ P 12 (16 * x + h) ≤ 104
          · have e : sp_var (P 12 (16 * x + h)) = P 12 (16 * x + h) - 97 := by unfold sp_var; rw [if_pos (by omega)]
            rw [List.filterMap_cons_some (b := P 12 (16 * x + h) - 97) (by unfold vo; rw [if_pos z]), e, if_neg (by omega)]
            rfl
          · have e : sp_var (P 12 (16 * x + h)) = -1 := by unfold sp_var; rw [if_neg (by omega)]
            rw [List.filterMap_cons_none (by unfold vo; rw [if_neg z]), e, if_pos rfl]
            rfl
      exact lp (P 11 x).toNat 0 r acc (by omega) (by omega) hl hr rfl
  refine eX0_pick (vX0_pick_0 hc fun _ _ _ _ _ => ?_)
  exact loop (t + 1 - f).toNat f set [] (by omega) hf.1 (by simpa using hk) (fun v _ => by simp) rfl
end K
