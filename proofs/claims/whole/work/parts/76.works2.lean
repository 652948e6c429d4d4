/-! The reference: works -/
section K
variable {l : Launch} {M : sl_M} {Q : sl_R} {P : Pg}
theorem kX10_works (hP : PR (M 1 1) 41 P) (hw : WF P) (hS : PRs (M 1 1) P) {k b : Int} (hk : 0 ≤ k ∧ k < P 0 0) (hx : WX (Sy P k) (P 11 k)) (hv : ∀ i, 0 ≤ i → i < P 11 k → sp_op (P 12 (16 * k + i)) ∨ (48 ≤ P 12 (16 * k + i) ∧ P 12 (16 * k + i) ≤ 57) ∨ (97 ≤ P 12 (16 * k + i) ∧ P 12 (16 * k + i) ≤ 104)) (h1 : 0 < P 11 k) {D : Int → Int} {B : Int} (hD : D = (if b = 0 then M 1 51 else M 1 53)) (hB : B = (if b = 0 then M 1 0 51 else M 1 0 53))
    (hQ : ∀ N, FWo M N → N 1 0 59 = (ev (Sy P k) D B (P 11 k).toNat 0 [] 0).1 → ((ev (Sy P k) D B (P 11 k).toNat 0 [] 0).1 = 0 → N 1 0 60 = (ev (Sy P k) D B (P 11 k).toNat 0 [] 0).2) → Q none N) : sl_Runs l mX10_works [vR 1 0, vI k, vI b] M Q := by
  have hn := hw.n0
  obtain ⟨s2, s1, s4⟩ := sy_plain hP hS hk
  have loop : ∀ (n : Nat) (i v : Int) (w : List (Int × Option Int)) (N : sl_M) (tp : Int), i = P 11 k - (n : Int) → 0 ≤ i → (w.length : Int) ≤ i → FWo M N → N 1 0 59 = 0 → Wr N w → ((i < P 11 k ∧ tp = cS w ∧ Wt (Sy P k) i.toNat = (cN w : Int) + 1) ∨ (i = P 11 k ∧ N 1 62 0 = v)) → ev (Sy P k) D B n i w v = ev (Sy P k) D B (P 11 k).toNat 0 [] 0 → sl_At l mX10_works 16 [(0, vR 1 0), (1, vI k), (2, vI b), (3, vI tp), (5, vI (w.length : Int)), (6, vI i)] [] N Q := by
    intro n
    induction n with
    | zero =>
      intro i v w N tp ei i0 hl hf h59 hW hT he
      have eR : N 1 1 = M 1 1 := by funext j; exact hf 1 1 j (by omega)
      refine vX10_works_16 fun _ _ _ _ _ _ => ?_
      rw [eR, ← s1]
      refine ⟨by omega, fun _ M3 e3 => ?_, fun q => by omega⟩
      have hs : N 1 62 0 = v := by
        rcases hT with z | z
        · omega
        · exact z.2
      rw [hs] at e3
      rw [ev] at he
      refine hQ M3 (hf.tr fun a b d z => by rw [e3]; simp only [sl_wr]; rw [if_neg (by omega)]) ?_ (fun _ => ?_)
      · rw [← he, e3]; simp [sl_wr]; exact h59
      · rw [← he, e3]; exact sl_wr_s
    | succ n ih =>
      intro i v w N tp ei i0 hl hf h59 hW hT he
      have eR : N 1 1 = M 1 1 := by funext j; exact hf 1 1 j (by omega)
      have hcs := cS_le w
      obtain ⟨t1, t2, t3⟩ : i < P 11 k ∧ tp = cS w ∧ Wt (Sy P k) i.toNat = (cN w : Int) + 1 := by
        rcases hT with z | z
        · exact z
        · omega
      subst t2
      have ws : Wt (Sy P k) (i + 1).toNat = Wt (Sy P k) i.toNat + (if ¬ sp_op (P 12 (16 * k + i)) then -1 else 1) := Wt_step (Sy P k) (i := i) i0
      have eD : (if b = 0 then N 1 51 (P 12 (16 * k + i) - 97) else N 1 53 (P 12 (16 * k + i) - 97)) = D (P 12 (16 * k + i) - 97) := by
        rw [hD]
        by_cases z : b = 0
        · rw [if_pos z, if_pos z, hf 1 51 _ (by omega)]
        · rw [if_neg z, if_neg z, hf 1 53 _ (by omega)]
      have eB : (if b = 0 then N 1 0 51 else N 1 0 53) = B := by rw [hB, hf 1 0 51 (by omega), hf 1 0 53 (by omega)]
      rw [ev] at he
      have hvi := hv i i0 t1
      refine vX10_works_16 fun _ _ _ _ _ _ => ?_
      rw [eR, ← s1, s4 i i0 t1, eD, eB]
      have go : ∀ x N2, N2 = sl_wr N 1 62 (cS w) x → x = (if 48 ≤ P 12 (16 * k + i) ∧ P 12 (16 * k + i) ≤ 57 then P 12 (16 * k + i) - 48 else D (P 12 (16 * k + i) - 97)) → ¬ sp_op (P 12 (16 * k + i)) → ¬ (¬ (48 ≤ P 12 (16 * k + i) ∧ P 12 (16 * k + i) ≤ 57) ∧ bt B (P 12 (16 * k + i) - 97).toNat = false) → sl_At l mX10_works 171 [(0, vR 1 0), (1, vI k), (2, vI b), (3, vI ((cS w : Int) + 1)), (5, vI (w.length : Int)), (6, vI i)] [] N2 Q := by
        intro x N2 e2 ex q1 q2
        rw [if_neg q1, if_neg q2, ← ex] at he
        rw [if_pos q1] at ws
        refine works_push (R := ev (Sy P k) D B (P 11 k).toNat 0 [] 0) (fun O f o1 o2 => hQ O f (by rw [o1, o2]) (fun z => by omega)) w N2 x i (by omega) i0 (by omega) (hf.tr fun a b d z => by rw [e2]; simp only [sl_wr]; rw [if_neg (by omega)]) (by rw [e2]; simp [sl_wr]; exact h59) (hW.keep w (fun b d hb hd => by rw [e2]; simp only [sl_wr]; rw [if_neg (by omega)]) (fun d hd => by rw [e2]; simp only [sl_wr]; rw [if_neg (by omega)])) (by rw [e2]; exact sl_wr_s) (fun z => ?_) (fun w' v' N' z a1 a2 a3 a4 => ?_)
        · rw [z] at he; rw [← he]
        · rw [z] at he
          obtain ⟨p1, p2⟩ := psh_need w x v' w' z
          refine ih (i + 1) v' w' N' _ (by omega) (by omega) (by omega) a1 a2 a3 ?_ he
          rcases p2 with ⟨u1, u2⟩ | ⟨u1, u2⟩
          · refine Or.inr ⟨?_, a4 u1⟩
            by_cases y : i + 1 < P 11 k
            · have := hx.1 (i + 1).toNat (by omega)
              omega
            · omega
          · refine Or.inl ⟨?_, by rw [if_neg u1], by omega⟩
            by_cases y : i + 1 = P 11 k
            · have := hx.2
              rw [← y] at this
              omega
            · omega
      refine ⟨by omega, fun q => by omega, fun _ => ⟨by omega, fun q => ⟨by omega, fun y ey => ⟨fun q2 => ⟨by omega, fun M10 e10 => ⟨by omega, ?_⟩⟩, fun q2 => ⟨by omega, fun q3 => ⟨⟨fun _ => by omega, fun _ => by omega⟩, fun y18 e18 => ⟨by omega, fun M20 e20 => ⟨by omega, ?_⟩⟩⟩, fun q3 M22 e22 => ?_⟩⟩⟩, fun q => ⟨by omega, fun M24 e24 M25 e25 => ⟨by omega, by omega, ?_⟩⟩⟩⟩
      · have hd : 48 ≤ P 12 (16 * k + i) ∧ P 12 (16 * k + i) ≤ 57 := by
          rcases hvi with u | u | u
          · exact (q u).elim
          · exact u
          · exact (q2 u).elim
        exact go y M10 e10 (by rw [if_pos hd]; exact ey) q (fun z => z.1 hd)
      · have hb := (has1 (by omega)).mp q3
        exact go y18 M20 e20 (by rw [if_neg (by omega)]; exact e18) q (fun z => by rw [hb] at z; exact absurd z.2 (by decide))
      · have hb : bt B (P 12 (16 * k + i) - 97).toNat = false := by
          cases h : bt B (P 12 (16 * k + i) - 97).toNat
          · rfl
          · exact (q3 ((has1 (by omega)).mpr h)).elim
        have nd : ¬ (48 ≤ P 12 (16 * k + i) ∧ P 12 (16 * k + i) ≤ 57) := by omega
        rw [if_neg q, if_pos ⟨nd, hb⟩] at he
        have e3 : (ev (Sy P k) D B (P 11 k).toNat 0 [] 0).1 = 3 := by rw [← he]
        refine hQ M22 (hf.tr fun a b d z => by rw [e22]; simp only [sl_wr]; rw [if_neg (by omega)]) (by rw [e22, sl_wr_s, e3]) (fun z => by omega)
      · rw [if_pos q] at he
        rw [if_neg (fun z => z q)] at ws
        have r := ih (i + 1) v ((P 12 (16 * k + i), none) :: w) M25 (cS w) (by omega) (by omega) (by simp; omega) (hf.tr fun a b d z => by rw [e25, e24]; simp only [sl_wr]; rw [if_neg (by omega), if_neg (by omega)]) (by rw [e25, e24]; simp [sl_wr]; exact h59) ⟨by rw [e25, e24]; simp [sl_wr], (show M25 1 64 w.length = 0 by rw [e25]; exact sl_wr_s), hW.keep w (fun b d hb hd => by rw [e25, e24]; simp only [sl_wr]; rw [if_neg (by omega), if_neg (by omega)]) (fun d hd => by rw [e25, e24]; simp only [sl_wr]; rw [if_neg (by omega), if_neg (by omega)])⟩ (Or.inl ⟨?_, rfl, ?_⟩) he
        · rw [show (((P 12 (16 * k + i), none) :: w : List (Int × Option Int)).length : Int) = (w.length : Int) + 1 by simp] at r
          exact r
        · by_cases y : i + 1 = P 11 k
          · have := hx.2
            rw [← y] at this
            omega
          · omega
        · rw [show (cN ((P 12 (16 * k + i), none) :: w) : Int) = (cN w : Int) + 1 by simp [cN]]
          omega
  refine eX10_works (vX10_works_0 fun _ _ _ M1 e1 => ?_)
  refine loop (P 11 k).toNat 0 0 [] M1 0 (by omega) (by omega) (by simp) (fun a b d z => by rw [e1]; simp only [sl_wr]; rw [if_neg (by omega)]) (by rw [e1]; exact sl_wr_s) trivial (Or.inl ⟨h1, rfl, rfl⟩) rfl
end K
