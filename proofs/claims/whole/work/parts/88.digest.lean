/-! digest, on both sides -/
section K
variable {l : Launch} {M : sl_M} {Q : sl_R} {R rho : Int → Int}
theorem kX9_digest (hC : Ci M R rho) (hQ : Q (some (vL (dgA (ly R rho) R (talC M R rho)))) M) : sl_Runs l mX9_digest [vR 0 0] M Q := by
  have h1 := hC.1
  have c1 := cls_psm h1
  have c2 := (cls_ps h1).2
  have hS := hC.2.1
  have hG := hS.2.1
  have hcd := hS.2.2.1
  have n0 := hcd.1.n0
  have m3 := hG.2.1
  unfold dgA at hQ
  -- the methods
  have met : ∀ (n : Nat) (m : Int) (w : Int64), m = R 761 - n → 0 ≤ m → Q (some (vL (dgM R n m w))) M → sl_At l mX9_digest 129 [(0, vR 0 0), (1, vL w), (4, vI m)] [] M Q := by
    intro n
    induction n with
    | zero =>
      intro m w hm m0 hq
      refine vX9_digest_129 fun _ _ => kX9_present h1 ⟨_, rfl, c1, ?_⟩
      rw [hS.2.2.2.1]
      exact ⟨fun _ => hq, fun z => by omega⟩
    | succ n ih =>
      intro m w hm m0 hq
      rw [dgM] at hq
      have inner : ∀ (i : Nat) (x : Int) (v : Int64), x = 6 - i → 0 ≤ x → Q (some (vL (dgM R n (m + 1) (dg (mPr R m) i x v)))) M → sl_At l mX9_digest 144 [(0, vR 0 0), (1, vL v), (4, vI m), (5, vI x)] [] M Q := by
        intro i
        induction i with
        | zero =>
          intro x v hx x0 hq2
          exact vX9_digest_144 fun _ _ _ => ⟨fun _ => ⟨by omega, ih (m + 1) v (by omega) (by omega) hq2⟩, fun z => by omega⟩
        | succ i ih2 =>
          intro x v hx x0 hq2
          rw [dg] at hq2
          exact vX9_digest_144 fun _ _ _ => ⟨fun z => by omega, fun _ => kX9_present h1 ⟨_, rfl, c1, kX7_routineProperty hS ⟨m0, by omega⟩ (by omega) ⟨_, rfl, by omega, ih2 (x + 1) _ (by omega) (by omega) hq2⟩⟩⟩
      refine vX9_digest_129 fun _ _ => kX9_present h1 ⟨_, rfl, c1, ?_⟩
      rw [hS.2.2.2.1]
      exact ⟨fun z => by omega, fun _ => inner 6 0 w (by omega) (by omega) hq⟩
  -- the statements
  have sta : ∀ (n : Nat) (k : Int) (w : Int64), k = ly R rho 0 0 - n → 0 ≤ k → Q (some (vL (dgM R (R 761).toNat 0 (dgS (ly R rho) n k w)))) M → sl_At l mX9_digest 42 [(0, vR 0 0), (1, vL w), (3, vR (ps M + 10) 0), (4, vI k)] [] M Q := by
    intro n
    induction n with
    | zero =>
      intro k w hk k0 hq
      refine vX9_digest_42 c2 fun _ _ => ?_
      rw [hcd.2.1.1]
      exact ⟨fun _ => met (R 761).toNat 0 w (by omega) (by omega) hq, fun z => by omega⟩
    | succ n ih =>
      intro k w hk k0 hq
      rw [dgS] at hq
      have hs := hcd.2.2.1 k k0 (by omega)
      have sym : ∀ (i : Nat) (x : Int) (v : Int64), x = ly R rho 11 k - i → 0 ≤ x → Q (some (vL (dgM R (R 761).toNat 0 (dgS (ly R rho) n (k + 1) (dg (fun i => ly R rho 12 (16 * k + i)) i x v))))) M → sl_At l mX9_digest 86 [(0, vR 0 0), (1, vL v), (3, vR (ps M + 10) 0), (4, vI k), (5, vI x)] [] M Q := by
        intro i
        induction i with
        | zero =>
          intro x v hx x0 hq2
          refine vX9_digest_86 c2 fun _ _ _ => ?_
          rw [hs.1]
          exact ⟨by omega, fun _ => ⟨by omega, ih (k + 1) v (by omega) (by omega) hq2⟩, fun z => by omega⟩
        | succ i ih2 =>
          intro x v hx x0 hq2
          rw [dg] at hq2
          refine vX9_digest_86 c2 fun _ _ _ => ?_
          rw [hs.1]
          refine ⟨by omega, fun z => by omega, fun _ => kX0_symbol c2 hcd.1 hcd.2.2.1 ⟨k0, by omega⟩ x0 ⟨_, rfl, by omega, ih2 (x + 1) _ (by omega) (by omega) ?_⟩⟩
          unfold sgn
          rw [if_neg (by omega)]; exact hq2
      have prop : ∀ (i : Nat) (x : Int) (v : Int64), x = 7 - i → 0 ≤ x → Q (some (vL (dgM R (R 761).toNat 0 (dgS (ly R rho) n (k + 1) (dg (fun i => ly R rho 12 (16 * k + i)) (ly R rho 11 k).toNat 0 (dg (prp (ly R rho) k) i x v)))))) M → sl_At l mX9_digest 54 [(0, vR 0 0), (1, vL v), (3, vR (ps M + 10) 0), (4, vI k), (5, vI x)] [] M Q := by
        intro i
        induction i with
        | zero =>
          intro x v hx x0 hq2
          exact vX9_digest_54 c2 fun _ _ _ => ⟨fun _ => sym (ly R rho 11 k).toNat 0 v (by have := hs.2.1; omega) (by omega) hq2, fun z => by omega⟩
        | succ i ih2 =>
          intro x v hx x0 hq2
          rw [dg] at hq2
          exact vX9_digest_54 c2 fun _ _ _ => ⟨fun z => by omega, fun _ => kX0_property c2 hcd.1 hcd.2.1 hcd.2.2.1 ⟨k0, by omega⟩ (by omega) ⟨_, rfl, by omega, ih2 (x + 1) _ (by omega) (by omega) hq2⟩⟩
      refine vX9_digest_42 c2 fun _ _ => ?_
      rw [hcd.2.1.1]
      exact ⟨fun z => by omega, fun _ => prop 7 0 w (by omega) (by omega) hq⟩
  -- what is told
  have tol : ∀ (i : Nat) (x : Int) (v : Int64), x = 7 - i → 0 ≤ x → Q (some (vL (dgM R (R 761).toNat 0 (dgS (ly R rho) (ly R rho 0 0).toNat 0 (dg (talC M R rho) i x v))))) M → sl_At l mX9_digest 6 [(0, vR 0 0), (1, vL v), (3, vI x)] [] M Q := by
    intro i
    induction i with
    | zero =>
      intro x v hx x0 hq2
      exact vX9_digest_6 fun _ _ => ⟨fun _ => kX9_present h1 ⟨_, rfl, c1, sta (ly R rho 0 0).toNat 0 v (by omega) (by omega) hq2⟩, fun z => by omega⟩
    | succ i ih2 =>
      intro x v hx x0 hq2
      rw [dg] at hq2
      exact vX9_digest_6 fun _ _ => ⟨fun z => by omega, fun _ => kX9_tally hC (by omega) ⟨_, rfl, by omega, ih2 (x + 1) _ (by omega) (by omega) hq2⟩⟩
  exact eX9_digest (vX9_digest_0 fun _ => tol 7 0 2251 (by omega) (by omega) hQ)
theorem LaB.fla {P : Pg} {N : sl_M} (h : LaB M 0 P) (e : N = M) : LaB N 0 P := by rw [e]; exact h
theorem kX10_digest (hG : Good (M 1 1) rho) (hQ : ∀ N, FQ M N → Q (some (vL (dgA (ly (M 1 1) rho) (M 1 1) (talR M rho)))) N) : sl_Runs l mX10_digest [vR 1 0] M Q := by
  have m3 := hG.2.1
  have hr := hG.rda
  have hw := hr.1.1
  have n0 := hw.n0
  unfold dgA at hQ
  -- behind the fourth number all is laid
  have main : ∀ N, FLa M N → LaB N 0 (ly (M 1 1) rho) → ∀ w, Q (some (vL (dgM (M 1 1) (M 1 1 761).toNat 0 (dgS (ly (M 1 1) rho) (ly (M 1 1) rho 0 0).toNat 0 w)))) N → sl_At l mX10_digest 33 [(0, vR 1 0), (1, vL w), (3, vI 0)] [] N Q := by
    intro N f1 l1 w0 hq0
    have er : N 1 1 = M 1 1 := f1.fq.row
    have hG' : Good (N 1 1) rho := by rw [er]; exact hG
    have r2 : RdA (N 1 1) (ly (M 1 1) rho) (tp (cutR (M 1 1))) := f1.rda hr
    have met : ∀ (n : Nat) (m : Int) (w : Int64), m = M 1 1 761 - n → 0 ≤ m → Q (some (vL (dgM (M 1 1) n m w))) N → sl_At l mX10_digest 116 [(0, vR 1 0), (1, vL w), (3, vI m)] [] N Q := by
      intro n
      induction n with
      | zero =>
        intro m w hm m0 hq
        refine vX10_digest_116 fun _ _ => ?_
        rw [er]
        exact ⟨fun _ => hq, fun z => by omega⟩
      | succ n ih =>
        intro m w hm m0 hq
        rw [dgM] at hq
        have inner : ∀ (i : Nat) (x : Int) (v : Int64), x = 6 - i → 0 ≤ x → Q (some (vL (dgM (M 1 1) n (m + 1) (dg (mPr (M 1 1) m) i x v)))) N → sl_At l mX10_digest 131 [(0, vR 1 0), (1, vL v), (3, vI m), (4, vI x)] [] N Q := by
          intro i
          induction i with
          | zero =>
            intro x v hx x0 hq2
            exact vX10_digest_131 fun _ _ _ => ⟨fun _ => ⟨by omega, ih (m + 1) v (by omega) (by omega) hq2⟩, fun z => by omega⟩
          | succ i ih2 =>
            intro x v hx x0 hq2
            rw [dg] at hq2
            refine vX10_digest_131 fun _ _ _ => ⟨fun z => by omega, fun _ => kX10_methodIs hG' (by rw [er]; omega) (by omega) ⟨_, rfl, by omega, ih2 (x + 1) _ (by omega) (by omega) ?_⟩⟩
            rw [er]; exact hq2
        refine vX10_digest_116 fun _ _ => ?_
        rw [er]
        exact ⟨fun z => by omega, fun _ => inner 6 0 w (by omega) (by omega) hq⟩
    have sta : ∀ (n : Nat) (k : Int) (w : Int64), k = ly (M 1 1) rho 0 0 - n → 0 ≤ k → Q (some (vL (dgM (M 1 1) (M 1 1 761).toNat 0 (dgS (ly (M 1 1) rho) n k w)))) N → sl_At l mX10_digest 33 [(0, vR 1 0), (1, vL w), (3, vI k)] [] N Q := by
      intro n
      induction n with
      | zero =>
        intro k w hk k0 hq
        refine vX10_digest_33 fun _ _ => kX10_manyOf l1.1 ⟨_, rfl, fun _ => met (M 1 1 761).toNat 0 w (by omega) (by omega) hq, fun z => by omega⟩
      | succ n ih =>
        intro k w hk k0 hq
        rw [dgS] at hq
        have hs := r2.2.2 k k0 (by omega)
        have sym : ∀ (i : Nat) (x : Int) (v : Int64), x = ly (M 1 1) rho 11 k - i → 0 ≤ x → Q (some (vL (dgM (M 1 1) (M 1 1 761).toNat 0 (dgS (ly (M 1 1) rho) n (k + 1) (dg (fun i => ly (M 1 1) rho 12 (16 * k + i)) i x v))))) N → sl_At l mX10_digest 76 [(0, vR 1 0), (1, vL v), (3, vI k), (4, vI x)] [] N Q := by
          intro i
          induction i with
          | zero =>
            intro x v hx x0 hq2
            refine vX10_digest_76 fun _ _ _ => kX10_signOf hw l1.1 l1.2.1 r2.1.2.2.1 r2.2.2 ⟨k0, by omega⟩ x0 ⟨_, rfl, fun _ => ⟨by omega, ih (k + 1) v (by omega) (by omega) hq2⟩, fun z => ?_⟩
            unfold sgn at z
            rw [if_pos (by omega)] at z; omega
          | succ i ih2 =>
            intro x v hx x0 hq2
            rw [dg] at hq2
            have es : sgn (ly (M 1 1) rho) k x = ly (M 1 1) rho 12 (16 * k + x) := by unfold sgn; rw [if_neg (by omega)]
            have ne : sgn (ly (M 1 1) rho) k x ≠ -1 := by
              rw [es]
              by_cases z7 : ly (M 1 1) rho 1 k = 7
              · obtain ⟨g1, g2, g3, g4, g5, g6, g7⟩ := hs.2.2 z7
                by_cases c1 : x < irem (N 1 1 (910 + ly (M 1 1) rho 31 k)) 16
                · have := g4 x x0 c1; omega
                · by_cases c2 : x = irem (N 1 1 (910 + ly (M 1 1) rho 31 k)) 16
                  · rw [c2, g5]; omega
                  · have := g6 (x - irem (N 1 1 (910 + ly (M 1 1) rho 31 k)) 16 - 1) (by omega) (by omega)
                    rw [show irem (N 1 1 (910 + ly (M 1 1) rho 31 k)) 16 + 1 + (x - irem (N 1 1 (910 + ly (M 1 1) rho 31 k)) 16 - 1) = x by omega] at this
                    omega
              · -- a symbol of the text
                have cl := hG.cl7 (k := k) k0 (by omega)
                have nc : ¬ clR (M 1 1) (tk (M 1 1) k) ≠ -1 := fun u => z7 (cl.1.mpr u)
                have e11 : ly (M 1 1) rho 11 k = cutR (M 1 1) (241 + tk (M 1 1) k) := by
                  show (if clR (M 1 1) (tk (M 1 1) k) ≠ -1 then _ else _) = _
                  rw [if_neg nc]
                have t := hG.1.2.2.2 (tk (M 1 1) k) cl.2.1 cl.2.2
                have e12 : ly (M 1 1) rho 12 (16 * k + x) = tp (cutR (M 1 1)) 12 (16 * tk (M 1 1) k + x) := by
                  show (if clR (M 1 1) (tk (M 1 1) ((16 * k + x) / 16)) ≠ -1 then _ else cutR (M 1 1) ((281 + (12 * tk (M 1 1) ((16 * k + x) / 16))) + (16 * k + x) % 16)) = _
                  rw [show (16 * k + x) / 16 = k by omega, show (16 * k + x) % 16 = x by omega, if_neg nc, tp_12 (by omega)]
                have v := (hG.1.ev cl.2.1 cl.2.2).2 x x0 (by show x < cutR (M 1 1) (241 + tk (M 1 1) k); omega)
                rw [e12]
                rcases v with v | v | v
                · intro q
                  rw [q] at v
                  exact absurd v (by decide)
                · omega
                · omega
            refine vX10_digest_76 fun _ _ _ => kX10_signOf hw l1.1 l1.2.1 r2.1.2.2.1 r2.2.2 ⟨k0, by omega⟩ x0 ⟨_, rfl, fun z => (ne z).elim, fun _ => kX10_signOf hw l1.1 l1.2.1 r2.1.2.2.1 r2.2.2 ⟨k0, by omega⟩ x0 ⟨_, rfl, by omega, ih2 (x + 1) _ (by omega) (by omega) ?_⟩⟩
            rw [es]; exact hq2
        have prop : ∀ (i : Nat) (x : Int) (v : Int64), x = 7 - i → 0 ≤ x → Q (some (vL (dgM (M 1 1) (M 1 1 761).toNat 0 (dgS (ly (M 1 1) rho) n (k + 1) (dg (fun i => ly (M 1 1) rho 12 (16 * k + i)) (ly (M 1 1) rho 11 k).toNat 0 (dg (prp (ly (M 1 1) rho) k) i x v)))))) N → sl_At l mX10_digest 45 [(0, vR 1 0), (1, vL v), (3, vI k), (4, vI x)] [] N Q := by
          intro i
          induction i with
          | zero =>
            intro x v hx x0 hq2
            exact vX10_digest_45 fun _ _ _ => ⟨fun _ => sym (ly (M 1 1) rho 11 k).toNat 0 v (by have := hs.1; omega) (by omega) hq2, fun z => by omega⟩
          | succ i ih2 =>
            intro x v hx x0 hq2
            rw [dg] at hq2
            exact vX10_digest_45 fun _ _ _ => ⟨fun z => by omega, fun _ => kX10_statementIs hw l1.1 l1.2.1 r2.1.2.2.1 r2.2.2 ⟨k0, by omega⟩ (by omega) ⟨_, rfl, by omega, ih2 (x + 1) _ (by omega) (by omega) hq2⟩⟩
        refine vX10_digest_33 fun _ _ => kX10_manyOf l1.1 ⟨_, rfl, fun z => by omega, fun _ => prop 7 0 w (by omega) (by omega) hq⟩
    exact sta (ly (M 1 1) rho 0 0).toNat 0 w0 (by omega) (by omega) hq0
  have tol : ∀ (i : Nat) (x : Int) (v : Int64) (N : sl_M), x = 7 - i → 0 ≤ x → FLa M N → (5 ≤ x → LaB N 0 (ly (M 1 1) rho)) → (∀ N, FQ M N → Q (some (vL (dgM (M 1 1) (M 1 1 761).toNat 0 (dgS (ly (M 1 1) rho) (ly (M 1 1) rho 0 0).toNat 0 (dg (talR M rho) i x v))))) N) → sl_At l mX10_digest 6 [(0, vR 1 0), (1, vL v), (3, vI x)] [] N Q := by
    intro i
    induction i with
    | zero =>
      intro x v N hx x0 f1 h5 hq2
      exact vX10_digest_6 fun _ _ => ⟨fun _ => main N f1 (h5 (by omega)) v (hq2 N f1.fq), fun z => by omega⟩
    | succ i ih2 =>
      intro x v N hx x0 f1 h5 hq2
      have er : N 1 1 = M 1 1 := f1.fq.row
      have hG' : Good (N 1 1) rho := by rw [er]; exact hG
      have et : talR N rho = talR M rho := by
        unfold talR
        rw [er, f1 1 0 4 (by omega), f1 1 0 5 (by omega), f1 1 0 6 (by omega), f1 1 0 7 (by omega), f1 1 0 2 (by omega)]
      refine vX10_digest_6 fun _ _ => ⟨fun z => by omega, fun _ => kX10_toldOf hG' (by omega) (fun O f2 g1 g2 => ⟨_, rfl, by omega, ih2 (x + 1) _ O (by omega) (by omega) (fun o a b z => (f2 o a b z).trans (f1 o a b z)) (fun z => ?_) (fun O2 z => ?_)⟩)⟩
      · by_cases e4 : x = 4
        · have := g2 e4
          rw [er] at this; exact this
        · rw [g1 e4]; exact h5 (by omega)
      · rw [et]
        have := hq2 O2 z
        rw [dg] at this; exact this
  exact eX10_digest (vX10_digest_0 fun _ => tol 7 0 2251 M (by omega) (by omega) (fun _ _ _ _ => rfl) (fun z => by omega) hQ)
end K
