/-! A call in the class -/
section W
variable {P : Pg} {f n : Int}
/-- a walk ends by an exit -/
theorem wk_out (h : RG P f n) (h20 : ∀ x, 0 ≤ x → x < n → P 20 (f + x) = eK (P 1 (f + x))) : ∀ (m : Nat) (x : Int) (D : Int → Int) (B : Int) (g : Gs), 0 ≤ x → x < n → ∃ e, e4 e ∧ (wkA P f (f + n - 1) m (f + x) D B g).2.1 = -e := by
  intro m
  induction m with
  | zero => intro x D B g _ _; exact ⟨1, Or.inl rfl, rfl⟩
  | succ m ih =>
    intro x D B g x0 x1
    obtain ⟨s1, s2, s3⟩ := st_nx (D := D) (B := B) (g := g) h x0 x1 (h20 x x0 x1)
    rw [wkA_s]
    by_cases c : (stA P f (f + n - 1) (f + x) D B g).1 ≠ 0 ∨ (stA P f (f + n - 1) (f + x) D B g).2.1 < 0
    · rw [if_pos c]
      rcases s2 with a | a
      · exact a
      · have f0 := h.2.1
        rcases c with c | c
        · rw [s1 c] at a; omega
        · omega
    · rw [if_neg c]
      rcases s2 with ⟨e, a, b⟩ | a
      · unfold e4 at a; omega
      · have := ih ((stA P f (f + n - 1) (f + x) D B g).2.1 - f) (stA P f (f + n - 1) (f + x) D B g).2.2.1 (stA P f (f + n - 1) (f + x) D B g).2.2.2.1 (stA P f (f + n - 1) (f + x) D B g).2.2.2.2 (by omega) (by omega)
        rw [show f + ((stA P f (f + n - 1) (f + x) D B g).2.1 - f) = (stA P f (f + n - 1) (f + x) D B g).2.1 by omega] at this
        exact this
theorem wk_gI {t : Int} : ∀ (m : Nat) (k : Int) (D : Int → Int) (B : Int) (g : Gs), gI g → gI (wkA P f t m k D B g).2.2.2.2 ∧ ((wkA P f t m k D B g).1 = 0 → g.2.1 < (wkA P f t m k D B g).2.2.2.2.2.1) := by
  intro m
  induction m with
  | zero => intro k D B g hg; exact ⟨hg, fun q => by revert q; show (4 : Int) = 0 → _; intro q; omega⟩
  | succ m ih =>
    intro k D B g hg
    obtain ⟨a, b⟩ := hg.stp (P := P) (f := f) (t := t) (k := k) (D := D) (B := B)
    rw [wkA_s]
    by_cases c : (stA P f t k D B g).1 ≠ 0 ∨ (stA P f t k D B g).2.1 < 0
    · rw [if_pos c]; exact ⟨a, fun q => by rw [b q]; omega⟩
    · rw [if_neg c]
      obtain ⟨a', b'⟩ := ih (stA P f t k D B g).2.1 (stA P f t k D B g).2.2.1 (stA P f t k D B g).2.2.2.1 _ a
      refine ⟨a', fun q => ?_⟩
      have := b' q
      rw [b (by omega)] at this
      omega
theorem st_fail {t k : Int} {D : Int → Int} {B : Int} {g : Gs} : (stA P f t k D B g).1 = 0 ∨ 2 ≤ (stA P f t k D B g).1 := by
  unfold stA
  by_cases c : g.2.1 = 400
  · rw [if_pos c]; right; show (2 : Int) ≤ 4; omega
  · rw [if_neg c]
    by_cases c2 : (evA P k D B).1 ≠ 0
    · rw [if_pos c2]; right
      have : (evA P k D B).1 = 2 ∨ (evA P k D B).1 = 3 := ev_fail _ _ _ _ c2
      show 2 ≤ (evA P k D B).1
      omega
    · rw [if_neg c2]; exact Or.inl rfl
theorem wk_fail {t : Int} : ∀ (m : Nat) (k : Int) (D : Int → Int) (B : Int) (g : Gs), (wkA P f t m k D B g).1 = 0 ∨ 2 ≤ (wkA P f t m k D B g).1 := by
  intro m
  induction m with
  | zero => intro k D B g; right; show (2 : Int) ≤ 4; omega
  | succ m ih =>
    intro k D B g
    rw [wkA_s]
    split
    · exact st_fail
    · exact ih _ _ _ _
theorem bod_rg (hw : WF P) (h2 : WF2 P) {i j : Int} (hs : isp P i j) : RG (sft P i (P 3 j - i)) 0 (P 3 j - i) ∧ Iso (sft P i (P 3 j - i)) 0 P i (P 3 j - i) := by
  have hr := RG.of hw h2 hs
  have wf := sft_wf hw hs
  obtain ⟨r1, r2, r3, r4, r5, r6⟩ := hr
  have e2 : ∀ x, sft P i (P 3 j - i) 2 x = (if P 2 (i + x) < i then -1 else P 2 (i + x) - i) := fun x => rfl
  have e4' : ∀ x, sft P i (P 3 j - i) 4 x = (if P 2 (i + x) < i then 0 else P 4 (i + x)) := fun x => rfl
  have p0 := hw.pr (k := i) (by omega) (by omega)
  refine ⟨⟨wf, Int.le_refl _, r3, by show 0 + (P 3 j - i) ≤ P 3 j - i; omega, fun x x0 x1 => ?_, fun x x0 x1 hx => ?_⟩, fun x x0 x1 => ⟨?_, ?_, ?_⟩⟩
  · show P 3 (i + (0 + x)) - i ≤ 0 + (P 3 j - i)
    have := r5 x x0 x1
    rw [Int.zero_add]; omega
  · rw [e2, Int.zero_add] at hx
    have c : P 2 (i + x) < i := by
      refine Classical.byContradiction fun q => ?_
      rw [if_neg q] at hx; omega
    rw [e2, e2, e4', e4', Int.zero_add, if_pos c, if_pos c, Int.add_zero, if_pos (by omega), if_pos (by omega)]
    exact ⟨rfl, rfl⟩
  · show P 1 (i + (0 + x)) = P 1 (i + x); rw [Int.zero_add]
  · show P 3 (i + (0 + x)) - i - 0 = P 3 (i + x) - i; rw [Int.zero_add]; omega
  · rw [e2, e4', Int.zero_add]
    by_cases c : P 2 (i + x) < i
    · rw [if_pos c]; exact Or.inl ⟨by omega, c⟩
    · rw [if_neg c, if_neg c]; exact Or.inr ⟨by omega, by omega, by omega, rfl⟩
theorem bod_wk (hw : WF P) (h2 : WF2 P) {i j : Int} (hs : isp P i j) (m : Nat) (D : Int → Int) (B : Int) (g : Gs) : wkA (sft P i (P 3 j - i)) 0 (P 3 j - i - 1) m 0 D B g = wkA P i (P 3 j - 1) m i D B g := by
  obtain ⟨a, b⟩ := bod_rg hw h2 hs
  have hr := RG.of hw h2 hs
  have := wk_iso a hr b (fun x x0 x1 => ⟨by show P 6 (i + (0 + x)) = _; rw [Int.zero_add], by show P 11 (i + (0 + x)) = _; rw [Int.zero_add], by rw [sft_Sy, Int.zero_add]⟩) m 0 D B g (Int.le_refl _) hr.2.2.1
  rw [show 0 + (P 3 j - i) - 1 = P 3 j - i - 1 by omega, Int.add_zero, Int.add_zero, show i + (P 3 j - i) - 1 = P 3 j - 1 by omega] at this
  exact this
end W
theorem clA_ok {R rho : Int → Int} {c : Int} {D : Int → Int} {B : Int} {g : Gs} (w0 : (wkC R rho c D g).1 = 0) : clA R rho c D B g = (0, (wkC R rho c D g).2.1, (outL (rho c) (wkC R rho c D g).2.2.1 (wkC R rho c D g).2.2.2.1 (LOt R (cm R c)) D B).1, (outL (rho c) (wkC R rho c D g).2.2.1 (wkC R rho c D g).2.2.2.1 (LOt R (cm R c)) D B).2, (wkC R rho c D g).2.2.2.2) := if_neg (fun q => q w0)
theorem clA_no {R rho : Int → Int} {c : Int} {D : Int → Int} {B : Int} {g : Gs} (w0 : (wkC R rho c D g).1 ≠ 0) : clA R rho c D B g = ((wkC R rho c D g).1, -1, D, B, (wkC R rho c D g).2.2.2.2) := if_pos w0
section K
variable {l : Launch} {M : sl_M} {Q : sl_R} {rho R : Int → Int} {s : Nat}
theorem CFr.fr {N : sl_M} {o : Nat} {D : Int → Int} {B : Int} (h : CFr M o D B) (e : ∀ i j, N o i j = M o i j) : CFr N o D B := ⟨by rw [e]; exact h.1, fun v v0 v1 hb => by rw [e]; exact h.2 v v0 v1 hb⟩
theorem CG.fr {N : sl_M} {g : Gs} (h : CG M g) (e : ∀ i j, ¬ (i = 0 ∧ j = 6) → N 3 i j = M 3 i j) : CG N g := ⟨by rw [e _ _ (by omega)]; exact h.1, by rw [e _ _ (by omega)]; exact h.2.1, by rw [e _ _ (by omega)]; exact h.2.2.1, fun q q0 q1 => by rw [e _ _ (by omega)]; exact h.2.2.2 q q0 q1⟩
theorem kX3_perform (hS : St M s R rho) {k : Int} (k0 : 0 ≤ k) (k1 : k < ly R rho 0 0) (h7 : ly R rho 1 k = 7) {D : Int → Int} {B : Int} {g : Gs} (hg : gI g) (hB : m8 B) (h0 : M 3 0 6 = 0) (hF : CFr M 4 D B) (hG : CG M g) (hin : ∀ v, v ∈ LIn R (cm R (clR R (tk R k))) → bt B (rn (rho (clR R (tk R k))) v).toNat = true)
    (hQ : ∀ N, (∀ a b d, a ≠ 3 → a ≠ 4 → a ≠ 5 → N a b d = M a b d) → CRs N 4 (clA R rho (clR R (tk R k)) D B g) → Q (some (vI (if (wkC R rho (clR R (tk R k)) D g).1 = 0 then tg (ly R rho) 0 (ly R rho 0 0 - 1) k (-(wkC R rho (clR R (tk R k)) D g).2.1) else -1))) N) : sl_Runs l mX3_perform [vR 3 0, vR s 0, vI k] M Q := by
  obtain ⟨hs7, hGd, hCd, h761, hRt⟩ := hS
  have hw := hCd.1
  have hn := hw.n0
  obtain ⟨ne, hc, -⟩ := hGd.cnode k0 k1 h7
  have hcg := hGd.2.2.2.2.1 _ hc.1 hc.2
  have hm := hcg.2.1
  have hM' := hGd.2.2.1 _ hm.1 hm.2
  have hT := hGd.1.1
  have sr := cls7 hs7
  obtain ⟨B1, B2, B3, B4, B5⟩ := hRt _ hm.1 hm.2
  have m3 := hGd.2.1
  have e6 : M (s + 10) 6 k = cm R (clR R (tk R k)) := by
    rw [(hCd.2.2.1 k k0 k1).2.2.2.2.2.1 h7]
    show (if clR R (tk R k) ≠ -1 then R (870 + clR R (tk R k)) else _) = _
    rw [if_pos ne]
  have e7 : M (s + 10) 7 k = rho (clR R (tk R k)) := by
    rw [(hCd.2.2.1 k k0 k1).2.2.2.2.2.2.2.2]
    show (if clR R (tk R k) ≠ -1 then rho (clR R (tk R k)) else _) = _
    rw [if_pos ne]
  generalize hce : clR R (tk R k) = c at *
  have hrO : rO s (cm R c) = 3 * s + (cm R c).toNat := rfl
  have r0 : 30 ≤ rO s (cm R c) := by rw [hrO]; omega
  have r1 : rO s (cm R c) < 54 := by rw [hrO]; omega
  have c5 : sl_cls (rO s (cm R c)) = 5 ∧ sl_cls (rO s (cm R c) + 30) = 0 := by
    have d : ∀ n : Nat, n < 54 → 30 ≤ n → sl_cls n = 5 ∧ sl_cls (n + 30) = 0 := by decide +kernel
    exact d _ (by omega) r0
  have c10 : sl_cls (s + 10) = 0 := by
    have d : ∀ n : Nat, n < 18 → 10 ≤ n → sl_cls (n + 10) = 0 := by decide +kernel
    exact d _ (by omega) (by omega)
  -- giving back
  have back : ∀ (n : Nat) (x : Int) (N : sl_M) (D' : Int → Int) (B' : Int) (e : Int), x + (n : Int) = 8 → 0 ≤ x → (∀ a b d, a ≠ 3 → a ≠ 4 → a ≠ 5 → N a b d = M a b d) → N 3 0 6 = 0 → (wkC R rho c D g).1 = 0 → e = -(wkC R rho c D g).2.1 → e4 e → CFr N 5 (wkC R rho c D g).2.2.1 (wkC R rho c D g).2.2.2.1 → CG N (wkC R rho c D g).2.2.2.2 → CFr N 4 D' B' → OutR (rho c) (wkC R rho c D g).2.2.1 (wkC R rho c D g).2.2.2.1 D B (fun u => u ∈ LOt R (cm R c) ∧ u < x) D' B' → sl_At l mX3_perform 136 [(0, vR 3 0), (2, vI k), (3, vR (s + 10) 0), (4, vR (rO s (cm R c)) 0), (5, vI (rho c)), (6, vI e), (7, vI x)] [] N Q := by
    intro n
    have l8 := hM'.lo8 hGd.1
    have injO : ∀ a b, a ∈ LOt R (cm R c) → b ∈ LOt R (cm R c) → rn (rho c) a = rn (rho c) b → a = b := fun a b ha hb => hcg.2.2.2.2.1 a b (((od_mem _ _ _).mp ha).elim (fun z => by simp at z) And.left) (((od_mem _ _ _).mp hb).elim (fun z => by simp at z) And.left)
    induction n with
    | zero =>
      intro x N D' B' e hx x0 fN z6 w0 ee e4' f5 gN f4 oR
      have C : Cd N (s + 10) (ly R rho) := by
        have : ∀ i j, N (s + 10) i j = M (s + 10) i j := fun i j => fN _ _ _ (by omega) (by omega) (by omega)
        unfold Cd; simp only [this]; exact hCd.2.1
      refine vX3_perform_136 c10 c5.1 fun _ _ _ _ _ => ⟨fun _ => ?_, fun q => (q (by omega)).elim⟩
      rw [C.1]
      refine ⟨by omega, kX0_target c10 hw C ⟨k0, k1⟩ e4' (by omega) (by omega) ⟨_, rfl, ?_⟩⟩
      have un := (outL_R (D := D) (B := B) (Di := (wkC R rho c D g).2.2.1) (Bi := (wkC R rho c D g).2.2.2.1) (r := rho c) (LOt R (cm R c)) (fun _ => False) D B (OutR.no hB) (fun a b ha hb => injO a b (ha.elim (fun z => z.elim) id) (hb.elim (fun z => z.elim) id))).same (fun u _ => ⟨fun q => ⟨q.elim (fun z => z.elim) id, by have := l8 u (q.elim (fun z => z.elim) id); omega⟩, fun q => Or.inr q.1⟩) oR
      have := hQ N fN ⟨?_, ?_, ?_⟩
      · rw [if_pos w0, ← ee] at this; exact this
      · rw [clA_ok w0]; exact z6
      · rw [clA_ok w0]
        show CFr N 4 (outL _ _ _ _ _ _).1 (outL _ _ _ _ _ _).2
        rw [un.1, un.2]; exact f4
      · rw [clA_ok w0]; exact gN
    | succ n ih =>
      intro x N D' B' e hx x0 fN z6 w0 ee e4' f5 gN f4 oR
      have eo : N (rO s (cm R c)) 0 3 = oM R (cm R c) := by rw [fN _ _ _ (by omega) (by omega) (by omega)]; exact B4
      have ei : N 5 0 1 = (wkC R rho c D g).2.2.2.1 := f5.1
      have om := hM'.om hGd.1 x.toNat
      rw [show ((x.toNat : Nat) : Int) = x by omega] at om
      have sS : ∀ u, (u ∈ LOt R (cm R c) ∧ u < x + 1) ↔ ((u ∈ LOt R (cm R c) ∧ u < x) ∨ (u = x ∧ x ∈ LOt R (cm R c))) := fun u => by
        constructor
        · rintro ⟨a, b⟩
          by_cases q : u < x
          · exact Or.inl ⟨a, q⟩
          · have : u = x := by omega
            subst this; exact Or.inr ⟨rfl, a⟩
        · rintro (⟨a, b⟩ | ⟨a, b⟩)
          · exact ⟨a, by omega⟩
          · subst a; exact ⟨b, by omega⟩
      refine vX3_perform_136 c10 c5.1 fun _ _ _ _ _ => ⟨fun q => by omega, fun _ => ?_⟩
      rw [eo, ei]
      have hb := has0 (m := iand (oM R (cm R c)) (wkC R rho c D g).2.2.2.1) (k := x) (by omega)
      rw [bt_iand, Bool.and_eq_true, om] at hb
      refine ⟨fun z => ⟨by omega, ?_⟩, fun z => ⟨by omega, ?_⟩⟩
      · have nb : ¬ (x ∈ LOt R (cm R c) ∧ bt (wkC R rho c D g).2.2.2.1 x.toNat = true) := fun q => z (hb.mpr q)
        refine ih (x + 1) N D' B' e (by omega) (by omega) fN z6 w0 ee e4' f5 gN f4 ?_
        by_cases cx : x ∈ LOt R (cm R c)
        · have e1 : (fun u => u ∈ LOt R (cm R c) ∧ u < x + 1) = (fun u => (u ∈ LOt R (cm R c) ∧ u < x) ∨ u = x) := by
            funext u; rw [eq_iff_iff, sS u]; exact ⟨fun q => q.elim Or.inl (fun r => Or.inr r.1), fun q => q.elim Or.inl (fun r => Or.inr ⟨r, cx⟩)⟩
          rw [e1]
          refine oR.skip ?_
          cases q : bt (wkC R rho c D g).2.2.2.1 x.toNat with
          | true => exact (nb ⟨cx, q⟩).elim
          | false => rfl
        · have e1 : (fun u => u ∈ LOt R (cm R c) ∧ u < x + 1) = (fun u => u ∈ LOt R (cm R c) ∧ u < x) := by
            funext u; rw [eq_iff_iff, sS u]; exact ⟨fun q => q.elim id (fun r => (cx r.2).elim), Or.inl⟩
          rw [e1]; exact oR
      · have yb := hb.mp z
        have r8 := rn_rng (rho c) x
        have e1 : (fun u => u ∈ LOt R (cm R c) ∧ u < x + 1) = (fun u => (u ∈ LOt R (cm R c) ∧ u < x) ∨ u = x) := by
          funext u; rw [eq_iff_iff, sS u]; exact ⟨fun q => q.elim Or.inl (fun r => Or.inr r.1), fun q => q.elim Or.inl (fun r => Or.inr ⟨r, yb.1⟩)⟩
        rw [f5.2 x x0 (by omega) yb.2]
        show sl_RV l mX2_give [vR 4 0, vI (rn (rho c) x), vI ((wkC R rho c D g).2.2.1 x)] N _
        refine kX2_give (by decide +kernel) r8 ⟨rfl, by omega, ?_⟩
        have fg : ∀ a b d, a ≠ 4 → (sl_wr (sl_wr N 4 1 (rn (rho c) x) ((wkC R rho c D g).2.2.1 x)) 4 0 1 (ior (N 4 0 1) (ishl 1 (rn (rho c) x)))) a b d = N a b d := fun a b d q => by simp only [sl_wr]; rw [if_neg (by omega), if_neg (by omega)]
        refine ih (x + 1) _ (fun q => if q = rn (rho c) x then (wkC R rho c D g).2.2.1 x else D' q) (ior B' (ishl 1 (rn (rho c) x))) e (by omega) (by omega) (fun a b d q1 q2 q3 => by rw [fg a b d q2]; exact fN a b d q1 q2 q3) (by rw [fg 3 0 6 (by omega)]; exact z6) w0 ee e4' (f5.fr (fun i j => fg 5 i j (by omega))) (gN.fr (fun i j _ => fg 3 i j (by omega))) (f4.give r8) ?_
        rw [e1]
        exact oR.step yb.2 (fun a ha hr => injO a x ha.1 yb.1 hr)
  -- handing in
  have give : ∀ (n : Nat) (x : Int) (N : sl_M) (B' : Int), x + (n : Int) = 8 → 0 ≤ x → (∀ a b d, a ≠ 5 → N a b d = M a b d) → CFr N 5 (fun v => D (rn (rho c) v)) B' → m8 B' → (∀ w : Nat, bt B' w = true ↔ ((w : Int) ∈ LIn R (cm R c) ∧ (w : Int) < x)) → sl_At l mX3_perform 52 [(0, vR 3 0), (2, vI k), (3, vR (s + 10) 0), (4, vR (rO s (cm R c)) 0), (5, vI (rho c)), (6, vI x)] [] N Q := by
    intro n
    have l8 := hM'.li8 hGd.1
    induction n with
    | zero =>
      intro x N B' hx x0 fN f5 m8B bits
      have z6 : N 3 0 6 = 0 := by rw [fN _ _ _ (by omega)]; exact h0
      have eB : B' = iM R (cm R c) := by
        refine m8_ext m8B (hM'.im8 hGd.1) (fun v hv => ?_)
        rw [Bool.eq_iff_iff, bits v, hM'.im hGd.1 v]
        exact ⟨And.left, fun q => ⟨q, by omega⟩⟩
      rw [eB] at f5
      have CB : CdA N (rO s (cm R c) + 30) (bod R (cm R c)) := B1.frame (fun i j => fN _ _ _ (by omega))
      have bw := bod_wk hT hGd.1.2.1 hM'.1 (401 - g.2.1).toNat (fun v => D (rn (rho c) v)) (iM R (cm R c)) g
      have hr := (bod_rg hT hGd.1.2.1 hM'.1)
      have e00 : bod R (cm R c) 0 0 = tp (cutR R) 3 (ml0 R (cm R c)) - mf0 R (cm R c) := rfl
      obtain ⟨s0, s1, s2, s3, s4⟩ := hM'.1
      have aj := hT.af (k := ml0 R (cm R c)) (by omega) s2
      refine vX3_perform_52 c10 c5.1 fun _ _ _ _ => ⟨fun _ => ⟨fun q => (q z6).elim, fun _ => ?_⟩, fun q => (q (by omega)).elim⟩
      refine kX3_walk (P := bod R (cm R c)) c5.2 CB.2.1 CB.2.2.1 hr.1 (fun y y0 y1 => ?_) hg z6 f5 (hG.fr (fun i j _ => fN _ _ _ (by omega))) (m := (401 - g.2.1).toNat) (by have := hg.2.2; omega) (fun O fO rO' => ⟨_, rfl, ?_⟩)
      · have td := hGd.1.2.2.2 (mf0 R (cm R c) + y) (by omega) (by have : tp (cutR R) 0 0 = cutR R 0 := rfl; rw [e00] at y1; omega)
        refine ⟨td.1, ?_, rfl⟩
        have ev := td.2.2.2.1
        refine ⟨?_, fun i i0 i1 => ?_⟩
        · rw [sft_Sy]; exact ev.1
        · have e12 : bod R (cm R c) 12 (16 * y + i) = tp (cutR R) 12 (16 * (mf0 R (cm R c) + y) + i) := sft_12
          rw [e12]; exact ev.2 i i0 i1
      · rw [e00, bw] at rO' ⊢
        have rO2 : CRs O 5 (wkC R rho c D g) := rO'
        show (O 3 0 6 = 0 → sl_At l mX3_perform 136 [(0, vR 3 0), (2, vI k), (3, vR (s + 10) 0), (4, vR (rO s (cm R c)) 0), (5, vI (rho c)), (6, vI (-(wkC R rho c D g).2.1)), (7, vI 0)] [] O Q) ∧ (¬ (O 3 0 6 = 0) → Q (some (vI (-1))) O)
        have fO' : ∀ a b d, a ≠ 3 → a ≠ 4 → a ≠ 5 → O a b d = M a b d := fun a b d q1 q2 q3 => by rw [fO a b d q1 q3]; exact fN a b d q3
        have f4' : CFr O 4 D B := hF.fr (fun i j => by rw [fO 4 i j (by omega) (by omega)]; exact fN 4 i j (by omega))
        have fails : (wkC R rho c D g).1 = 0 ∨ 2 ≤ (wkC R rho c D g).1 := wk_fail _ _ _ _ _
        have exits := wk_out (RG.of hT hGd.1.2.1 hM'.1) (fun x _ _ => TG.k20 _) (401 - g.2.1).toNat 0 (fun v => D (rn (rho c) v)) (iM R (cm R c)) g (Int.le_refl _) (by omega)
        rw [show mf0 R (cm R c) + (tp (cutR R) 3 (ml0 R (cm R c)) - mf0 R (cm R c)) - 1 = tp (cutR R) 3 (ml0 R (cm R c)) - 1 by omega, Int.add_zero] at exits
        have exits' : ∃ e, e4 e ∧ (wkC R rho c D g).2.1 = -e := exits
        obtain ⟨q1, q2, q3⟩ := rO2
        refine ⟨fun z => ?_, fun z => ?_⟩
        · have w0 : (wkC R rho c D g).1 = 0 := by
            refine Classical.byContradiction fun q => ?_
            rw [if_neg q] at q1; omega
          obtain ⟨e, a, b⟩ := exits'
          refine back 8 0 O D B _ (by omega) (by omega) fO' z w0 rfl (by rw [b, Int.neg_neg]; exact a) q2 q3 f4' ?_
          have e1 : (fun u => u ∈ LOt R (cm R c) ∧ u < 0) = (fun _ => False) := by
            funext u; rw [eq_iff_iff]; exact ⟨fun q => by have := hM'.lo8 hGd.1 u q.1; omega, fun q => q.elim⟩
          rw [e1]; exact OutR.no hB
        · have w0 : (wkC R rho c D g).1 ≠ 0 := fun q => by rw [if_pos q] at q1; exact z q1
          have := hQ O fO' ⟨?_, ?_, ?_⟩
          · rw [if_neg w0] at this; exact this
          · rw [clA_no w0]; exact q1
          · rw [clA_no w0]; exact f4'
          · rw [clA_no w0]; exact q3
    | succ n ih =>
      intro x N B' hx x0 fN f5 m8B bits
      have ei : N (rO s (cm R c)) 0 2 = iM R (cm R c) := by rw [fN _ _ _ (by omega)]; exact B3
      have im := hM'.im hGd.1 x.toNat
      rw [show ((x.toNat : Nat) : Int) = x by omega] at im
      refine vX3_perform_52 c10 c5.1 fun _ _ _ _ => ⟨fun q => by omega, fun _ => ?_⟩
      rw [ei]
      have hb := has0 (m := iM R (cm R c)) (k := x) (by omega)
      rw [im] at hb
      refine ⟨fun z => ⟨by omega, ?_⟩, fun z => ?_⟩
      · refine ih (x + 1) N B' (by omega) (by omega) fN f5 m8B (fun w => ?_)
        rw [bits w]
        constructor
        · rintro ⟨a, b⟩; exact ⟨a, by omega⟩
        · rintro ⟨a, b⟩
          refine ⟨a, ?_⟩
          rcases Int.lt_or_le (w : Int) x with q | q
          · exact q
          · have : (w : Int) = x := by omega
            rw [this] at a
            exact (z (hb.mpr a)).elim
      · have mem := hb.mp z
        have r8 := rn_rng (rho c) x
        have b4 : bt (N 4 0 1) (rn (rho c) x).toNat = true := by rw [fN _ _ _ (by omega), hF.1]; exact hin x mem
        show sl_RI l mX3_valueOf [vR 3 0, vI (rn (rho c) x), vR 4 0] N _
        refine kX3_valueOf (by decide +kernel) r8 (fun _ => ⟨_, rfl, ?_⟩) (fun q => by rw [b4] at q; cases q)
        have ev : N 4 1 (rn (rho c) x) = D (rn (rho c) x) := by rw [fN _ _ _ (by omega)]; exact hF.2 _ r8.1 r8.2 (hin x mem)
        rw [ev]
        refine kX2_give (by decide +kernel) ⟨x0, by omega⟩ ⟨rfl, by omega, ?_⟩
        have fg : ∀ a b d, a ≠ 5 → (sl_wr (sl_wr N 5 1 x (D (rn (rho c) x))) 5 0 1 (ior (N 5 0 1) (ishl 1 x))) a b d = N a b d := fun a b d q => by simp only [sl_wr]; rw [if_neg (by omega), if_neg (by omega)]
        have gv := f5.give (x := D (rn (rho c) x)) (v := x) ⟨x0, by omega⟩
        have ef : (fun q => if q = x then D (rn (rho c) x) else D (rn (rho c) q)) = (fun v => D (rn (rho c) v)) := by
          funext q
          by_cases e : q = x
          · rw [if_pos e, e]
          · rw [if_neg e]
        rw [ef] at gv
        refine ih (x + 1) _ (ior B' (ishl 1 x)) (by omega) (by omega) (fun a b d q => by rw [fg a b d q]; exact fN a b d q) gv (m8_or m8B (m8_shl ⟨x0, by omega⟩)) (fun w => ?_)
        rw [bt_ior, bt_shl ⟨x0, by omega⟩, Bool.or_eq_true, decide_eq_true_eq, bits w]
        constructor
        · rintro (⟨a, b⟩ | a)
          · exact ⟨a, by omega⟩
          · rw [a]; exact ⟨mem, by omega⟩
        · rintro ⟨a, b⟩
          by_cases q : (w : Int) = x
          · exact Or.inr q
          · exact Or.inl ⟨a, by omega⟩
  refine eX3_perform (vX3_perform_0 hs7 fun _ _ => ⟨by omega, ?_⟩)
  rw [e6]
  refine kX7_hasRoutine hs7 ⟨_, rfl, fun z => ?_, fun z => ?_⟩
  · show (0 ≤ M (s + 10) 6 k ∧ M (s + 10) 6 k < 3) ∧ _
    rw [e6]
    refine ⟨by omega, fun N6 e6' => ?_⟩
    have f6 : ∀ o i j, ¬ (o = 5 ∧ i = 0 ∧ j = 1) → N6 o i j = M o i j := fun o i j q => by rw [e6']; simp only [sl_wr]; rw [if_neg q]
    rw [e7]
    exact give 8 0 N6 0 (by omega) (by omega) (fun a b d q => f6 a b d (by omega)) ⟨by rw [e6']; exact sl_wr_s, fun v v0 v1 hb => by rw [bt_0] at hb; cases hb⟩ m8_0 (fun w => by rw [bt_0]; exact ⟨(fun q => by cases q), (fun q => by omega)⟩)
  · rw [h761, if_pos hm] at z; omega
end K
