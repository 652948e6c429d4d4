/-! The reference goes through a method -/
section W
variable {P : Pg} {M : sl_M} {b k v : Int}
def wyV (P : Pg) (k v : Int) : Int := if P 1 k = 5 ∨ P 1 k = 6 then (if v = 0 then 1 else 0) else 0
theorem wy_top (hW : WYk M b P k) (h20 : P 20 k = eK (P 1 k)) : M 1 26 (4 * (b + k) + wyV P k v) = tN P (nxA P 0 (P 0 0 - 1) k v) ∧ M 1 28 (4 * (b + k) + wyV P k v) = (if P 1 k = 5 ∨ P 1 k = 6 then 1 else eK (P 1 k)) ∧ M 1 29 (4 * (b + k) + wyV P k v) = (if P 1 k = 5 ∨ P 1 k = 6 then -1 else if eK (P 1 k) = 2 ∨ eK (P 1 k) = 4 then la P 0 40 (P 2 k) else -1) := by
  unfold wyV nxA
  by_cases c : P 1 k = 5 ∨ P 1 k = 6
  · rw [if_pos c, if_pos c, if_pos c, if_pos c]
    obtain ⟨q1, q2, q3, q4⟩ := (hW.1 c).2 (if v = 0 then 1 else 0) (by split <;> omega)
    exact ⟨q1, q3, q4⟩
  · rw [if_neg c, if_neg c, if_neg c, if_neg c]
    obtain ⟨a, d, f⟩ := hW.2 (by omega) (by omega)
    obtain ⟨w, w0, w1, -⟩ := d (eK (P 1 k)) (eK_4 _) (by rw [h20]; exact eK_and _)
    obtain ⟨e, e1, e2, g1, g2, g3, g4⟩ := f 0 (by omega) (by omega)
    rw [h20] at e2
    have := eK_one e1 e2
    subst this
    exact ⟨g2, g1, g4⟩
theorem wy_lb (h : WF P) {i j : Int} (hs : isp P i j) (h1 : i ≤ k) (h2 : k < P 3 j) (hW : WYk M b P k) (hl : ∀ e, (e = 2 ∨ e = 4) → P 1 k ≠ 5 → P 1 k ≠ 6 → iand (P 20 k) e ≠ 0 → la P 0 40 (P 2 k) ≠ -1) (h20 : P 20 k = eK (P 1 k)) : (lb i (P 3 j - 1) (M 1 26 (4 * (b + k) + wyV P k v)) (M 1 28 (4 * (b + k) + wyV P k v)) (M 1 29 (4 * (b + k) + wyV P k v)) = 0 ∧ nxA P i (P 3 j - 1) k v = M 1 26 (4 * (b + k) + wyV P k v) ∧ 0 ≤ M 1 26 (4 * (b + k) + wyV P k v)) ∨ (e4 (lb i (P 3 j - 1) (M 1 26 (4 * (b + k) + wyV P k v)) (M 1 28 (4 * (b + k) + wyV P k v)) (M 1 29 (4 * (b + k) + wyV P k v))) ∧ nxA P i (P 3 j - 1) k v = -(lb i (P 3 j - 1) (M 1 26 (4 * (b + k) + wyV P k v)) (M 1 28 (4 * (b + k) + wyV P k v)) (M 1 29 (4 * (b + k) + wyV P k v)))) := by
  obtain ⟨t1, t2, t3⟩ := wy_top (v := v) hW h20
  have hn := h.n0
  have hs' := hs
  obtain ⟨s0, s1, s2, s3, s4⟩ := hs
  have aj := h.af (k := j) (by omega) s2
  have tnp : ∀ x, 0 ≤ tN P x := fun x => by unfold tN; split <;> omega
  rw [t1, t2, t3]
  unfold nxA
  by_cases c : P 1 k = 5 ∨ P 1 k = 6
  · rw [if_pos c, if_pos c, if_pos c, if_pos c, en_reg h hs' h1 h2]
    rcases lb_end (x := en P 0 (P 0 0 - 1) k (if v = 0 then 1 else 0)) (f := i) (t := P 3 j - 1) (P := P) s0 (by omega) (is := 1) (lo := -1) (Or.inl rfl) with ⟨q1, q2⟩ | ⟨q1, q2⟩
    · exact Or.inl ⟨q1, q2, tnp _⟩
    · exact Or.inr ⟨by rw [q1]; exact Or.inl rfl, by rw [q1, q2]⟩
  · rw [if_neg c, if_neg c, if_neg c, if_neg c]
    rcases lb_tg h hs' h1 h2 (eK_4 (P 1 k)) (fun z => hl _ z (by omega) (by omega) (by rw [h20]; exact eK_and _)) with ⟨q1, q2⟩ | ⟨q1, q2⟩
    · exact Or.inl ⟨q1, q2, tnp _⟩
    · exact Or.inr ⟨q1, q2⟩
end W
theorem FSt.tr {M N O : sl_M} {z : Nat} (h1 : FSt M N z) (h2 : FSt N O z) : FSt M O z := fun o i j q => (h2 o i j q).trans (h1 o i j q)
theorem FSt.row {M N : sl_M} {z : Nat} (h : FSt M N z) (hz : z = 51 ∨ z = 53) : N 1 1 = M 1 1 := by funext q; exact h 1 1 q (by omega)
theorem FSt.la {M N : sl_M} {z : Nat} {b : Int} {P : Pg} (h : FSt M N z) (hz : z = 51 ∨ z = 53) (hw : WF P) (hL : LaB M b P) : LaB N b P := hL.eq hw (fun a c q => h 1 a c (by unfold inB at q; omega))
section K
variable {l : Launch} {Q : sl_R} {rho R : Int → Int}
theorem TG.k20 {A : Int → Int} (k : Int) : tp A 20 k = eK (tp A 1 k) := rfl
theorem wkR (hGd : Good R rho) {i j : Int} (hs : isp (tp (cutR R)) i j) : ∀ (m : Nat) (M : sl_M) (k : Int) (D : Int → Int) (B : Int) (g : Gs), M 1 1 = R → LaB M 41 (tp (cutR R)) → M 1 0 31 = i → M 1 0 32 = tp (cutR R) 3 j → g.2.1 + (m : Int) = 401 → (i ≤ k ∧ k < tp (cutR R) 3 j) → gI g → RFr M 53 D B → RG2 M g → (∀ N, FSt M N 53 → RRs N 53 (wkA (tp (cutR R)) i (tp (cutR R) 3 j - 1) m k D B g) → Q (some (vI (if (wkA (tp (cutR R)) i (tp (cutR R) 3 j - 1) m k D B g).1 = 0 then -(wkA (tp (cutR R)) i (tp (cutR R) 3 j - 1) m k D B g).2.1 else 0))) N) → sl_At l mX10_goesThrough 117 [(0, vR 1 0), (3, vI k)] [] M Q := by
  intro m
  have hw : WF (tp (cutR R)) := hGd.1.1
  have hrg := RG.of hw hGd.1.2.1 hs
  have n0 := hw.n0
  have hs' := hs
  obtain ⟨s0, s1, s2, s3, s4⟩ := hs
  have aj := hw.af (k := j) (by omega) s2
  have eR0 : tp (cutR R) 0 0 = cutR R 0 := rfl
  induction m with
  | zero => intro M k D B g _ _ _ _ hm _ hg; exact absurd hg.2.2 (by omega)
  | succ m ih =>
    intro M k D B g hR hL h31 h32 hm hk hg hF hG hQ
    obtain ⟨L1, L2, L3, L4⟩ := hL
    have hL' : LaB M 41 (tp (cutR R)) := ⟨L1, L2, L3, L4⟩
    have k0 : 0 ≤ k ∧ k < tp (cutR R) 0 0 := by omega
    have tk' := hGd.1.2.2.2 k k0.1 (by rw [← eR0]; exact k0.2)
    obtain ⟨d1, d2, d3, d4, d5, d6, d7⟩ := tk'
    have rdc := TG.rdc hGd.1 hGd.2.2.2.1
    have c1 : ∀ q, 0 ≤ q → q ≤ 760 → cutR R q = R q := fun q q0 q1 => cutR_eq q0 q1
    have rB : RdB R 41 (tp (cutR R)) := rdc.1
    have e24 : (wyA (tp (cutR R)) k D B) = wyV (tp (cutR R)) k (evA (tp (cutR R)) k D B).2 := rfl
    refine vX10_goesThrough_117 fun _ _ => kX10_steps (P := tp (cutR R)) (T := tp (cutR R)) (t := k) (z := 53) (f := i) (t' := tp (cutR R) 3 j - 1) (by rw [hR]; exact rB.2.1) hw (by rw [hR]; exact rdc.2) (by omega) (Or.inr ⟨rfl, rfl⟩) (L2 k k0.1 k0.2).1 (L1.2.2 k k0.1 k0.2).1 k0 n0.2 rfl (fun _ _ _ => rfl) (by rw [hR]; exact (c1 _ (by omega) (by omega)).symm) (fun q => ⟨by rw [hR]; exact (c1 _ (by omega) (by omega)).symm, d2 q⟩) d3 d4 (fun q => d6.mp q) d1 (hw.kd k0.1 k0.2) hg hF hG (fun N fN rN => ⟨_, rfl, fun z => ?_, fun z => ?_⟩)
    · -- it goes on
      have ok : (stA (tp (cutR R)) i (tp (cutR R) 3 j - 1) k D B g).1 = 0 := by
        refine Classical.byContradiction fun q => ?_
        rw [if_neg q] at z; omega
      rw [if_pos ok] at z ⊢
      have sx := st_nx (x := k - i) (n := tp (cutR R) 3 j - i) (D := D) (B := B) (g := g) hrg (by omega) (by omega) (TG.k20 _)
      rw [show i + (tp (cutR R) 3 j - i) - 1 = tp (cutR R) 3 j - 1 by omega, show i + (k - i) = k by omega] at sx
      obtain ⟨-, sb, sc⟩ := sx
      obtain ⟨sc, -, -⟩ := sc ok
      have wv : 0 ≤ wyA (tp (cutR R)) k D B ∧ wyA (tp (cutR R)) k D B ≤ 1 := by
        unfold wyA; split
        · split <;> omega
        · omega
      refine ⟨by omega, fun y5 ey => ?_⟩
      have fN' : ∀ a c, 16 ≤ a → a ≤ 50 → N 1 a c = M 1 a c := fun a c a0 a1 => fN 1 a c (by omega)
      have n31 : N 1 0 31 = i := by rw [fN 1 0 31 (by omega)]; exact h31
      have n32 : N 1 0 32 = tp (cutR R) 3 j := by rw [fN 1 0 32 (by omega)]; exact h32
      refine kX10_leavesBy (by omega) (by rw [n32]; omega) ⟨_, rfl, ?_⟩
      rw [n31, n32, fN' 26 y5 (by omega) (by omega), fN' 28 y5 (by omega) (by omega), fN' 29 y5 (by omega) (by omega), ey, e24]
      have hQ' := hQ
      rw [wkA_s] at hQ
      rcases wy_lb (v := (evA (tp (cutR R)) k D B).2) hw hs' hk.1 hk.2 (L3 k k0.1 k0.2) (TG.hl hGd.1 k0.1 (by rw [← eR0]; exact k0.2)) (TG.k20 k) with ⟨q1, q2, q3⟩ | ⟨q1, q2⟩
      · rw [← sc] at q2
        rw [if_neg (by rw [q2]; omega)] at hQ
        refine ⟨fun _ => ⟨by omega, ?_⟩, fun q => (q q1).elim⟩
        rw [fN' 26 _ (by omega) (by omega), ← q2]
        obtain ⟨gi, gs⟩ := hg.stp (P := tp (cutR R)) (f := i) (t := tp (cutR R) 3 j - 1) (k := k) (D := D) (B := B)
        refine ih N _ _ _ _ (by rw [fN.row (Or.inr rfl)]; exact hR) (fN.la (Or.inr rfl) hw hL') n31 n32 (by rw [gs ok]; omega) ?_ gi rN.2.1 rN.2.2 (fun O fO rO' => hQ O (fN.tr fO) rO')
        rcases sb with ⟨e, a, b⟩ | a
        · unfold e4 at a; omega
        · omega
      · rw [← sc] at q2
        have qn : (stA (tp (cutR R)) i (tp (cutR R) 3 j - 1) k D B g).2.1 < 0 := by rw [q2]; unfold e4 at q1; omega
        rw [if_pos (Or.inr qn), if_pos ok] at hQ
        have := hQ N fN rN
        rw [q2, Int.neg_neg] at this
        exact ⟨fun q => by rw [q] at q1; unfold e4 at q1; omega, fun _ => this⟩
    · -- it failed
      have bad : (stA (tp (cutR R)) i (tp (cutR R) 3 j - 1) k D B g).1 ≠ 0 := by
        intro q
        rw [if_pos q] at z
        refine z ?_
        unfold wyA; split
        · split <;> omega
        · omega
      rw [wkA_s, if_pos (Or.inl bad)] at hQ
      have := hQ N fN rN
      rw [if_neg bad] at this
      exact this
end K
