/-! The reference: a statement is done -/
def RG2 (M : sl_M) (g : Gs) : Prop := M 1 0 54 = g.1 ∧ M 1 0 55 = g.2.1 ∧ M 1 0 56 = g.2.2.1 ∧ ∀ q, 0 ≤ q → q < g.2.2.1 → M 1 58 q = g.2.2.2 q
def RFr (M : sl_M) (z : Nat) (D : Int → Int) (B : Int) : Prop := M 1 0 (z : Int) = B ∧ ∀ v, 0 ≤ v → v < 8 → bt B v.toNat = true → M 1 z v = D v
def RRs (M : sl_M) (z : Nat) (r : Rs) : Prop := M 1 0 59 = r.1 ∧ RFr M z r.2.2.1 r.2.2.2.1 ∧ RG2 M r.2.2.2.2
/-- what a step of frame z changes -/
def FSt (M N : sl_M) (z : Nat) : Prop := ∀ (o i : Nat) (j : Int), ¬ (o = 1 ∧ (i = z ∨ i = 58 ∨ i = 62 ∨ i = 63 ∨ i = 64 ∨ (i = 0 ∧ (j = z ∨ j = 54 ∨ j = 55 ∨ j = 56 ∨ j = 59 ∨ j = 60)))) → N o i j = M o i j
def wyA (P : Pg) (k : Int) (D : Int → Int) (B : Int) : Int := if P 1 k = 5 ∨ P 1 k = 6 then (if (evA P k D B).2 = 0 then 1 else 0) else 0
theorem ev_S {S S' D : Int → Int} {B : Int} : ∀ (n : Nat) (i : Int) (w : List (Int × Option Int)) (x : Int), (∀ q, i ≤ q → q < i + n → S q = S' q) → ev S D B n i w x = ev S' D B n i w x := by
  intro n
  induction n with
  | zero => intro i w x _; rfl
  | succ n ih =>
    intro i w x hq
    unfold ev
    rw [← hq i (by omega) (by omega)]
    have hr : ∀ q, i + 1 ≤ q → q < i + 1 + n → S q = S' q := fun q q0 q1 => hq q (by omega) (by omega)
    split
    · exact ih _ _ _ hr
    · split
      · rfl
      · cases psh w (if 48 ≤ S i ∧ S i ≤ 57 then S i - 48 else D (S i - 97)) with
        | none => rfl
        | some y => exact ih _ _ _ hr
theorem Wt_cong {S S' : Int → Int} : ∀ (n : Nat), (∀ q, 0 ≤ q → q < (n : Int) → S q = S' q) → Wt S n = Wt S' n := by
  intro n
  induction n with
  | zero => intro _; rfl
  | succ n ih =>
    intro h
    unfold Wt
    rw [ih (fun q q0 q1 => h q q0 (by omega)), h n (by omega) (by omega)]
theorem WX_cong {S S' : Int → Int} {n : Int} (h : ∀ q, 0 ≤ q → q < n → S q = S' q) (hx : WX S n) : WX S' n := by
  refine ⟨fun i hi => ?_, ?_⟩
  · rw [← Wt_cong i (fun q q0 q1 => h q q0 (by omega))]; exact hx.1 i hi
  · rw [← Wt_cong n.toNat (fun q q0 q1 => h q q0 (by omega))]; exact hx.2
section K
variable {l : Launch} {M : sl_M} {Q : sl_R} {P T : Pg}
theorem RFr.give {z : Nat} {D : Int → Int} {B v x : Int} (h : RFr M z D B) (hz : z = 51 ∨ z = 53) (hv : 0 ≤ v ∧ v < 8) : RFr (sl_wr (sl_wr M 1 z v x) 1 0 (z : Int) (ior (M 1 0 (z : Int)) (ishl 1 v))) z (fun q => if q = v then x else D q) (ior B (ishl 1 v)) := by
  obtain ⟨h1, h2⟩ := h
  refine ⟨by rw [sl_wr_s, h1], fun w w0 w1 hb => ?_⟩
  simp only [sl_wr]
  rw [if_neg (by omega)]
  by_cases e : w = v
  · rw [if_pos (by simp [e]), if_pos e]
  · rw [if_neg (by simp [e]), if_neg e]
    refine h2 w w0 w1 ?_
    rw [bt_ior, bt_shl hv, show ((w.toNat : Nat) : Int) = w by omega, decide_eq_false e, Bool.or_false] at hb
    exact hb
theorem kX10_steps (hP : PR (M 1 1) 41 T) (hw : WF T) (hS : PRs (M 1 1) T) {b k t w : Int} {z : Nat} (hb : 0 ≤ b + k ∧ b + k < 82) (hz : (w = 0 ∧ z = 51) ∨ (w = 1 ∧ z = 53)) (h21 : M 1 21 (b + k) = t) (h17 : M 1 17 (b + k) = P 1 k) (ht : 0 ≤ t ∧ t < T 0 0) (hn : T 0 0 ≤ 40) (e11 : T 11 t = P 11 k) (e12 : ∀ i, 0 ≤ i → i < 16 → Sy T t i = Sy P k i) (e241 : M 1 1 (241 + t) = P 11 k) (e201 : P 1 k = 0 → M 1 1 (201 + t) = P 6 k ∧ 0 ≤ P 6 k ∧ P 6 k < 8) (h11 : 0 ≤ P 11 k ∧ P 11 k ≤ 12) (hE : EV P k) (h34 : P 11 k = 0 → P 1 k = 3 ∨ P 1 k = 4) (h7 : P 1 k ≠ 7) (hk8 : 0 ≤ P 1 k ∧ P 1 k ≤ 7) {f t' : Int} {D : Int → Int} {B : Int} {g : Gs} (hg : gI g) (hF : RFr M z D B) (hG : RG2 M g)
    (hQ : ∀ N, FSt M N z → RRs N z (stA P f t' k D B g) → Q (some (vI (if (stA P f t' k D B g).1 = 0 then wyA P k D B else -1))) N) : sl_Runs l mX10_steps [vR 1 0, vI b, vI k, vI w] M Q := by
  obtain ⟨g1, g2, g3, g4⟩ := hG
  obtain ⟨i1, i2, i3⟩ := hg
  refine eX10_steps (vX10_steps_0 fun _ _ _ _ => ⟨fun z4 => ⟨by omega, fun M3 e3 M4 e4' => ?_⟩, fun z4 N e => ?_⟩)
  · have n400 : g.2.1 ≠ 400 := by omega
    have f4 : ∀ o i j, ¬ (o = 1 ∧ i = 0 ∧ (j = 55 ∨ j = 59)) → M4 o i j = M o i j := fun o i j q => by rw [e4', e3]; simp only [sl_wr]; rw [if_neg (by omega), if_neg (by omega)]
    have r4 : M4 1 1 = M 1 1 := by funext q; exact f4 1 1 q (by omega)
    have h55 : M4 1 0 55 = g.2.1 + 1 := by rw [e4', e3]; simp [sl_wr]; omega
    have h59 : M4 1 0 59 = 0 := by rw [e4']; exact sl_wr_s
    rw [f4 1 21 (b + k) (by omega), h21, f4 1 1 (241 + t) (by omega), e241]
    -- behind the expression
    have go : ∀ N, FWo M4 N → N 1 0 59 = (evA P k D B).1 → ((evA P k D B).1 = 0 → 0 < P 11 k → N 1 0 60 = (evA P k D B).2) → sl_At l mX10_steps 63 [(0, vR 1 0), (1, vI b), (2, vI k), (3, vI w), (4, vI t)] [] N Q := by
      intro N fN hN59 hN60
      have fr : ∀ o i j, ¬ (o = 1 ∧ (i = 62 ∨ i = 63 ∨ i = 64 ∨ (i = 0 ∧ (j = 55 ∨ j = 59 ∨ j = 60)))) → N o i j = M o i j := fun o i j q => by rw [fN o i j (by omega), f4 o i j (by omega)]
      have a55 : N 1 0 55 = g.2.1 + 1 := by rw [fN 1 0 55 (by omega)]; exact h55
      have cf : RFr N z D B := ⟨by rw [fr 1 0 z (by omega)]; exact hF.1, fun v v0 v1 hb => by rw [fr 1 z v (by omega)]; exact hF.2 v v0 v1 hb⟩
      have a54 : N 1 0 54 = g.1 := by rw [fr 1 0 54 (by omega)]; exact g1
      have a56 : N 1 0 56 = g.2.2.1 := by rw [fr 1 0 56 (by omega)]; exact g3
      have ap : ∀ q, 0 ≤ q → q < g.2.2.1 → N 1 58 q = g.2.2.2 q := fun q q0 q1 => by rw [fr 1 58 q (by omega)]; exact g4 q q0 q1
      have b17 : N 1 17 (b + k) = P 1 k := by rw [fr 1 17 _ (by omega)]; exact h17
      refine vX10_steps_63 fun _ _ _ _ _ => ⟨fun ez => ⟨hb, ?_⟩, fun ez => ?_⟩
      · have ef : (evA P k D B).1 = 0 := by rw [← hN59]; exact ez
        have eS : stA P f t' k D B g = (0, nxA P f t' k (evA P k D B).2, dS P k (evA P k D B).2 D, bS P k B, gS (P 1 k) (evA P k D B).2 g) := by unfold stA; rw [if_neg n400, if_neg (fun q => q ef)]
        rw [eS] at hQ
        have hQ' : ∀ N', FSt M N' z → N' 1 0 59 = 0 → RFr N' z (dS P k (evA P k D B).2 D) (bS P k B) → RG2 N' (gS (P 1 k) (evA P k D B).2 g) → Q (some (vI (wyA P k D B))) N' := fun N' a1 a2 a3 a4 => by
          have := hQ N' a1 ⟨a2, a3, a4⟩
          rw [if_pos (show ((0 : Int), nxA P f t' k (evA P k D B).2, dS P k (evA P k D B).2 D, bS P k B, gS (P 1 k) (evA P k D B).2 g).1 = 0 from rfl)] at this
          exact this
        have fM : ∀ (o i : Nat) (j : Int), ¬ (o = 1 ∧ (i = z ∨ i = 58 ∨ i = 62 ∨ i = 63 ∨ i = 64 ∨ (i = 0 ∧ (j = z ∨ j = 54 ∨ j = 55 ∨ j = 56 ∨ j = 59 ∨ j = 60)))) → N o i j = M o i j := fun o i j q => fr o i j (by omega)
        have pos : ¬ (P 1 k = 3 ∨ P 1 k = 4) → 0 < P 11 k := fun q => by
          rcases Int.lt_or_le 0 (P 11 k) with a | a
          · exact a
          · exact (q (h34 (by omega))).elim
        have w0 : ¬ (P 1 k = 5 ∨ P 1 k = 6) → wyA P k D B = 0 := fun q => by unfold wyA; rw [if_neg q]
        rw [b17]
        refine ⟨fun z0 => ?_, fun z0 => ?_, fun z0 N1 e1 => ?_, fun z0 => ?_, fun z0 => ?_⟩
        · obtain ⟨c1, c2, c3⟩ := e201 z0
          have v60 := hN60 ef (pos (by omega))
          rw [fr 1 1 (201 + t) (by omega), c1, v60]
          refine ⟨by omega, kX10_sets ⟨c2, c3⟩ ⟨rfl, ?_⟩⟩
          have ew : (if w = 0 then sl_wr (sl_wr N 1 51 (P 6 k) (evA P k D B).2) 1 0 51 (ior (N 1 0 51) (ishl 1 (P 6 k))) else sl_wr (sl_wr N 1 53 (P 6 k) (evA P k D B).2) 1 0 53 (ior (N 1 0 53) (ishl 1 (P 6 k)))) = sl_wr (sl_wr N 1 z (P 6 k) (evA P k D B).2) 1 0 (z : Int) (ior (N 1 0 (z : Int)) (ishl 1 (P 6 k))) := by
            rcases hz with ⟨q1, q2⟩ | ⟨q1, q2⟩
            · rw [if_pos q1, q2]; rfl
            · rw [if_neg (by omega), q2]; rfl
          rw [ew]
          have fg : ∀ (o i : Nat) (j : Int), ¬ (o = 1 ∧ (i = z ∨ (i = 0 ∧ j = z))) → (sl_wr (sl_wr N 1 z (P 6 k) (evA P k D B).2) 1 0 (z : Int) (ior (N 1 0 (z : Int)) (ishl 1 (P 6 k)))) o i j = N o i j := fun o i j q => by simp only [sl_wr]; rw [if_neg (by omega), if_neg (by omega)]
          rw [← w0 (by omega)]
          refine hQ' _ (fun o i j q => by rw [fg o i j (by omega)]; exact fM o i j q) (by rw [fg 1 0 59 (by omega)]; exact ez) ?_ ?_
          · unfold dS bS; rw [if_pos z0, if_pos z0]; exact cf.give (by omega) ⟨c2, c3⟩
          · unfold gS; rw [if_neg (by omega), if_neg (by omega), if_neg (by omega)]
            exact ⟨by rw [fg 1 0 54 (by omega)]; exact a54, by rw [fg 1 0 55 (by omega)]; exact a55, by rw [fg 1 0 56 (by omega)]; exact a56, fun q q0 q1 => by rw [fg 1 58 q (by omega)]; exact ap q q0 q1⟩
        · have v60 := hN60 ef (pos (by omega))
          rw [a56, v60]
          refine ⟨by omega, fun N1 e1 => ?_⟩
          have b56 : N1 1 0 56 = g.2.2.1 := by rw [e1]; simp only [sl_wr]; rw [if_neg (by omega), a56]
          rw [b56]
          refine ⟨by omega, fun N2 e2 => ?_⟩
          have fg : ∀ o i j, ¬ (o = 1 ∧ (i = 58 ∨ (i = 0 ∧ j = 56))) → N2 o i j = N o i j := fun o i j q => by rw [e2, e1]; simp only [sl_wr]; rw [if_neg (by omega), if_neg (by omega)]
          rw [← w0 (by omega)]
          refine hQ' _ (fun o i j q => by rw [fg o i j (by omega)]; exact fM o i j q) (by rw [fg 1 0 59 (by omega)]; exact ez) ?_ ?_
          · unfold dS bS; rw [if_neg (by omega), if_neg (by omega)]
            exact ⟨by rw [fg 1 0 z (by omega)]; exact cf.1, fun v v0 v1 hb => by rw [fg 1 z v (by omega)]; exact cf.2 v v0 v1 hb⟩
          · unfold gS; rw [if_neg (by omega), if_pos z0, if_pos z0]
            refine ⟨by rw [fg 1 0 54 (by omega)]; exact a54, by rw [fg 1 0 55 (by omega)]; exact a55, by rw [e2]; exact sl_wr_s, fun q q0 q1 => ?_⟩
            show N2 1 58 q = (if q = g.2.2.1 then (evA P k D B).2 else g.2.2.2 q)
            rw [e2, e1]; simp only [sl_wr]; rw [if_neg (by omega)]
            by_cases eq : q = g.2.2.1
            · rw [if_pos ⟨trivial, trivial, by omega⟩, if_pos eq]
            · rw [if_neg (by omega), if_neg eq]
              have q1' : q < g.2.2.1 + 1 := q1
              exact ap q q0 (by omega)
        · have v60 := hN60 ef (pos (by omega))
          rw [v60] at e1
          have fg : ∀ o i j, ¬ (o = 1 ∧ i = 0 ∧ j = 54) → N1 o i j = N o i j := fun o i j q => by rw [e1]; simp only [sl_wr]; rw [if_neg q]
          rw [← w0 (by omega)]
          refine hQ' _ (fun o i j q => by rw [fg o i j (by omega)]; exact fM o i j q) (by rw [fg 1 0 59 (by omega)]; exact ez) ?_ ?_
          · unfold dS bS; rw [if_neg (by omega), if_neg (by omega)]
            exact ⟨by rw [fg 1 0 z (by omega)]; exact cf.1, fun v v0 v1 hb => by rw [fg 1 z v (by omega)]; exact cf.2 v v0 v1 hb⟩
          · unfold gS; rw [if_pos z0, if_neg (by omega), if_neg (by omega)]
            exact ⟨by rw [e1]; exact sl_wr_s, by rw [fg 1 0 55 (by omega)]; exact a55, by rw [fg 1 0 56 (by omega)]; exact a56, fun q q0 q1 => by rw [fg 1 58 q (by omega)]; exact ap q q0 q1⟩
        · have v60 := hN60 ef (pos (by omega))
          rw [v60]
          have : wyA P k D B = (if (evA P k D B).2 = 0 then 1 else 0) := by unfold wyA; rw [if_pos z0]
          rw [← this]
          refine hQ' N fM ez ?_ ?_
          · unfold dS bS; rw [if_neg (by omega), if_neg (by omega)]; exact cf
          · unfold gS; rw [if_neg (by omega), if_neg (by omega), if_neg (by omega)]; exact ⟨a54, a55, a56, ap⟩
        · rw [← w0 (by omega)]
          refine hQ' N fM ez ?_ ?_
          · unfold dS bS; rw [if_neg (by omega), if_neg (by omega)]; exact cf
          · unfold gS; rw [if_neg (by omega), if_neg (by omega), if_neg (by omega)]; exact ⟨a54, a55, a56, ap⟩
      · have ef : (evA P k D B).1 ≠ 0 := by rw [← hN59]; exact ez
        have eS : stA P f t' k D B g = ((evA P k D B).1, -1, D, B, (g.1, g.2.1 + 1, g.2.2)) := by unfold stA; rw [if_neg n400, if_pos ef]
        rw [eS] at hQ
        have := hQ N (fun o i j q => fr o i j (by omega)) ⟨hN59, cf, a54, a55, a56, ap⟩
        rw [if_neg (show ¬ (((evA P k D B).1, (-1 : Int), D, B, ((g.1, g.2.1 + 1, g.2.2) : Gs)).1 = 0) from ef)] at this
        exact this
    refine ⟨hb, by omega, fun zl => ?_, fun zl => ?_⟩
    · have z11 : P 11 k = 0 := by omega
      have e0 : evA P k D B = (0, 0) := by unfold evA; rw [z11]; rfl
      exact go M4 (fun _ _ _ _ => rfl) (by rw [e0]; exact h59) (fun _ q => by omega)
    · have hx : WX (Sy P k) (P 11 k) := by
        rcases hE.1 with a | a
        · omega
        · exact a
      have eD : ev (Sy T t) (if w = 0 then M4 1 51 else M4 1 53) (if w = 0 then M4 1 0 51 else M4 1 0 53) (T 11 t).toNat 0 [] 0 = evA P k D B := by
        rw [e11, ev_S (S' := Sy P k) _ _ _ _ (fun q q0 q1 => e12 q q0 (by omega))]
        have eB : (if w = 0 then M4 1 0 51 else M4 1 0 53) = B := by
          rcases hz with ⟨q1, q2⟩ | ⟨q1, q2⟩
          · rw [if_pos q1, f4 1 0 51 (by omega), ← hF.1, q2]; rfl
          · rw [if_neg (by omega), f4 1 0 53 (by omega), ← hF.1, q2]; rfl
        rw [eB]
        refine evA_cong hE h11.1 (fun v v0 v1 hb => ?_)
        rw [← hF.2 v v0 v1 hb]
        rcases hz with ⟨q1, q2⟩ | ⟨q1, q2⟩
        · rw [if_pos q1, f4 1 51 v (by omega), q2]
        · rw [if_neg (by omega), f4 1 53 v (by omega), q2]
      refine kX10_works (P := T) (by rw [r4]; exact hP) hw (by rw [r4]; exact hS) ht (by rw [e11]; exact WX_cong (fun q q0 q1 => (e12 q q0 (by omega)).symm) hx) (fun i j0 j1 => ?_) (by omega) rfl rfl (fun N fN a59 a60 => ⟨rfl, ?_⟩)
      · have := e12 i j0 (by omega)
        show sp_op (Sy T t i) ∨ (48 ≤ Sy T t i ∧ Sy T t i ≤ 57) ∨ (97 ≤ Sy T t i ∧ Sy T t i ≤ 104)
        rw [this]; exact hE.2 i j0 (by omega)
      · rw [eD] at a59 a60
        exact go N fN a59 (fun q _ => a60 q)
  · have n400 : g.2.1 = 400 := by omega
    have eS : stA P f t' k D B g = (4, -1, D, B, g) := by unfold stA; rw [if_pos n400]
    rw [eS] at hQ
    have fg : ∀ o i j, ¬ (o = 1 ∧ i = 0 ∧ j = 59) → N o i j = M o i j := fun o i j q => by rw [e]; simp only [sl_wr]; rw [if_neg q]
    have := hQ N (fun o i j q => fg o i j (by omega)) ⟨by rw [e]; exact sl_wr_s, ⟨by rw [fg 1 0 z (by omega)]; exact hF.1, fun v v0 v1 hb => by rw [fg 1 z v (by omega)]; exact hF.2 v v0 v1 hb⟩, by rw [fg 1 0 54 (by omega)]; exact g1, by rw [fg 1 0 55 (by omega)]; exact g2, by rw [fg 1 0 56 (by omega)]; exact g3, fun q q0 q1 => by rw [fg 1 58 q (by omega)]; exact g4 q q0 q1⟩
    rw [if_neg (show ¬ (((4 : Int), (-1 : Int), D, B, g).1 = 0) by show ¬ ((4 : Int) = 0); omega)] at this
    exact this
end K
