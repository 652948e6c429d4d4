/-! A run, abstractly -/
/-- the value returned, the steps, the number of prints, the prints -/
abbrev Gs : Type := Int × Int × Int × (Int → Int)
/-- failure (0 none), where it goes on, values, mask of those set, the rest -/
abbrev Rs : Type := Int × Int × (Int → Int) × Int × Gs
abbrev evA (P : Pg) (k : Int) (D : Int → Int) (B : Int) : Int × Int := ev (Sy P k) D B (P 11 k).toNat 0 [] 0
def eK (x : Int) : Int := if x = 2 then 8 else if x = 3 then 2 else if x = 4 then 4 else 1
def nxA (P : Pg) (f t k v : Int) : Int := if P 1 k = 5 ∨ P 1 k = 6 then en P f t k (if v = 0 then 1 else 0) else tg P f t k (eK (P 1 k))
def gS (x v : Int) (g : Gs) : Gs := (if x = 2 then v else g.1, g.2.1 + 1, if x = 1 then g.2.2.1 + 1 else g.2.2.1, if x = 1 then (fun q => if q = g.2.2.1 then v else g.2.2.2 q) else g.2.2.2)
def dS (P : Pg) (k v : Int) (D : Int → Int) : Int → Int := if P 1 k = 0 then (fun q => if q = P 6 k then v else D q) else D
def bS (P : Pg) (k B : Int) : Int := if P 1 k = 0 then ior B (ishl 1 (P 6 k)) else B
/-- a statement is done -/
def stA (P : Pg) (f t k : Int) (D : Int → Int) (B : Int) (g : Gs) : Rs := if g.2.1 = 400 then (4, -1, D, B, g) else if (evA P k D B).1 ≠ 0 then ((evA P k D B).1, -1, D, B, (g.1, g.2.1 + 1, g.2.2)) else (0, nxA P f t k (evA P k D B).2, dS P k (evA P k D B).2 D, bS P k B, gS (P 1 k) (evA P k D B).2 g)
/-- statements are done until it ends -/
def wkA (P : Pg) (f t : Int) : Nat → Int → (Int → Int) → Int → Gs → Rs
  | 0, _, D, B, g => (4, -1, D, B, g)
  | n + 1, k, D, B, g => if (stA P f t k D B g).1 ≠ 0 ∨ (stA P f t k D B g).2.1 < 0 then stA P f t k D B g else wkA P f t n (stA P f t k D B g).2.1 (stA P f t k D B g).2.2.1 (stA P f t k D B g).2.2.2.1 (stA P f t k D B g).2.2.2.2
/-- the numbers of a run are in their bounds -/
def gI (g : Gs) : Prop := 0 ≤ g.2.2.1 ∧ g.2.2.1 ≤ g.2.1 ∧ g.2.1 ≤ 400
/-- the class holds them -/
def CG (M : sl_M) (g : Gs) : Prop := M 3 0 2 = g.1 ∧ M 3 0 3 = g.2.1 ∧ M 3 0 5 = g.2.2.1 ∧ ∀ q, 0 ≤ q → q < g.2.2.1 → M 3 5 q = g.2.2.2 q
def CFr (M : sl_M) (o : Nat) (D : Int → Int) (B : Int) : Prop := M o 0 1 = B ∧ ∀ v, 0 ≤ v → v < 8 → bt B v.toNat = true → M o 1 v = D v
def CRs (M : sl_M) (o : Nat) (r : Rs) : Prop := M 3 0 6 = (if r.1 = 0 then 0 else r.1 - 1) ∧ CFr M o r.2.2.1 r.2.2.2.1 ∧ CG M r.2.2.2.2
theorem gI.stp {P : Pg} {f t k : Int} {D : Int → Int} {B : Int} {g : Gs} (h : gI g) : gI (stA P f t k D B g).2.2.2.2 ∧ ((stA P f t k D B g).1 = 0 → (stA P f t k D B g).2.2.2.2.2.1 = g.2.1 + 1) := by
  obtain ⟨h1, h2, h3⟩ := h
  unfold stA
  by_cases c : g.2.1 = 400
  · rw [if_pos c]; exact ⟨⟨h1, h2, h3⟩, fun z => by revert z; simp⟩
  · rw [if_neg c]
    by_cases c2 : (evA P k D B).1 ≠ 0
    · rw [if_pos c2]; exact ⟨⟨h1, by show g.2.2.1 ≤ g.2.1 + 1; omega, by show g.2.1 + 1 ≤ 400; omega⟩, fun _ => rfl⟩
    · rw [if_neg c2]
      refine ⟨?_, fun _ => rfl⟩
      unfold gI gS
      show 0 ≤ (if P 1 k = 1 then g.2.2.1 + 1 else g.2.2.1) ∧ (if P 1 k = 1 then g.2.2.1 + 1 else g.2.2.1) ≤ g.2.1 + 1 ∧ g.2.1 + 1 ≤ 400
      split <;> omega
theorem ev_cong {S D D' : Int → Int} {B : Int} (hD : ∀ v, 0 ≤ v → v < 8 → bt B v.toNat = true → D v = D' v) : ∀ (n : Nat) (i : Int) (w : List (Int × Option Int)) (x : Int), (∀ q, i ≤ q → q < i + n → sp_op (S q) ∨ (48 ≤ S q ∧ S q ≤ 57) ∨ (97 ≤ S q ∧ S q ≤ 104)) → ev S D B n i w x = ev S D' B n i w x := by
  intro n
  induction n with
  | zero => intro i w x _; rfl
  | succ n ih =>
    intro i w x hq
    unfold ev
    have hi := hq i (by omega) (by omega)
    have hr : ∀ q, i + 1 ≤ q → q < i + 1 + n → sp_op (S q) ∨ (48 ≤ S q ∧ S q ≤ 57) ∨ (97 ≤ S q ∧ S q ≤ 104) := fun q q0 q1 => hq q (by omega) (by omega)
    by_cases c : sp_op (S i)
    · rw [if_pos c, if_pos c]; exact ih _ _ _ hr
    · rw [if_neg c, if_neg c]
      by_cases c2 : ¬ (48 ≤ S i ∧ S i ≤ 57) ∧ bt B (S i - 97).toNat = false
      · rw [if_pos c2, if_pos c2]
      · rw [if_neg c2, if_neg c2]
        have e : (if 48 ≤ S i ∧ S i ≤ 57 then S i - 48 else D (S i - 97)) = (if 48 ≤ S i ∧ S i ≤ 57 then S i - 48 else D' (S i - 97)) := by
          by_cases c3 : 48 ≤ S i ∧ S i ≤ 57
          · rw [if_pos c3, if_pos c3]
          · rw [if_neg c3, if_neg c3]
            have hv : 97 ≤ S i ∧ S i ≤ 104 := by
              rcases hi with a | a | a
              · exact (c a).elim
              · exact (c3 a).elim
              · exact a
            refine hD _ (by omega) (by omega) ?_
            cases hb : bt B (S i - 97).toNat with
            | true => rfl
            | false => exact (c2 ⟨c3, hb⟩).elim
        rw [e]
        cases psh w (if 48 ≤ S i ∧ S i ≤ 57 then S i - 48 else D' (S i - 97)) with
        | none => rfl
        | some y => exact ih _ _ _ hr
theorem evA_cong {P : Pg} {k : Int} {D D' : Int → Int} {B : Int} (hE : EV P k) (h0 : 0 ≤ P 11 k) (hD : ∀ v, 0 ≤ v → v < 8 → bt B v.toNat = true → D v = D' v) : evA P k D B = evA P k D' B := ev_cong hD _ _ _ _ (fun q q0 q1 => hE.2 q q0 (by omega))
theorem ev_fail {S D : Int → Int} {B : Int} : ∀ (n : Nat) (i : Int) (w : List (Int × Option Int)) (x : Int), (ev S D B n i w x).1 ≠ 0 → (ev S D B n i w x).1 = 2 ∨ (ev S D B n i w x).1 = 3 := by
  intro n
  induction n with
  | zero => intro i w x h; exact (h rfl).elim
  | succ n ih =>
    intro i w x
    unfold ev
    by_cases c : sp_op (S i)
    · rw [if_pos c]; exact ih _ _ _
    · rw [if_neg c]
      by_cases c2 : ¬ (48 ≤ S i ∧ S i ≤ 57) ∧ bt B (S i - 97).toNat = false
      · rw [if_pos c2]; exact fun _ => Or.inr rfl
      · rw [if_neg c2]
        cases psh w (if 48 ≤ S i ∧ S i ≤ 57 then S i - 48 else D (S i - 97)) with
        | none => exact fun _ => Or.inl rfl
        | some y => exact ih _ _ _
section K
variable {l : Launch} {M : sl_M} {Q : sl_R} {P : Pg} {c o : Nat}
theorem kX2_give (ho : sl_cls o = 2) {v x : Int} (hv : 0 ≤ v ∧ v < 8) (hQ : Q none (sl_wr (sl_wr M o 1 v x) o 0 1 (ior (M o 0 1) (ishl 1 v)))) : sl_Runs l mX2_give [vR o 0, vI v, vI x] M Q := by
  refine eX2_give (vX2_give_0 ho fun _ _ _ => ⟨hv, fun M2 e2 M3 e3 => ?_⟩)
  have : M2 o 0 1 = M o 0 1 := by rw [e2]; simp only [sl_wr]; rw [if_neg (by omega)]
  rw [e3, this, e2]; exact hQ
theorem CFr.give {D : Int → Int} {B v x : Int} (h : CFr M o D B) (hv : 0 ≤ v ∧ v < 8) : CFr (sl_wr (sl_wr M o 1 v x) o 0 1 (ior (M o 0 1) (ishl 1 v))) o (fun q => if q = v then x else D q) (ior B (ishl 1 v)) := by
  obtain ⟨h1, h2⟩ := h
  refine ⟨by rw [sl_wr_s, h1], fun w w0 w1 hb => ?_⟩
  simp only [sl_wr]
  rw [if_neg (by omega)]
  by_cases e : w = v
  · rw [if_pos (by simp [e]), if_pos e]
  · rw [if_neg (by simp [e]), if_neg e]
    refine h2 w w0 w1 ?_
    rw [bt_ior, bt_shl hv, show ((w.toNat : Nat) : Int) = w by omega, decide_eq_false e, Bool.or_false] at hb
    exact hb
theorem kX3_step (hc : sl_cls c = 0) (ho : o = 4 ∨ o = 5) (hw : WF P) (hC : Cd M c P) (hS : CdS M c P) {k : Int} (hk : 0 ≤ k ∧ k < P 0 0) (h7 : P 1 k ≠ 7) (hE : EV P k) {D : Int → Int} {B : Int} {g : Gs} (hg : gI g) (h0 : M 3 0 6 = 0) (hF : CFr M o D B) (hG : CG M g)
    (hQ : ∀ N, (∀ a b d, a ≠ 3 → a ≠ o → N a b d = M a b d) → CRs N o (stA P 0 (P 0 0 - 1) k D B g) → Q (some (vI (stA P 0 (P 0 0 - 1) k D B g).2.1)) N) : sl_Runs l mX3_step [vR 3 0, vR c 0, vI k, vR o 0] M Q := by
  have ho2 : sl_cls o = 2 := by rcases ho with e | e <;> subst e <;> decide +kernel
  have hn := hw.n0
  have co : c ≠ o := fun z => by rw [z, ho2] at hc; omega
  have c3 : c ≠ 3 := fun z => by rw [z] at hc; revert hc; decide +kernel
  obtain ⟨g1, g2, g3, g4⟩ := hG
  obtain ⟨i1, i2, i3⟩ := hg
  refine eX3_step (vX3_step_0 hc ho2 fun _ _ => ⟨by rw [hC.1]; omega, fun y2 ey => ⟨fun z => ⟨by omega, fun M5 e5 => ?_⟩, fun z N e => ?_⟩⟩)
  · have f5 : ∀ a b d, ¬ (a = 3 ∧ b = 0 ∧ d = 3) → M5 a b d = M a b d := fun a b d q => by rw [e5]; simp only [sl_wr]; rw [if_neg q]
    have hS5 : CdS M5 c P := hS.frame (fun i j => f5 _ _ _ (by omega))
    have hC5 : Cd M5 c P := by
      have : ∀ i j, M5 c i j = M c i j := fun i j => f5 _ _ _ (by omega)
      unfold Cd; simp only [this]; exact hC
    have eD : ev (Sy P k) (M5 o 1) (M5 o 0 1) (P 11 k).toNat 0 [] 0 = evA P k D B := by
      rw [f5 o 0 1 (by omega), hF.1]
      refine evA_cong hE (hS k hk.1 hk.2).2.1.1 (fun v v0 v1 hb => ?_)
      rw [f5 o 1 v (by omega)]; exact hF.2 v v0 v1 hb
    refine kX3_evaluate hc ho2 hw hS5 hk hE.2 (by rw [f5 3 0 6 (by omega)]; exact h0) (fun N6 v f6 hz hnz => ⟨_, rfl, ?_⟩)
    rw [eD] at hz hnz
    have n400 : g.2.1 ≠ 400 := by omega
    have fr6 : ∀ a b d, a ≠ 3 → a ≠ o → N6 a b d = M a b d := fun a b d h3 h4 => by rw [f6 a b d (by omega), f5 a b d (by omega)]
    have cf6 : CFr N6 o D B := ⟨by rw [f6 o 0 1 (by omega), f5 o 0 1 (by omega)]; exact hF.1, fun w w0 w1 hb => by rw [f6 o 1 w (by omega), f5 o 1 w (by omega)]; exact hF.2 w w0 w1 hb⟩
    have a2 : N6 3 0 2 = g.1 := by rw [f6 3 0 2 (by omega), f5 3 0 2 (by omega)]; exact g1
    have a3 : N6 3 0 3 = g.2.1 + 1 := by rw [f6 3 0 3 (by omega), e5, sl_wr_s, g2]
    have a5 : N6 3 0 5 = g.2.2.1 := by rw [f6 3 0 5 (by omega), f5 3 0 5 (by omega)]; exact g3
    have ap : ∀ q, 0 ≤ q → q < g.2.2.1 → N6 3 5 q = g.2.2.2 q := fun q q0 q1 => by rw [f6 3 5 q (by omega), f5 3 5 q (by omega)]; exact g4 q q0 q1
    have C6 : Cd N6 c P := by
      have : ∀ i j, N6 c i j = M c i j := fun i j => fr6 _ _ _ (by omega) co
      unfold Cd; simp only [this]; exact hC
    have k1 : N6 c 1 k = P 1 k := (C6.2 k hk.1 hk.2).1
    have k6 : P 1 k = 0 → N6 c 6 k = P 6 k ∧ 0 ≤ P 6 k ∧ P 6 k < 8 := fun z0 => by
      have := (hS k hk.1 hk.2).2.2.2.2.1 z0
      rw [fr6 c 6 k (by omega) co]; exact this
    have yl : y2 = P 0 0 - 1 := by rw [ey, hC.1]
    show (N6 3 0 6 = 0 → _) ∧ (¬ (N6 3 0 6 = 0) → _)
    by_cases ef : (evA P k D B).1 = 0
    · obtain ⟨z6, zv⟩ := hz ef
      have eS : stA P 0 (P 0 0 - 1) k D B g = (0, nxA P 0 (P 0 0 - 1) k (evA P k D B).2, dS P k (evA P k D B).2 D, bS P k B, gS (P 1 k) (evA P k D B).2 g) := by unfold stA; rw [if_neg n400, if_neg (fun q => q ef)]
      rw [eS, ← zv] at hQ
      have tgb : ∀ x, bh P 0 (P 0 0 - 1) 40 x = tg P 0 (P 0 0 - 1) x 1 := fun x => by unfold tg; rw [if_pos rfl]
      refine ⟨fun _ => ⟨⟨hk.1, by omega⟩, ?_⟩, fun q => (q z6).elim⟩
      rw [k1, yl]
      refine ⟨fun z0 => ?_, fun z0 => ?_, fun z0 N e => ?_, fun z0 => ?_, fun z0 => ?_, fun z0 => ?_⟩
      · obtain ⟨w1, w2, w3⟩ := k6 z0
        rw [w1]
        refine kX2_give ho2 ⟨w2, w3⟩ ⟨rfl, ?_⟩
        have fg : ∀ a b d, a ≠ o → (sl_wr (sl_wr N6 o 1 (P 6 k) v) o 0 1 (ior (N6 o 0 1) (ishl 1 (P 6 k)))) a b d = N6 a b d := fun a b d h4 => by simp only [sl_wr]; rw [if_neg (by omega), if_neg (by omega)]
        have C7 : Cd (sl_wr (sl_wr N6 o 1 (P 6 k) v) o 0 1 (ior (N6 o 0 1) (ishl 1 (P 6 k)))) c P := by
          have : ∀ i j, (sl_wr (sl_wr N6 o 1 (P 6 k) v) o 0 1 (ior (N6 o 0 1) (ishl 1 (P 6 k)))) c i j = N6 c i j := fun i j => fg _ _ _ co
          unfold Cd; simp only [this]; exact C6
        refine kX0_behind hc hw C7 hk (by omega) (by omega) ⟨_, rfl, ?_⟩
        have en0 : nxA P 0 (P 0 0 - 1) k v = bh P 0 (P 0 0 - 1) 40 k := by unfold nxA eK; rw [if_neg (by omega), if_neg (by omega), if_neg (by omega), if_neg (by omega), tgb]
        rw [← en0]
        refine hQ _ (fun a b d h3 h4 => by rw [fg a b d h4]; exact fr6 a b d h3 h4) ⟨?_, ?_, ?_⟩
        · show _ = (if (0 : Int) = 0 then 0 else 0 - 1); rw [fg 3 0 6 (by omega), if_pos rfl, z6]
        · show CFr _ o (dS P k v D) (bS P k B)
          unfold dS bS; rw [if_pos z0, if_pos z0]; exact cf6.give ⟨w2, w3⟩
        · show CG _ (gS (P 1 k) v g)
          unfold gS; rw [if_neg (by omega), if_neg (by omega), if_neg (by omega)]
          refine ⟨by rw [fg 3 0 2 (by omega)]; exact a2, by rw [fg 3 0 3 (by omega)]; exact a3, by rw [fg 3 0 5 (by omega)]; exact a5, fun q q0 q1 => by rw [fg 3 5 q (by omega)]; exact ap q q0 q1⟩
      · have en0 : nxA P 0 (P 0 0 - 1) k v = bh P 0 (P 0 0 - 1) 40 k := by unfold nxA eK; rw [if_neg (by omega), if_neg (by omega), if_neg (by omega), if_neg (by omega), tgb]
        refine eX3_print (vX3_print_0 fun _ _ => ⟨fun q => by omega, fun q => ⟨by omega, fun N1 e1 => ?_⟩⟩)
        have b5 : N1 3 0 5 = g.2.2.1 := by rw [e1]; simp only [sl_wr]; rw [if_neg (by omega), a5]
        rw [b5]
        refine ⟨by omega, fun N2 e2 => ⟨rfl, ?_⟩⟩
        have fg : ∀ a b d, a ≠ 3 → N2 a b d = N6 a b d := fun a b d h4 => by rw [e2, e1]; simp only [sl_wr]; rw [if_neg (by omega), if_neg (by omega)]
        have fh : ∀ d, d ≠ 5 → N2 3 0 d = N6 3 0 d := fun d h4 => by rw [e2, e1]; simp only [sl_wr]; rw [if_neg (by omega), if_neg (by omega)]
        have C7 : Cd N2 c P := by
          have : ∀ i j, N2 c i j = N6 c i j := fun i j => fg _ _ _ c3
          unfold Cd; simp only [this]; exact C6
        refine kX0_behind hc hw C7 hk (by omega) (by omega) ⟨_, rfl, ?_⟩
        rw [← en0]
        refine hQ _ (fun a b d h3 h4 => by rw [fg a b d h3]; exact fr6 a b d h3 h4) ⟨?_, ?_, ?_⟩
        · show _ = (if (0 : Int) = 0 then 0 else 0 - 1); rw [fh 6 (by omega), if_pos rfl, z6]
        · show CFr _ o (dS P k v D) (bS P k B)
          unfold dS bS; rw [if_neg (by omega), if_neg (by omega)]
          exact ⟨by rw [fg o 0 1 (by omega)]; exact cf6.1, fun w w0 w1 hb => by rw [fg o 1 w (by omega)]; exact cf6.2 w w0 w1 hb⟩
        · show CG _ (gS (P 1 k) v g)
          unfold gS; rw [if_neg (by omega), if_pos z0, if_pos z0]
          refine ⟨by rw [fh 2 (by omega)]; exact a2, by rw [fh 3 (by omega)]; exact a3, by rw [e2]; exact sl_wr_s, fun q q0 q1 => ?_⟩
          show N2 3 5 q = (if q = g.2.2.1 then v else g.2.2.2 q)
          rw [e2, e1]; simp only [sl_wr]; rw [if_neg (by omega)]
          by_cases eq : q = g.2.2.1
          · rw [if_pos ⟨trivial, trivial, by omega⟩, if_pos eq]
          · rw [if_neg (by omega), if_neg eq]
            have q1' : q < g.2.2.1 + 1 := q1
            exact ap q q0 (by omega)
      · have en0 : nxA P 0 (P 0 0 - 1) k v = -8 := by unfold nxA eK; rw [if_neg (by omega), if_pos z0]; unfold tg; rw [if_neg (by omega), if_pos (Or.inl rfl)]
        rw [en0] at hQ
        have fg : ∀ a b d, ¬ (a = 3 ∧ b = 0 ∧ d = 2) → N a b d = N6 a b d := fun a b d h4 => by rw [e]; simp only [sl_wr]; rw [if_neg h4]
        refine hQ _ (fun a b d h3 h4 => by rw [fg a b d (by omega)]; exact fr6 a b d h3 h4) ⟨?_, ?_, ?_⟩
        · show _ = (if (0 : Int) = 0 then 0 else 0 - 1); rw [fg 3 0 6 (by omega), if_pos rfl, z6]
        · show CFr _ o (dS P k v D) (bS P k B)
          unfold dS bS; rw [if_neg (by omega), if_neg (by omega)]
          exact ⟨by rw [fg o 0 1 (by omega)]; exact cf6.1, fun w w0 w1 hb => by rw [fg o 1 w (by omega)]; exact cf6.2 w w0 w1 hb⟩
        · show CG _ (gS (P 1 k) v g)
          unfold gS; rw [if_pos z0, if_neg (by omega), if_neg (by omega)]
          refine ⟨by rw [e]; exact sl_wr_s, by rw [fg 3 0 3 (by omega)]; exact a3, by rw [fg 3 0 5 (by omega)]; exact a5, fun q q0 q1 => by rw [fg 3 5 q (by omega)]; exact ap q q0 q1⟩
      all_goals
        have same : P 1 k ≠ 0 → P 1 k ≠ 1 → P 1 k ≠ 2 → CRs N6 o (0, nxA P 0 (P 0 0 - 1) k v, dS P k v D, bS P k B, gS (P 1 k) v g) := fun n0 n1 n2 => by
          refine ⟨?_, ?_, ?_⟩
          · show _ = (if (0 : Int) = 0 then 0 else 0 - 1); rw [if_pos rfl, z6]
          · show CFr _ o (dS P k v D) (bS P k B)
            unfold dS bS; rw [if_neg n0, if_neg n0]; exact cf6
          · show CG _ (gS (P 1 k) v g)
            unfold gS; rw [if_neg n2, if_neg n1, if_neg n1]
            exact ⟨a2, a3, a5, ap⟩
      · refine kX0_target hc hw C6 hk (by omega) (by omega) (by omega) ⟨_, rfl, ?_⟩
        have en0 : nxA P 0 (P 0 0 - 1) k v = tg P 0 (P 0 0 - 1) k 2 := by unfold nxA eK; rw [if_neg (by omega), if_neg (by omega), if_pos z0]
        rw [← en0]; exact hQ N6 fr6 (same (by omega) (by omega) (by omega))
      · refine kX0_target hc hw C6 hk (by omega) (by omega) (by omega) ⟨_, rfl, ?_⟩
        have en0 : nxA P 0 (P 0 0 - 1) k v = tg P 0 (P 0 0 - 1) k 4 := by unfold nxA eK; rw [if_neg (by omega), if_neg (by omega), if_neg (by omega), if_pos z0]
        rw [← en0]; exact hQ N6 fr6 (same (by omega) (by omega) (by omega))
      · refine kX0_enter hc hw C6 hk (by omega) (by omega) ⟨_, rfl, ?_⟩
        have kd := hw.kd hk.1 hk.2
        have en0 : nxA P 0 (P 0 0 - 1) k v = en P 0 (P 0 0 - 1) k (if v = 0 then 1 else 0) := by unfold nxA; rw [if_pos (by omega)]
        rw [← en0]; exact hQ N6 fr6 (same (by omega) (by omega) (by omega))
    · have z6 := hnz ef
      have e12 : (evA P k D B).1 = 2 ∨ (evA P k D B).1 = 3 := ev_fail _ _ _ _ ef
      have eS : stA P 0 (P 0 0 - 1) k D B g = ((evA P k D B).1, -1, D, B, (g.1, g.2.1 + 1, g.2.2)) := by unfold stA; rw [if_neg n400, if_pos ef]
      rw [eS] at hQ
      refine ⟨fun q => by omega, fun _ => hQ N6 fr6 ⟨?_, cf6, a2, a3, a5, ap⟩⟩
      show N6 3 0 6 = (if (evA P k D B).1 = 0 then 0 else (evA P k D B).1 - 1)
      rw [if_neg ef, z6]
  · have n400 : g.2.1 = 400 := by omega
    have eS : stA P 0 (P 0 0 - 1) k D B g = (4, -1, D, B, g) := by unfold stA; rw [if_pos n400]
    rw [eS] at hQ
    have fg : ∀ a b d, ¬ (a = 3 ∧ b = 0 ∧ d = 6) → N a b d = M a b d := fun a b d h4 => by rw [e]; simp only [sl_wr]; rw [if_neg h4]
    refine hQ N (fun a b d h3 h4 => fg a b d (by omega)) ⟨?_, ⟨by rw [fg o 0 1 (by omega)]; exact hF.1, fun w w0 w1 hb => by rw [fg o 1 w (by omega)]; exact hF.2 w w0 w1 hb⟩, by rw [fg 3 0 2 (by omega)]; exact g1, by rw [fg 3 0 3 (by omega)]; exact g2, by rw [fg 3 0 5 (by omega)]; exact g3, fun q q0 q1 => by rw [fg 3 5 q (by omega)]; exact g4 q q0 q1⟩
    show N 3 0 6 = (if (4 : Int) = 0 then 0 else 4 - 1)
    rw [e, sl_wr_s]; rfl
end K
