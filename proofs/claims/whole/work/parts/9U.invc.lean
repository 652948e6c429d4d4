/-! Behind a call, too, all is set that is needed -/
section V
variable {R rho : Int → Int}
/-- the exit of a call is one of its exits -/
theorem call_path (hG : Good R rho) {c : Int} (hc : 0 ≤ c ∧ c < R 789) {D : Int → Int} {g : Gs} (h0 : (wkC R rho c D g).1 = 0) : ∃ e, e4 e ∧ (wkC R rho c D g).2.1 = -e ∧ xE (tp (cutR R)) (ca R c) (tp (cutR R) 3 (cz R c) - 1) e ∧ iand (R (768 + cm R c)) e ≠ 0 ∧ ∀ v : Nat, v < 8 → bt (wkC R rho c D g).2.2.2.1 v = true ∨ mU (tp (cutR R)) (mf0 R (cm R c)) (tp (cutR R) 3 (ml0 R (cm R c)) - 1) e v := by
  have hcg := hG.2.2.2.2.1 c hc.1 hc.2
  have hm := hcg.2.1
  have hM := hG.2.2.1 _ hm.1 hm.2
  have hw := hG.1.1
  obtain ⟨s0, s1, s2, s3, s4⟩ := hM.1
  have aj := hw.af (k := ml0 R (cm R c)) (by omega) s2
  obtain ⟨e, e1, e2, e3, e4'⟩ := wk_path hG hM.1 (401 - g.2.1).toNat (mf0 R (cm R c)) (fun v => D (rn (rho c) v)) (iM R (cm R c)) g (Int.le_refl _) (by omega) Rw.at0 (fun v _ => Or.inr Rw.at0) h0
  obtain ⟨t1, t2, t3⟩ := hG.tw hc
  have eN := hcg.2.2.1
  have hx : xE (tp (cutR R)) (ca R c) (tp (cutR R) 3 (cz R c) - 1) e := by
    have := iso_xE (ES := fun _ _ => True) t1 (hG.rgc hc) t2 trivial (fun x x0 x1 => ⟨(t3 x x0 x1).1, fun _ _ _ => trivial⟩) e1 (by rw [show mf0 R (cm R c) + (tp (cutR R) 3 (cz R c) - ca R c) - 1 = tp (cutR R) 3 (ml0 R (cm R c)) - 1 by omega]; exact e3)
    rw [show ca R c + (tp (cutR R) 3 (cz R c) - ca R c) - 1 = tp (cutR R) 3 (cz R c) - 1 by omega] at this
    exact this
  exact ⟨e, e1, e2, hx, (call_xE hG hc e1).mp hx, e4'⟩
theorem LOt_oc {m v : Int} (h : v ∈ LOt R m) : v ∈ ocf (tp (cutR R)) (mf0 R m) (ml0 R m) := ((od_mem _ _ _).mp h).elim (fun z => by simp at z) And.left
theorem out_R (hG : Good R rho) {c : Int} (hc : 0 ≤ c ∧ c < R 789) {D Di : Int → Int} {B Bi : Int} (hB : m8 B) : OutR (rho c) Di Bi D B (fun u => u ∈ LOt R (cm R c)) (outL (rho c) Di Bi (LOt R (cm R c)) D B).1 (outL (rho c) Di Bi (LOt R (cm R c)) D B).2 := by
  have hcg := hG.2.2.2.2.1 c hc.1 hc.2
  have := outL_R (D := D) (B := B) (Di := Di) (Bi := Bi) (r := rho c) (LOt R (cm R c)) (fun _ => False) D B (OutR.no hB) (fun a b ha hb => hcg.2.2.2.2.1 a b (LOt_oc (ha.elim (fun z => z.elim) id)) (LOt_oc (hb.elim (fun z => z.elim) id)))
  have e : (fun a => False ∨ a ∈ LOt R (cm R c)) = (fun u => u ∈ LOt R (cm R c)) := by funext u; simp
  rw [e] at this; exact this
theorem Inv.call (hG : Good R rho) {k B : Int} (k0 : 0 ≤ k) (k1 : k < ly R rho 0 0) (h7 : ly R rho 1 k = 7) (hB : m8 B) (hI : Inv R k B) {D : Int → Int} {g : Gs} (h0 : (wkC R rho (clR R (tk R k)) D g).1 = 0) (hx : 0 ≤ tg (ly R rho) 0 (ly R rho 0 0 - 1) k (-(wkC R rho (clR R (tk R k)) D g).2.1)) : Inv R (tg (ly R rho) 0 (ly R rho 0 0 - 1) k (-(wkC R rho (clR R (tk R k)) D g).2.1)) (clA R rho (clR R (tk R k)) D B g).2.2.2.1 := by
  obtain ⟨ne, hc, ea, es, -⟩ := hG.cnode k0 k1 h7
  have tc := tl_call hG k0 k1 ne
  obtain ⟨e, e1, e2, e3, e5, e6⟩ := call_path hG hc h0
  rw [e2, Int.neg_neg] at hx ⊢
  rw [clA_ok h0]
  show Inv R _ (outL _ _ _ _ D B).2
  generalize hce : clR R (tk R k) = c at *
  have hcg := hG.2.2.2.2.1 c hc.1 hc.2
  have ok := hcg.2.2.2.2.2.2.2.2.2.2
  have oR := out_R (D := D) (Di := (wkC R rho c D g).2.2.1) (Bi := (wkC R rho c D g).2.2.2.1) hG hc hB
  have hm := hcg.2.1
  have hM := hG.2.2.1 _ hm.1 hm.2
  have hw := hG.1.1
  have e00 : tp (cutR R) 0 0 = cutR R 0 := rfl
  have lt := lr_tg hG tc e1
  have ey : tg (tp (cutR R)) 0 (cutR R 0 - 1) (cz R c) e = tk R (tg (ly R rho) 0 (ly R rho 0 0 - 1) k e) ∧ 0 ≤ tg (tp (cutR R)) 0 (cutR R 0 - 1) (cz R c) e := by
    rcases lt with ⟨a, b⟩ | ⟨a, b, d⟩
    · omega
    · exact ⟨d, by rw [d]; exact (hG.at (rho := rho) a (by omega)).1⟩
  intro v hv hL hN
  rw [← ey.1] at hL hN
  refine Classical.byContradiction fun nb => ?_
  have nb2 : ¬ (bt B v = true ∨ ∃ u, u ∈ LOt R (cm R c) ∧ bt (wkC R rho c D g).2.2.2.1 u.toNat = true ∧ rn (rho c) u = (v : Int)) := fun q => nb ((oR.2.1 v hv).mpr q)
  have mu : mU (tp (cutR R)) (ca R c) (tp (cutR R) 3 (cz R c) - 1) e v := by
    by_cases st : ∃ q, ca R c ≤ q ∧ q < tp (cutR R) 3 (cz R c) ∧ bt (tp (cutR R) 22 q) v = true
    · have mem := ok.2.1 v hv st ⟨e, e1, e3, ey.2, hL⟩
      obtain ⟨u, u1, u2⟩ := List.mem_map.mp mem
      have u8 := hM.lo8 hG.1 u u1
      have mm := call_mU2 hG hc e1 (LOt_oc u1) ((e6 u.toNat (by omega)).elim (fun z => (nb2 (Or.inr ⟨u, u1, z, u2⟩)).elim) id)
      rw [u2] at mm
      exact mm
    · refine xE_mU (fun q y S q0 q1 hE => ?_) e3
      cases z : bt S v with
      | false => rfl
      | true =>
        exfalso
        have z0 : ∀ w : Nat, bt 0 w = false := fun w => bt_0 w
        rcases hE with ⟨-, hS, -⟩ | ⟨-, -, e', he', -, -, hS⟩
        · rw [hS, z0] at z; cases z
        · rw [hS, TG.t21 (by omega)] at z
          exact st ⟨q, q0, by omega, z⟩
  have es' : isp (tp (cutR R)) (ca R c) (cz R c) := hcg.1
  obtain ⟨b1, b2⟩ := mU_back hG es' e1 mu ey.2
  rw [ea] at b1 b2
  exact nb2 (Or.inl (hI v hv (b1 hL) (fun q => hN (b2 q))))
end V
