/-! A method is settled: the rows before and behind it -/
/-- the number that a method had -/
def mo (m k : Int) : Int := if k < m then k else k + 1
/-- R2 is R without method m; sg c: the number that call c had -/
def Stl (R R2 : Int → Int) (m : Int) (sg : Int → Int) : Prop := (∀ j, 0 ≤ j → j ≤ 760 → R2 j = R j) ∧ R2 761 = R 761 - 1 ∧
  (∀ k, 0 ≤ k → k < R2 761 → R2 (762 + k) = R (762 + mo m k) ∧ R2 (765 + k) = R (765 + mo m k) ∧ R2 (768 + k) = R (768 + mo m k) ∧ R2 (771 + k) = R (771 + mo m k) ∧ R2 (774 + k) = R (774 + mo m k) ∧ ∀ x, 0 ≤ x → x < 4 → R2 (777 + 4 * k + x) = R (777 + 4 * mo m k + x)) ∧
  (0 ≤ R2 789 ∧ R2 789 ≤ 40) ∧ (∀ c, 0 ≤ c → c < R2 789 → (0 ≤ sg c ∧ sg c < R 789) ∧ R (870 + sg c) ≠ m ∧ R2 (790 + c) = R (790 + sg c) ∧ R2 (830 + c) = R (830 + sg c) ∧ R2 (910 + c) = R (910 + sg c) ∧ R2 (950 + c) = R (950 + sg c) ∧ R2 (870 + c) = (if R (870 + sg c) ≤ m then R (870 + sg c) else R (870 + sg c) - 1)) ∧
  (∀ c d, 0 ≤ c → c < d → d < R2 789 → sg c < sg d) ∧ (∀ d, 0 ≤ d → d < R 789 → R (870 + d) ≠ m → ∃ c, 0 ≤ c ∧ c < R2 789 ∧ sg c = d)
section S
variable {R R2 rho sg : Int → Int} {m : Int}
theorem Stl.cut (h : Stl R R2 m sg) : cutR R2 = cutR R := cutR_congr h.1
theorem Stl.meth (h : Stl R R2 m sg) {k : Int} (k0 : 0 ≤ k) (k1 : k < R2 761) : bod R2 k = bod R (mo m k) ∧ iM R2 k = iM R (mo m k) ∧ oM R2 k = oM R (mo m k) ∧ LIn R2 k = LIn R (mo m k) ∧ LOt R2 k = LOt R (mo m k) ∧ mf0 R2 k = mf0 R (mo m k) ∧ ml0 R2 k = ml0 R (mo m k) := by
  obtain ⟨a1, a2, a3, a4, a5, a6⟩ := h.2.2.1 k k0 k1
  unfold bod LIn LOt iM oM mf0 ml0
  rw [h.cut, a1, a2, a4, a5]
  exact ⟨rfl, rfl, rfl, rfl, rfl, rfl, rfl⟩
theorem Stl.good (h : Stl R R2 m sg) (hG : Good R rho) (hm : 0 ≤ m ∧ m < R 761) : Good R2 (fun c => rho (sg c)) := by
  have hc := h.cut
  obtain ⟨g1, g2, g3, g4, g5, g6⟩ := hG
  have h761 := h.2.1
  refine ⟨by rw [hc]; exact g1, by omega, fun k k0 k1 => ?_, h.2.2.2.1, fun c c0 c1 => ?_, fun c d c0 c1 d0 d1 hcd => ?_⟩
  · have mk : 0 ≤ mo m k ∧ mo m k < R 761 := by unfold mo; split <;> omega
    have := g3 (mo m k) mk.1 mk.2
    obtain ⟨a1, a2, a3, a4, a5, a6⟩ := h.2.2.1 k k0 k1
    obtain ⟨b1, b2, b3, b4, b5, b6, b7⟩ := h.meth k0 k1
    obtain ⟨q1, q2, q3, q4, q5⟩ := this
    unfold MGm
    rw [b4, b5, b6, b7, hc, a3, a4, a5]
    refine ⟨q1, q2, q3, q4, fun e he => ?_⟩
    rw [a6 _ sp_bd.1 sp_bd.2]; exact q5 e he
  · obtain ⟨s1, s2, s3, s4, s5, s6, s7⟩ := h.2.2.2.2.1 c c0 c1
    have G := g5 (sg c) s1.1 s1.2
    have om := G.2.1
    have ecm : cm R2 c = (if cm R (sg c) ≤ m then cm R (sg c) else cm R (sg c) - 1) := s7
    have n2 : cm R (sg c) ≠ m := s2
    have mk : 0 ≤ cm R2 c ∧ cm R2 c < R2 761 ∧ mo m (cm R2 c) = cm R (sg c) := by
      rw [ecm]; unfold mo
      by_cases z : cm R (sg c) ≤ m
      · rw [if_pos z, if_pos (by omega)]; omega
      · rw [if_neg z, if_neg (by omega)]; omega
    obtain ⟨a1, a2, a3, a4, a5, a6⟩ := h.2.2.1 (cm R2 c) mk.1 mk.2.1
    obtain ⟨b1, b2, b3, b4, b5, b6, b7⟩ := h.meth mk.1 mk.2.1
    rw [mk.2.2] at a3 b4 b5 b6 b7
    have ea : ca R2 c = ca R (sg c) := s3
    have ez : cz R2 c = cz R (sg c) := s4
    unfold CGc
    rw [b4, b5, b6, b7, hc, a3, s5, s6, ea, ez]
    obtain ⟨q1, q2, q3⟩ := G
    exact ⟨q1, ⟨mk.1, mk.2.1⟩, q3⟩
  · obtain ⟨s1, s2, s3, s4, s5, s6, s7⟩ := h.2.2.2.2.1 c c0 c1
    obtain ⟨t1, t2, t3, t4, t5, t6, t7⟩ := h.2.2.2.2.1 d d0 d1
    have ne : sg c ≠ sg d := by
      by_cases z : c < d
      · have := h.2.2.2.2.2.1 c d c0 z d1; omega
      · have := h.2.2.2.2.2.1 d c d0 (by omega) c1; omega
    have := g6 (sg c) (sg d) s1.1 s1.2 t1.1 t1.2 ne
    unfold cz ca at this ⊢
    rw [hc, s3, s4, t3, t4]; exact this
/-- the calls that stay -/
theorem Stl.cl (h : Stl R R2 m sg) (hG : Good R rho) {t : Int} : (clR R2 t ≠ -1 → sg (clR R2 t) = clR R t ∧ clR R t ≠ -1 ∧ cm R (clR R t) ≠ m ∧ (0 ≤ clR R2 t ∧ clR R2 t < R2 789) ∧ eR R2 t = eR R t) ∧ (clR R t ≠ -1 → cm R (clR R t) ≠ m → clR R2 t ≠ -1) := by
  constructor
  · intro z
    obtain ⟨c0, c1, c2⟩ := clR_spec z
    obtain ⟨s1, s2, s3, s4, s5, s6, s7⟩ := h.2.2.2.2.1 _ c0 c1
    have cn := hG.cn s1
    have ea : ca R (sg (clR R2 t)) = t := by
      have : R (790 + sg (clR R2 t)) = t := by rw [← s3]; exact c2
      exact this
    rw [ea] at cn
    refine ⟨cn.2.1.symm, by rw [cn.2.1]; omega, by rw [cn.2.1]; exact s2, ⟨c0, c1⟩, ?_⟩
    show cutR R2 (41 + R2 (830 + clR R2 t)) = cutR R (41 + R (830 + clR R t))
    rw [h.cut, s4, cn.2.1]
  · intro z zm
    obtain ⟨c0, c1, c2⟩ := clR_spec z
    obtain ⟨c, q0, q1, q2⟩ := h.2.2.2.2.2.2 _ c0 c1 zm
    obtain ⟨s1, s2, s3, s4, s5, s6, s7⟩ := h.2.2.2.2.1 c q0 q1
    have := h.2.2.2.1
    refine cat_find 41 0 c (by omega) q0 q1 (by omega) ?_
    rw [s3, q2]; exact c2
/-- a statement that stays as it is -/
theorem Stl.same (h : Stl R R2 m sg) (hG : Good R rho) {k a : Int} (ht : tk R2 a = tk R k) (hm : clR R (tk R k) ≠ -1 → cm R (clR R (tk R k)) ≠ m) :
    ly R2 (fun c => rho (sg c)) 1 a = ly R rho 1 k ∧ ly R2 (fun c => rho (sg c)) 4 a = ly R rho 4 k ∧ ly R2 (fun c => rho (sg c)) 5 a = ly R rho 5 k ∧ ly R2 (fun c => rho (sg c)) 7 a = ly R rho 7 k ∧ ly R2 (fun c => rho (sg c)) 10 a = ly R rho 10 k ∧ ly R2 (fun c => rho (sg c)) 11 a = ly R rho 11 k ∧ (∀ i, 0 ≤ i → i < 16 → ly R2 (fun c => rho (sg c)) 12 (16 * a + i) = ly R rho 12 (16 * k + i)) ∧ ly R2 (fun c => rho (sg c)) 6 a = (if clR R (tk R k) ≠ -1 then (if ly R rho 6 k ≤ m then ly R rho 6 k else ly R rho 6 k - 1) else ly R rho 6 k) ∧ nxt (clR R2) (eR R2) (tk R k) = nxt (clR R) (eR R) (tk R k) := by
  have hc := h.cut
  have cl := h.cl hG (t := tk R k)
  have e12 : ∀ (R rho : Int → Int) (k i : Int), 0 ≤ i → i < 16 → ly R rho 12 (16 * k + i) = if clR R (tk R k) ≠ -1 then (if i < irem (R (910 + clR R (tk R k))) 16 then 97 + nib (R (910 + clR R (tk R k))) i else if i = irem (R (910 + clR R (tk R k))) 16 then 62 else 97 + nib (R (950 + clR R (tk R k))) (i - irem (R (910 + clR R (tk R k))) 16 - 1)) else cutR R ((281 + (12 * tk R k)) + i) := by
    intro R rho k i i0 i1
    show (if clR R (tk R ((16 * k + i) / 16)) ≠ -1 then (if (16 * k + i) % 16 < irem (R (910 + clR R (tk R ((16 * k + i) / 16)))) 16 then 97 + nib (R (910 + clR R (tk R ((16 * k + i) / 16)))) ((16 * k + i) % 16) else if (16 * k + i) % 16 = irem (R (910 + clR R (tk R ((16 * k + i) / 16)))) 16 then 62 else 97 + nib (R (950 + clR R (tk R ((16 * k + i) / 16)))) ((16 * k + i) % 16 - irem (R (910 + clR R (tk R ((16 * k + i) / 16)))) 16 - 1)) else cutR R ((281 + (12 * tk R ((16 * k + i) / 16))) + (16 * k + i) % 16)) = _
    rw [show (16 * k + i) / 16 = k by omega, show (16 * k + i) % 16 = i by omega]
  show (if clR R2 (tk R2 a) ≠ -1 then (7 : Int) else cutR R2 (1 + tk R2 a)) = (if clR R (tk R k) ≠ -1 then 7 else cutR R (1 + tk R k)) ∧ cutR R2 (121 + tk R2 a) = cutR R (121 + tk R k) ∧ (if clR R2 (tk R2 a) ≠ -1 then (0 : Int) else cutR R2 (161 + tk R2 a)) = (if clR R (tk R k) ≠ -1 then 0 else cutR R (161 + tk R k)) ∧ (if clR R2 (tk R2 a) ≠ -1 then rho (sg (clR R2 (tk R2 a))) else 16434824) = (if clR R (tk R k) ≠ -1 then rho (clR R (tk R k)) else 16434824) ∧ (if clR R2 (tk R2 a) ≠ -1 then lset (R2 (910 + clR R2 (tk R2 a))) else uses (cutR R2) (tk R2 a)) = (if clR R (tk R k) ≠ -1 then lset (R (910 + clR R (tk R k))) else uses (cutR R) (tk R k)) ∧ (if clR R2 (tk R2 a) ≠ -1 then irem (R2 (910 + clR R2 (tk R2 a))) 16 + 1 + irem (R2 (950 + clR R2 (tk R2 a))) 16 else cutR R2 (241 + tk R2 a)) = (if clR R (tk R k) ≠ -1 then irem (R (910 + clR R (tk R k))) 16 + 1 + irem (R (950 + clR R (tk R k))) 16 else cutR R (241 + tk R k)) ∧ _ ∧ (if clR R2 (tk R2 a) ≠ -1 then R2 (870 + clR R2 (tk R2 a)) else cutR R2 (201 + tk R2 a)) = _ ∧ _
  rw [ht]
  by_cases z : clR R (tk R k) ≠ -1
  · have z2 := cl.2 z (hm z)
    obtain ⟨b1, b2, b3, b4, b5⟩ := cl.1 z2
    obtain ⟨s1, s2, s3, s4, s5, s6, s7⟩ := h.2.2.2.2.1 _ b4.1 b4.2
    rw [b1] at s1 s2 s3 s4 s5 s6 s7
    rw [if_pos z, if_pos z2, if_pos z, if_pos z2, if_pos z, if_pos z2, if_pos z, if_pos z2, if_pos z, if_pos z2, if_pos z2, b1, s5, s6, hc, if_pos z]
    refine ⟨rfl, rfl, rfl, rfl, rfl, rfl, fun i i0 i1 => ?_, ?_, ?_⟩
    · rw [e12 R2 _ a i i0 i1, e12 R _ k i i0 i1, ht, if_pos z, if_pos z2, s5, s6]
    · have e6 : ly R rho 6 k = R (870 + clR R (tk R k)) := by
        show (if clR R (tk R k) ≠ -1 then R (870 + clR R (tk R k)) else _) = _
        rw [if_pos z]
      rw [e6, s7]
    · unfold nxt; rw [if_pos z, if_pos z2, b5]
  · have z2 : ¬ clR R2 (tk R k) ≠ -1 := fun w => z (cl.1 w).2.1
    rw [if_neg z, if_neg z2, if_neg z, if_neg z2, if_neg z, if_neg z2, if_neg z, if_neg z2, if_neg z, if_neg z2, if_neg z2, hc, if_neg z]
    refine ⟨rfl, rfl, rfl, rfl, rfl, rfl, fun i i0 i1 => ?_, ?_, ?_⟩
    · rw [e12 R2 _ a i i0 i1, e12 R _ k i i0 i1, ht, if_neg z, if_neg z2, hc]
    · show _ = (if clR R (tk R k) ≠ -1 then R (870 + clR R (tk R k)) else cutR R (201 + tk R k))
      rw [if_neg z]
    · unfold nxt; rw [if_neg z, if_neg z2]
end S
/-- the names that a statement told reads -/
theorem usl_bt {A : Int → Int} {t : Int} : ∀ (n : Nat) (h a : Int) (v : Nat), v < 8 → (bt (usl A t n h a) v = true ↔ (bt a v = true ∨ ∃ i, h ≤ i ∧ i < h + n ∧ A ((281 + (12 * t)) + i) = 97 + v)) := by
  intro n
  induction n with
  | zero =>
    intro h a v _
    rw [usl]
    constructor
    · exact fun z => Or.inl z
    · rintro (z | ⟨i, i1, i2, _⟩)
      · exact z
      · omega
  | succ n ih =>
    intro h a v hv
    have hb : bt (isv (A ((281 + (12 * t)) + h))) v = true ↔ A ((281 + (12 * t)) + h) = 97 + v := by
      unfold isv
      by_cases c : 97 ≤ A ((281 + (12 * t)) + h) ∧ A ((281 + (12 * t)) + h) ≤ 104
      · rw [if_pos c, bt_shl (by omega), decide_eq_true_iff]; omega
      · rw [if_neg c, bt_0]
        constructor
        · intro q; cases q
        · intro q; omega
    rw [usl, ih (h + 1) _ v hv, bt_ior, Bool.or_eq_true, hb]
    constructor
    · rintro ((z | z) | ⟨i, i1, i2, i3⟩)
      · exact Or.inl z
      · exact Or.inr ⟨h, by omega, by omega, z⟩
      · exact Or.inr ⟨i, by omega, by omega, i3⟩
    · rintro (z | ⟨i, i1, i2, i3⟩)
      · exact Or.inl (Or.inl z)
      · by_cases e : i = h
        · exact Or.inl (Or.inr (by rw [← e]; exact i3))
        · exact Or.inr ⟨i, by omega, by omega, i3⟩
theorem uses_bt {A : Int → Int} {t : Int} (hl : 0 ≤ A (241 + t) ∧ A (241 + t) ≤ 12) {v : Nat} (hv : v < 8) : bt (uses A t) v = true ↔ ∃ i, 0 ≤ i ∧ i < tp A 11 t ∧ tp A 12 (16 * t + i) = 97 + v := by
  unfold uses
  rw [usl_bt _ _ _ v hv, bt_0]
  have e11 : tp A 11 t = A (241 + t) := rfl
  rw [e11]
  constructor
  · rintro (z | ⟨i, i0, i1, i2⟩)
    · cases z
    · exact ⟨i, i0, by omega, by rw [tp_12 (by omega)]; exact i2⟩
  · rintro ⟨i, i0, i1, i2⟩
    rw [tp_12 (by omega)] at i2
    exact Or.inr ⟨i, i0, by omega, i2⟩
theorem ren_var {r x : Int} {w : Nat} (hw : w < 8) : ren r x = 97 + w ↔ ∃ v : Int, 0 ≤ v ∧ v < 8 ∧ x = 97 + v ∧ rn r v = w := by
  unfold ren sp_var
  by_cases h : 97 ≤ x ∧ x < 105
  · rw [if_pos h, if_pos (by omega)]
    constructor
    · intro e; exact ⟨x - 97, by omega, by omega, by omega, by omega⟩
    · rintro ⟨v, v0, v1, e, e2⟩
      rw [show x - 97 = v by omega, e2]
  · rw [if_neg h, if_neg (by omega)]
    constructor
    · intro e; omega
    · rintro ⟨v, v0, v1, e, e2⟩; omega
theorem uses_ren {A : Int → Int} {r f a x : Int} (h : twn (tp A) r f a x) (hl : 0 ≤ A (241 + (f + x)) ∧ A (241 + (f + x)) ≤ 12) : uses A (a + x) = rset r (uses A (f + x)) := by
  obtain ⟨h1, h2, h3, h4, h5, h6, h7⟩ := h
  have hl2 : 0 ≤ A (241 + (a + x)) ∧ A (241 + (a + x)) ≤ 12 := by
    have : A (241 + (a + x)) = A (241 + (f + x)) := h5
    rw [this]; exact hl
  refine m8_ext m8_uses (m8_rset _ _) (fun w hw => bt_iffT ?_)
  rw [uses_bt hl2 hw, rset_bt]
  constructor
  · rintro ⟨i, i0, i1, i2⟩
    rw [h5] at i1
    rw [h7 i i0 i1, ren_var hw] at i2
    obtain ⟨v, v0, v1, e1, e2⟩ := i2
    exact ⟨v, v0, v1, (uses_bt hl (v := v.toNat) (by omega)).mpr ⟨i, i0, i1, by omega⟩, e2⟩
  · rintro ⟨v, v0, v1, hb, e⟩
    obtain ⟨i, i0, i1, i2⟩ := (uses_bt hl (v := v.toNat) (by omega)).mp hb
    refine ⟨i, i0, by rw [h5]; exact i1, ?_⟩
    rw [h7 i i0 i1, ren_var hw]
    exact ⟨v, v0, v1, by omega, e⟩
