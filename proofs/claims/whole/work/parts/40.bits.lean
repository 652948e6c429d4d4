/-! Bits of a number: sets of variables are masks -/
def bt (m : Int) (v : Nat) : Bool := (Int32.ofInt m).toBitVec.getLsbD v
theorem bt_iand (a b : Int) (v : Nat) : bt (iand a b) v = (bt a v && bt b v) := by
  unfold bt iand
  rw [sl_ofT]
  simp
theorem bt_ior (a b : Int) (v : Nat) : bt (ior a b) v = (bt a v || bt b v) := by
  unfold bt ior
  rw [sl_ofT]
  simp
theorem bt_ixor (a b : Int) (v : Nat) : bt (ixor a b) v = (bt a v ^^ bt b v) := by
  unfold bt ixor
  rw [sl_ofT]
  simp
theorem bt_m1 {v : Nat} (h : v < 32) : bt (-1) v = true := by
  have : ∀ v, v < 32 → bt (-1) v = true := by decide +kernel
  exact this v h
theorem bt_0 (v : Nat) : bt 0 v = false := by
  unfold bt
  simp
theorem bt_not (a : Int) {v : Nat} (h : v < 32) : bt (ixor a (-1)) v = !bt a v := by
  rw [bt_ixor, bt_m1 h]
  simp
theorem bt_ge (a : Int) {v : Nat} (h : 32 ≤ v) : bt a v = false := by
  unfold bt
  exact BitVec.getLsbD_of_ge _ _ h
theorem bt_ext {a b : Int} (ha : sl_rg a) (hb : sl_rg b) (h : ∀ v, v < 32 → bt a v = bt b v) : a = b := by
  rw [← sl_inj32 ha hb]
  have : (Int32.ofInt a).toBitVec = (Int32.ofInt b).toBitVec := BitVec.eq_of_getLsbD_eq (fun i hi => h i hi)
  exact Int32.toBitVec_inj.mp this
/-- a mask of eight bits -/
def m8 (m : Int) : Prop := 0 ≤ m ∧ m < 256
theorem m8_rg {m : Int} (h : m8 m) : sl_rg m := by unfold m8 at h; omega
theorem bt8_dec : ∀ m : Nat, m < 256 → ∀ v, v < 32 → 8 ≤ v → bt (m : Int) v = false := by decide +kernel
theorem bt8 {m : Int} (h : m8 m) {v : Nat} (hv : 8 ≤ v) : bt m v = false := by
  by_cases h2 : v < 32
  · have := bt8_dec m.toNat (by unfold m8 at h; omega) v h2 hv
    rwa [show (m.toNat : Int) = m by unfold m8 at h; omega] at this
  · exact bt_ge m (by omega)
theorem m8_ext {a b : Int} (ha : m8 a) (hb : m8 b) (h : ∀ v, v < 8 → bt a v = bt b v) : a = b := by
  refine bt_ext (m8_rg ha) (m8_rg hb) (fun v _ => ?_)
  by_cases hv : v < 8
  · exact h v hv
  · rw [bt8 ha (by omega), bt8 hb (by omega)]
/-- a number whose bits from the eighth on are all 0 is a mask -/
theorem m8_of {a : Int} (ha : sl_rg a) (h : ∀ v, v < 32 → 8 ≤ v → bt a v = false) : m8 a := by
  have e : iand a 255 = a := by
    refine bt_ext (rg_iand _ _) ha (fun v hv => ?_)
    rw [bt_iand]
    by_cases h8 : v < 8
    · have : ∀ v, v < 8 → bt 255 v = true := by decide +kernel
      rw [this v h8, Bool.and_true]
    · rw [h v hv (by omega), Bool.false_and]
  have h2 : m8 (iand a 255) := by
    unfold m8 iand
    have e1 : (Int32.ofInt a &&& Int32.ofInt 255).toInt = ((Int32.ofInt a).toBitVec &&& (255 : BitVec 32)).toInt := rfl
    rw [e1]
    have hlt : ((Int32.ofInt a).toBitVec &&& (255 : BitVec 32)).toNat ≤ 255 := by
      rw [BitVec.toNat_and]
      exact Nat.and_le_right
    rw [BitVec.toInt_eq_toNat_of_lt (by omega)]
    omega
  rwa [e] at h2
theorem m8_and {a b : Int} (ha : m8 a) : m8 (iand a b) := m8_of (rg_iand _ _) (fun v _ h8 => by rw [bt_iand, bt8 ha h8, Bool.false_and])
theorem m8_and' {a b : Int} (hb : m8 b) : m8 (iand a b) := m8_of (rg_iand _ _) (fun v _ h8 => by rw [bt_iand, bt8 hb h8, Bool.and_false])
theorem m8_or {a b : Int} (ha : m8 a) (hb : m8 b) : m8 (ior a b) := m8_of (rg_ior _ _) (fun v _ h8 => by rw [bt_ior, bt8 ha h8, bt8 hb h8, Bool.false_or])
theorem m8_0 : m8 0 := ⟨by decide, by decide⟩
theorem sh_dec : ∀ k : Nat, k < 8 → (∀ v, v < 32 → bt (ishl 1 (k : Int)) v = decide (v = k)) ∧ (0 ≤ ishl 1 (k : Int) ∧ ishl 1 (k : Int) < 256) := by decide +kernel
theorem bt_shl {k : Int} (h : 0 ≤ k ∧ k < 8) (v : Nat) : bt (ishl 1 k) v = decide ((v : Int) = k) := by
  have e : ((k.toNat : Nat) : Int) = k := by omega
  have := (sh_dec k.toNat (by omega)).1
  rw [e] at this
  by_cases hv : v < 32
  · rw [this v hv]
    exact decide_eq_decide.mpr (by omega)
  · rw [bt_ge _ (by omega)]
    exact (decide_eq_false (by omega)).symm
theorem m8_shl {k : Int} (h : 0 ≤ k ∧ k < 8) : m8 (ishl 1 k) := by
  have e : ((k.toNat : Nat) : Int) = k := by omega
  have := (sh_dec k.toNat (by omega)).2
  rwa [e] at this
/-- the test of a bit, in the two forms that the sources use -/
theorem has_bv : ∀ (x : BitVec 32) (k : Nat), k < 32 → (x.sshiftRight k &&& 1#32) = if x.getLsbD k then 1#32 else 0#32 := by
  intro x k hk
  refine BitVec.eq_of_getLsbD_eq (fun i hi => ?_)
  rw [BitVec.getLsbD_and, BitVec.getLsbD_sshiftRight]
  by_cases h0 : i = 0
  · subst h0
    cases hx : x.getLsbD k <;> simp [hx, hk]
  · have : (1#32).getLsbD i = false := by
      rw [BitVec.getLsbD_one]
      simp [h0]
    rw [this, Bool.and_false]
    split
    · rw [this]
    · simp
theorem has_iff {m k : Int} (hk : 0 ≤ k ∧ k < 32) : iand (ishr m k) 1 = if bt m k.toNat then 1 else 0 := by
  unfold iand ishr bt
  rw [sl_ofT]
  have hs : (Int32.ofInt m >>> (Int32.ofInt k &&& 31)).toBitVec = (Int32.ofInt m).toBitVec.sshiftRight k.toNat := by
    have hd : ∀ n : Nat, n < 32 → ((Int32.ofInt (n : Int) &&& 31).toBitVec.smod 32).toNat = n := by decide +kernel
    have e : ((k.toNat : Nat) : Int) = k := by omega
    have h1 := hd k.toNat (by omega)
    rw [e] at h1
    rw [Int32.toBitVec_shiftRight, BitVec.sshiftRight_eq', h1]
  have hb : (Int32.ofInt m >>> (Int32.ofInt k &&& 31) &&& Int32.ofInt 1).toBitVec = if (Int32.ofInt m).toBitVec.getLsbD k.toNat then 1#32 else 0#32 := by
    rw [Int32.toBitVec_and, hs]
    exact has_bv _ _ (by omega)
  have : (Int32.ofInt m >>> (Int32.ofInt k &&& 31) &&& Int32.ofInt 1).toInt = ((Int32.ofInt m >>> (Int32.ofInt k &&& 31) &&& Int32.ofInt 1).toBitVec).toInt := rfl
  rw [this, hb]
  split <;> rfl
theorem has1 {m k : Int} (hk : 0 ≤ k ∧ k < 32) : iand (ishr m k) 1 = 1 ↔ bt m k.toNat = true := by
  rw [has_iff hk]
  split <;> simp [*]
theorem has0 {m k : Int} (hk : 0 ≤ k ∧ k < 32) : iand (ishr m k) 1 ≠ 0 ↔ bt m k.toNat = true := by
  rw [has_iff hk]
  split <;> simp [*]
