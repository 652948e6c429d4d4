section R
variable {l : Launch} {f : sl_F} {pc : Nat} {ls : sl_L} {st : List sl_V} {M : sl_M} {Q : sl_R}
theorem r_iadd {a b : Int} (hd : decode f.cd pc = .ok (.iadd, 1)) (k : sl_At l f (pc + 1) ls (vI (a + b) :: st) M Q) : sl_At l f pc ls (vI b :: vI a :: st) M Q := by
  intro hM hl G p e s m args below meth c C H locs arr hW hS hv
  have k := (k hM hl G p e s m args below meth c C H locs arr hW hS hv)
  have h : Value.int (Int32.ofInt (a + b)) = Value.int (Int32.ofInt a + Int32.ofInt b) := by rw [Int32.ofInt_add]
  refine lv_iadd C.1 C.2.1 hd ?_
  rw [← h]
  exact k
theorem r_isub {a b : Int} (hd : decode f.cd pc = .ok (.isub, 1)) (k : sl_At l f (pc + 1) ls (vI (a - b) :: st) M Q) : sl_At l f pc ls (vI b :: vI a :: st) M Q := by
  intro hM hl G p e s m args below meth c C H locs arr hW hS hv
  have k := (k hM hl G p e s m args below meth c C H locs arr hW hS hv)
  have h : Value.int (Int32.ofInt (a - b)) = Value.int (Int32.ofInt a - Int32.ofInt b) := by rw [Int32.ofInt_sub]
  refine lv_isub C.1 C.2.1 hd ?_
  rw [← h]
  exact k
theorem r_imul {a b : Int} (hd : decode f.cd pc = .ok (.imul, 1)) (k : sl_At l f (pc + 1) ls (vI (a * b) :: st) M Q) : sl_At l f pc ls (vI b :: vI a :: st) M Q := by
  intro hM hl G p e s m args below meth c C H locs arr hW hS hv
  have k := (k hM hl G p e s m args below meth c C H locs arr hW hS hv)
  have h : Value.int (Int32.ofInt (a * b)) = Value.int (Int32.ofInt a * Int32.ofInt b) := by rw [Int32.ofInt_mul]
  refine lv_imul C.1 C.2.1 hd ?_
  rw [← h]
  exact k
theorem r_ineg {a : Int} (hd : decode f.cd pc = .ok (.ineg, 1)) (k : sl_At l f (pc + 1) ls (vI (-a) :: st) M Q) : sl_At l f pc ls (vI a :: st) M Q := by
  intro hM hl G p e s m args below meth c C H locs arr hW hS hv
  have k := (k hM hl G p e s m args below meth c C H locs arr hW hS hv)
  have h : Value.int (Int32.ofInt (-a)) = Value.int (-Int32.ofInt a) := by rw [Int32.ofInt_neg]
  refine lv_ineg C.1 C.2.1 hd ?_
  rw [← h]
  exact k
theorem r_iand {a b : Int} (hd : decode f.cd pc = .ok (.iand, 1)) (k : sl_At l f (pc + 1) ls (vI (iand a b) :: st) M Q) : sl_At l f pc ls (vI b :: vI a :: st) M Q := by
  intro hM hl G p e s m args below meth c C H locs arr hW hS hv
  have k := (k hM hl G p e s m args below meth c C H locs arr hW hS hv)
  refine lv_iand C.1 C.2.1 hd ?_
  have h : Value.int (Int32.ofInt (iand a b)) = Value.int (Int32.ofInt a &&& Int32.ofInt b) := congrArg Value.int (sl_ofT _)
  rw [← h]
  exact k
theorem r_ior {a b : Int} (hd : decode f.cd pc = .ok (.ior, 1)) (k : sl_At l f (pc + 1) ls (vI (ior a b) :: st) M Q) : sl_At l f pc ls (vI b :: vI a :: st) M Q := by
  intro hM hl G p e s m args below meth c C H locs arr hW hS hv
  have k := (k hM hl G p e s m args below meth c C H locs arr hW hS hv)
  refine lv_ior C.1 C.2.1 hd ?_
  have h : Value.int (Int32.ofInt (ior a b)) = Value.int (Int32.ofInt a ||| Int32.ofInt b) := congrArg Value.int (sl_ofT _)
  rw [← h]
  exact k
theorem r_ixor {a b : Int} (hd : decode f.cd pc = .ok (.ixor, 1)) (k : sl_At l f (pc + 1) ls (vI (ixor a b) :: st) M Q) : sl_At l f pc ls (vI b :: vI a :: st) M Q := by
  intro hM hl G p e s m args below meth c C H locs arr hW hS hv
  have k := (k hM hl G p e s m args below meth c C H locs arr hW hS hv)
  refine lv_ixor C.1 C.2.1 hd ?_
  have h : Value.int (Int32.ofInt (ixor a b)) = Value.int (Int32.ofInt a ^^^ Int32.ofInt b) := congrArg Value.int (sl_ofT _)
  rw [← h]
  exact k
theorem r_ishl {a b : Int} (hd : decode f.cd pc = .ok (.ishl, 1)) (k : sl_At l f (pc + 1) ls (vI (ishl a b) :: st) M Q) : sl_At l f pc ls (vI b :: vI a :: st) M Q := by
  intro hM hl G p e s m args below meth c C H locs arr hW hS hv
  have k := (k hM hl G p e s m args below meth c C H locs arr hW hS hv)
  refine lv_ishl C.1 C.2.1 hd ?_
  have h : Value.int (Int32.ofInt (ishl a b)) = Value.int (Int32.ofInt a <<< (Int32.ofInt b &&& 31)) := congrArg Value.int (sl_ofT _)
  rw [← h]
  exact k
theorem r_ishr {a b : Int} (hd : decode f.cd pc = .ok (.ishr, 1)) (k : sl_At l f (pc + 1) ls (vI (ishr a b) :: st) M Q) : sl_At l f pc ls (vI b :: vI a :: st) M Q := by
  intro hM hl G p e s m args below meth c C H locs arr hW hS hv
  have k := (k hM hl G p e s m args below meth c C H locs arr hW hS hv)
  refine lv_ishr C.1 C.2.1 hd ?_
  have h : Value.int (Int32.ofInt (ishr a b)) = Value.int (Int32.ofInt a >>> (Int32.ofInt b &&& 31)) := congrArg Value.int (sl_ofT _)
  rw [← h]
  exact k
theorem r_idiv {a b : Int} (hb : sl_rg b) (hne : b ≠ 0) (hd : decode f.cd pc = .ok (.idiv, 1)) (k : sl_At l f (pc + 1) ls (vI (idiv a b) :: st) M Q) : sl_At l f pc ls (vI b :: vI a :: st) M Q := by
  intro hM hl G p e s m args below meth c C H locs arr hW hS hv
  have k := (k hM hl G p e s m args below meth c C H locs arr hW hS hv)
  refine lv_idiv C.1 C.2.1 hd (fun h => hne ((sl_inj32 hb sl_rg0).mp h)) ?_
  have h : Value.int (Int32.ofInt (idiv a b)) = Value.int (Int32.ofInt a / Int32.ofInt b) := congrArg Value.int (sl_ofT _)
  rw [← h]
  exact k
theorem r_irem {a b : Int} (hb : sl_rg b) (hne : b ≠ 0) (hd : decode f.cd pc = .ok (.irem, 1)) (k : sl_At l f (pc + 1) ls (vI (irem a b) :: st) M Q) : sl_At l f pc ls (vI b :: vI a :: st) M Q := by
  intro hM hl G p e s m args below meth c C H locs arr hW hS hv
  have k := (k hM hl G p e s m args below meth c C H locs arr hW hS hv)
  refine lv_irem C.1 C.2.1 hd (fun h => hne ((sl_inj32 hb sl_rg0).mp h)) ?_
  have h : Value.int (Int32.ofInt (irem a b)) = Value.int (Int32.ofInt a - Int32.ofInt a / Int32.ofInt b * Int32.ofInt b) := congrArg Value.int (sl_ofT _)
  rw [← h]
  exact k
theorem r_goto {off : Int} {tgt : Nat} (hd : decode f.cd pc = .ok (.goto off, 3)) (ht : (pc : Int) + off = (tgt : Int)) (k : sl_At l f tgt ls st M Q) : sl_At l f pc ls st M Q := by
  intro hM hl G p e s m args below meth c C H locs arr hW hS hv
  exact lv_goto C.1 C.2.1 hd ht (k hM hl G p e s m args below meth c C H locs arr hW hS hv)
theorem r_dup {v : sl_V} (hc : sl_c2 v = false) (hd : decode f.cd pc = .ok (.dup, 1)) (k : sl_At l f (pc + 1) ls (v :: v :: st) M Q) : sl_At l f pc ls (v :: st) M Q := by
  intro hM hl G p e s m args below meth c C H locs arr hW hS hv
  exact lv_dup C.1 C.2.1 hd (by rcases v with z | x | _ | q <;> first | rfl | cases hc) (k hM hl G p e s m args below meth c C H locs arr hW hS hv)
theorem r_pop {v : sl_V} (hc : sl_c2 v = false) (hd : decode f.cd pc = .ok (.pop, 1)) (k : sl_At l f (pc + 1) ls st M Q) : sl_At l f pc ls (v :: st) M Q := by
  intro hM hl G p e s m args below meth c C H locs arr hW hS hv
  exact lv_pop C.1 C.2.1 hd (by rcases v with z | x | _ | q <;> first | rfl | cases hc) (k hM hl G p e s m args below meth c C H locs arr hW hS hv)
theorem r_if_eq {a off : Int} {tgt : Nat} (ha : sl_rg a) (hd : decode f.cd pc = .ok (.ifCond .eq off, 3)) (ht : (pc : Int) + off = (tgt : Int)) (k1 : a = 0 → sl_At l f tgt ls st M Q) (k2 : ¬ (a = 0) → sl_At l f (pc + 3) ls st M Q) : sl_At l f pc ls (vI a :: st) M Q := by
  intro hM hl G p e s m args below meth c C H locs arr hW hS hv
  have e0 : (0 : Int32) = Int32.ofInt 0 := rfl
  refine lv_if_eq C.1 C.2.1 hd ht (fun h => k1 ?_ hM hl G p e s m args below meth c C H locs arr hW hS hv) (fun h => k2 ?_ hM hl G p e s m args below meth c C H locs arr hW hS hv)
  · rw [e0] at h; first | exact (sl_inj32 ha sl_rg0).mp h | exact fun q => h ((sl_inj32 ha sl_rg0).mpr q) | exact (sl_lt32 ha sl_rg0).mp h | exact (sl_le32 ha sl_rg0).mp h | exact (sl_lt32 sl_rg0 ha).mp h | exact (sl_le32 sl_rg0 ha).mp h
  · rw [e0] at h; first | exact fun q => q ((sl_inj32 ha sl_rg0).mp h) | exact fun q => h ((sl_inj32 ha sl_rg0).mpr q) | exact fun q => h (fun z => q ((sl_inj32 ha sl_rg0).mp z)) | exact fun q => h ((sl_lt32 ha sl_rg0).mpr q) | exact fun q => h ((sl_le32 ha sl_rg0).mpr q) | exact fun q => h ((sl_lt32 sl_rg0 ha).mpr q) | exact fun q => h ((sl_le32 sl_rg0 ha).mpr q)
theorem r_if_ne {a off : Int} {tgt : Nat} (ha : sl_rg a) (hd : decode f.cd pc = .ok (.ifCond .ne off, 3)) (ht : (pc : Int) + off = (tgt : Int)) (k1 : a ≠ 0 → sl_At l f tgt ls st M Q) (k2 : ¬ (a ≠ 0) → sl_At l f (pc + 3) ls st M Q) : sl_At l f pc ls (vI a :: st) M Q := by
  intro hM hl G p e s m args below meth c C H locs arr hW hS hv
  have e0 : (0 : Int32) = Int32.ofInt 0 := rfl
  refine lv_if_ne C.1 C.2.1 hd ht (fun h => k1 ?_ hM hl G p e s m args below meth c C H locs arr hW hS hv) (fun h => k2 ?_ hM hl G p e s m args below meth c C H locs arr hW hS hv)
  · rw [e0] at h; first | exact (sl_inj32 ha sl_rg0).mp h | exact fun q => h ((sl_inj32 ha sl_rg0).mpr q) | exact (sl_lt32 ha sl_rg0).mp h | exact (sl_le32 ha sl_rg0).mp h | exact (sl_lt32 sl_rg0 ha).mp h | exact (sl_le32 sl_rg0 ha).mp h
  · rw [e0] at h; first | exact fun q => q ((sl_inj32 ha sl_rg0).mp h) | exact fun q => h ((sl_inj32 ha sl_rg0).mpr q) | exact fun q => h (fun z => q ((sl_inj32 ha sl_rg0).mp z)) | exact fun q => h ((sl_lt32 ha sl_rg0).mpr q) | exact fun q => h ((sl_le32 ha sl_rg0).mpr q) | exact fun q => h ((sl_lt32 sl_rg0 ha).mpr q) | exact fun q => h ((sl_le32 sl_rg0 ha).mpr q)
theorem r_if_lt {a off : Int} {tgt : Nat} (ha : sl_rg a) (hd : decode f.cd pc = .ok (.ifCond .lt off, 3)) (ht : (pc : Int) + off = (tgt : Int)) (k1 : a < 0 → sl_At l f tgt ls st M Q) (k2 : ¬ (a < 0) → sl_At l f (pc + 3) ls st M Q) : sl_At l f pc ls (vI a :: st) M Q := by
  intro hM hl G p e s m args below meth c C H locs arr hW hS hv
  have e0 : (0 : Int32) = Int32.ofInt 0 := rfl
  refine lv_if_lt C.1 C.2.1 hd ht (fun h => k1 ?_ hM hl G p e s m args below meth c C H locs arr hW hS hv) (fun h => k2 ?_ hM hl G p e s m args below meth c C H locs arr hW hS hv)
  · rw [e0] at h; first | exact (sl_inj32 ha sl_rg0).mp h | exact fun q => h ((sl_inj32 ha sl_rg0).mpr q) | exact (sl_lt32 ha sl_rg0).mp h | exact (sl_le32 ha sl_rg0).mp h | exact (sl_lt32 sl_rg0 ha).mp h | exact (sl_le32 sl_rg0 ha).mp h
  · rw [e0] at h; first | exact fun q => q ((sl_inj32 ha sl_rg0).mp h) | exact fun q => h ((sl_inj32 ha sl_rg0).mpr q) | exact fun q => h (fun z => q ((sl_inj32 ha sl_rg0).mp z)) | exact fun q => h ((sl_lt32 ha sl_rg0).mpr q) | exact fun q => h ((sl_le32 ha sl_rg0).mpr q) | exact fun q => h ((sl_lt32 sl_rg0 ha).mpr q) | exact fun q => h ((sl_le32 sl_rg0 ha).mpr q)
theorem r_if_ge {a off : Int} {tgt : Nat} (ha : sl_rg a) (hd : decode f.cd pc = .ok (.ifCond .ge off, 3)) (ht : (pc : Int) + off = (tgt : Int)) (k1 : 0 ≤ a → sl_At l f tgt ls st M Q) (k2 : ¬ (0 ≤ a) → sl_At l f (pc + 3) ls st M Q) : sl_At l f pc ls (vI a :: st) M Q := by
  intro hM hl G p e s m args below meth c C H locs arr hW hS hv
  have e0 : (0 : Int32) = Int32.ofInt 0 := rfl
  refine lv_if_ge C.1 C.2.1 hd ht (fun h => k1 ?_ hM hl G p e s m args below meth c C H locs arr hW hS hv) (fun h => k2 ?_ hM hl G p e s m args below meth c C H locs arr hW hS hv)
  · rw [e0] at h; first | exact (sl_inj32 ha sl_rg0).mp h | exact fun q => h ((sl_inj32 ha sl_rg0).mpr q) | exact (sl_lt32 ha sl_rg0).mp h | exact (sl_le32 ha sl_rg0).mp h | exact (sl_lt32 sl_rg0 ha).mp h | exact (sl_le32 sl_rg0 ha).mp h
  · rw [e0] at h; first | exact fun q => q ((sl_inj32 ha sl_rg0).mp h) | exact fun q => h ((sl_inj32 ha sl_rg0).mpr q) | exact fun q => h (fun z => q ((sl_inj32 ha sl_rg0).mp z)) | exact fun q => h ((sl_lt32 ha sl_rg0).mpr q) | exact fun q => h ((sl_le32 ha sl_rg0).mpr q) | exact fun q => h ((sl_lt32 sl_rg0 ha).mpr q) | exact fun q => h ((sl_le32 sl_rg0 ha).mpr q)
theorem r_if_gt {a off : Int} {tgt : Nat} (ha : sl_rg a) (hd : decode f.cd pc = .ok (.ifCond .gt off, 3)) (ht : (pc : Int) + off = (tgt : Int)) (k1 : 0 < a → sl_At l f tgt ls st M Q) (k2 : ¬ (0 < a) → sl_At l f (pc + 3) ls st M Q) : sl_At l f pc ls (vI a :: st) M Q := by
  intro hM hl G p e s m args below meth c C H locs arr hW hS hv
  have e0 : (0 : Int32) = Int32.ofInt 0 := rfl
  refine lv_if_gt C.1 C.2.1 hd ht (fun h => k1 ?_ hM hl G p e s m args below meth c C H locs arr hW hS hv) (fun h => k2 ?_ hM hl G p e s m args below meth c C H locs arr hW hS hv)
  · rw [e0] at h; first | exact (sl_inj32 ha sl_rg0).mp h | exact fun q => h ((sl_inj32 ha sl_rg0).mpr q) | exact (sl_lt32 ha sl_rg0).mp h | exact (sl_le32 ha sl_rg0).mp h | exact (sl_lt32 sl_rg0 ha).mp h | exact (sl_le32 sl_rg0 ha).mp h
  · rw [e0] at h; first | exact fun q => q ((sl_inj32 ha sl_rg0).mp h) | exact fun q => h ((sl_inj32 ha sl_rg0).mpr q) | exact fun q => h (fun z => q ((sl_inj32 ha sl_rg0).mp z)) | exact fun q => h ((sl_lt32 ha sl_rg0).mpr q) | exact fun q => h ((sl_le32 ha sl_rg0).mpr q) | exact fun q => h ((sl_lt32 sl_rg0 ha).mpr q) | exact fun q => h ((sl_le32 sl_rg0 ha).mpr q)
theorem r_if_le {a off : Int} {tgt : Nat} (ha : sl_rg a) (hd : decode f.cd pc = .ok (.ifCond .le off, 3)) (ht : (pc : Int) + off = (tgt : Int)) (k1 : a ≤ 0 → sl_At l f tgt ls st M Q) (k2 : ¬ (a ≤ 0) → sl_At l f (pc + 3) ls st M Q) : sl_At l f pc ls (vI a :: st) M Q := by
  intro hM hl G p e s m args below meth c C H locs arr hW hS hv
  have e0 : (0 : Int32) = Int32.ofInt 0 := rfl
  refine lv_if_le C.1 C.2.1 hd ht (fun h => k1 ?_ hM hl G p e s m args below meth c C H locs arr hW hS hv) (fun h => k2 ?_ hM hl G p e s m args below meth c C H locs arr hW hS hv)
  · rw [e0] at h; first | exact (sl_inj32 ha sl_rg0).mp h | exact fun q => h ((sl_inj32 ha sl_rg0).mpr q) | exact (sl_lt32 ha sl_rg0).mp h | exact (sl_le32 ha sl_rg0).mp h | exact (sl_lt32 sl_rg0 ha).mp h | exact (sl_le32 sl_rg0 ha).mp h
  · rw [e0] at h; first | exact fun q => q ((sl_inj32 ha sl_rg0).mp h) | exact fun q => h ((sl_inj32 ha sl_rg0).mpr q) | exact fun q => h (fun z => q ((sl_inj32 ha sl_rg0).mp z)) | exact fun q => h ((sl_lt32 ha sl_rg0).mpr q) | exact fun q => h ((sl_le32 ha sl_rg0).mpr q) | exact fun q => h ((sl_lt32 sl_rg0 ha).mpr q) | exact fun q => h ((sl_le32 sl_rg0 ha).mpr q)
theorem r_icmp_eq {a b off : Int} {tgt : Nat} (ha : sl_rg a) (hb : sl_rg b) (hd : decode f.cd pc = .ok (.if_icmp .eq off, 3)) (ht : (pc : Int) + off = (tgt : Int)) (k1 : a = b → sl_At l f tgt ls st M Q) (k2 : ¬ (a = b) → sl_At l f (pc + 3) ls st M Q) : sl_At l f pc ls (vI b :: vI a :: st) M Q := by
  intro hM hl G p e s m args below meth c C H locs arr hW hS hv
  refine lv_icmp_eq C.1 C.2.1 hd ht (fun h => k1 ?_ hM hl G p e s m args below meth c C H locs arr hW hS hv) (fun h => k2 ?_ hM hl G p e s m args below meth c C H locs arr hW hS hv)
  · first | exact (sl_inj32 ha hb).mp h | exact fun q => h ((sl_inj32 ha hb).mpr q) | exact (sl_lt32 ha hb).mp h | exact (sl_le32 ha hb).mp h | exact (sl_lt32 hb ha).mp h | exact (sl_le32 hb ha).mp h
  · first | exact fun q => q ((sl_inj32 ha hb).mp h) | exact fun q => h ((sl_inj32 ha hb).mpr q) | exact fun q => h (fun z => q ((sl_inj32 ha hb).mp z)) | exact fun q => h ((sl_lt32 ha hb).mpr q) | exact fun q => h ((sl_le32 ha hb).mpr q) | exact fun q => h ((sl_lt32 hb ha).mpr q) | exact fun q => h ((sl_le32 hb ha).mpr q)
theorem r_icmp_ne {a b off : Int} {tgt : Nat} (ha : sl_rg a) (hb : sl_rg b) (hd : decode f.cd pc = .ok (.if_icmp .ne off, 3)) (ht : (pc : Int) + off = (tgt : Int)) (k1 : a ≠ b → sl_At l f tgt ls st M Q) (k2 : ¬ (a ≠ b) → sl_At l f (pc + 3) ls st M Q) : sl_At l f pc ls (vI b :: vI a :: st) M Q := by
  intro hM hl G p e s m args below meth c C H locs arr hW hS hv
  refine lv_icmp_ne C.1 C.2.1 hd ht (fun h => k1 ?_ hM hl G p e s m args below meth c C H locs arr hW hS hv) (fun h => k2 ?_ hM hl G p e s m args below meth c C H locs arr hW hS hv)
  · first | exact (sl_inj32 ha hb).mp h | exact fun q => h ((sl_inj32 ha hb).mpr q) | exact (sl_lt32 ha hb).mp h | exact (sl_le32 ha hb).mp h | exact (sl_lt32 hb ha).mp h | exact (sl_le32 hb ha).mp h
  · first | exact fun q => q ((sl_inj32 ha hb).mp h) | exact fun q => h ((sl_inj32 ha hb).mpr q) | exact fun q => h (fun z => q ((sl_inj32 ha hb).mp z)) | exact fun q => h ((sl_lt32 ha hb).mpr q) | exact fun q => h ((sl_le32 ha hb).mpr q) | exact fun q => h ((sl_lt32 hb ha).mpr q) | exact fun q => h ((sl_le32 hb ha).mpr q)
theorem r_icmp_lt {a b off : Int} {tgt : Nat} (ha : sl_rg a) (hb : sl_rg b) (hd : decode f.cd pc = .ok (.if_icmp .lt off, 3)) (ht : (pc : Int) + off = (tgt : Int)) (k1 : a < b → sl_At l f tgt ls st M Q) (k2 : ¬ (a < b) → sl_At l f (pc + 3) ls st M Q) : sl_At l f pc ls (vI b :: vI a :: st) M Q := by
  intro hM hl G p e s m args below meth c C H locs arr hW hS hv
  refine lv_icmp_lt C.1 C.2.1 hd ht (fun h => k1 ?_ hM hl G p e s m args below meth c C H locs arr hW hS hv) (fun h => k2 ?_ hM hl G p e s m args below meth c C H locs arr hW hS hv)
  · first | exact (sl_inj32 ha hb).mp h | exact fun q => h ((sl_inj32 ha hb).mpr q) | exact (sl_lt32 ha hb).mp h | exact (sl_le32 ha hb).mp h | exact (sl_lt32 hb ha).mp h | exact (sl_le32 hb ha).mp h
  · first | exact fun q => q ((sl_inj32 ha hb).mp h) | exact fun q => h ((sl_inj32 ha hb).mpr q) | exact fun q => h (fun z => q ((sl_inj32 ha hb).mp z)) | exact fun q => h ((sl_lt32 ha hb).mpr q) | exact fun q => h ((sl_le32 ha hb).mpr q) | exact fun q => h ((sl_lt32 hb ha).mpr q) | exact fun q => h ((sl_le32 hb ha).mpr q)
theorem r_icmp_ge {a b off : Int} {tgt : Nat} (ha : sl_rg a) (hb : sl_rg b) (hd : decode f.cd pc = .ok (.if_icmp .ge off, 3)) (ht : (pc : Int) + off = (tgt : Int)) (k1 : b ≤ a → sl_At l f tgt ls st M Q) (k2 : ¬ (b ≤ a) → sl_At l f (pc + 3) ls st M Q) : sl_At l f pc ls (vI b :: vI a :: st) M Q := by
  intro hM hl G p e s m args below meth c C H locs arr hW hS hv
  refine lv_icmp_ge C.1 C.2.1 hd ht (fun h => k1 ?_ hM hl G p e s m args below meth c C H locs arr hW hS hv) (fun h => k2 ?_ hM hl G p e s m args below meth c C H locs arr hW hS hv)
  · first | exact (sl_inj32 ha hb).mp h | exact fun q => h ((sl_inj32 ha hb).mpr q) | exact (sl_lt32 ha hb).mp h | exact (sl_le32 ha hb).mp h | exact (sl_lt32 hb ha).mp h | exact (sl_le32 hb ha).mp h
  · first | exact fun q => q ((sl_inj32 ha hb).mp h) | exact fun q => h ((sl_inj32 ha hb).mpr q) | exact fun q => h (fun z => q ((sl_inj32 ha hb).mp z)) | exact fun q => h ((sl_lt32 ha hb).mpr q) | exact fun q => h ((sl_le32 ha hb).mpr q) | exact fun q => h ((sl_lt32 hb ha).mpr q) | exact fun q => h ((sl_le32 hb ha).mpr q)
theorem r_icmp_gt {a b off : Int} {tgt : Nat} (ha : sl_rg a) (hb : sl_rg b) (hd : decode f.cd pc = .ok (.if_icmp .gt off, 3)) (ht : (pc : Int) + off = (tgt : Int)) (k1 : b < a → sl_At l f tgt ls st M Q) (k2 : ¬ (b < a) → sl_At l f (pc + 3) ls st M Q) : sl_At l f pc ls (vI b :: vI a :: st) M Q := by
  intro hM hl G p e s m args below meth c C H locs arr hW hS hv
  refine lv_icmp_gt C.1 C.2.1 hd ht (fun h => k1 ?_ hM hl G p e s m args below meth c C H locs arr hW hS hv) (fun h => k2 ?_ hM hl G p e s m args below meth c C H locs arr hW hS hv)
  · first | exact (sl_inj32 ha hb).mp h | exact fun q => h ((sl_inj32 ha hb).mpr q) | exact (sl_lt32 ha hb).mp h | exact (sl_le32 ha hb).mp h | exact (sl_lt32 hb ha).mp h | exact (sl_le32 hb ha).mp h
  · first | exact fun q => q ((sl_inj32 ha hb).mp h) | exact fun q => h ((sl_inj32 ha hb).mpr q) | exact fun q => h (fun z => q ((sl_inj32 ha hb).mp z)) | exact fun q => h ((sl_lt32 ha hb).mpr q) | exact fun q => h ((sl_le32 ha hb).mpr q) | exact fun q => h ((sl_lt32 hb ha).mpr q) | exact fun q => h ((sl_le32 hb ha).mpr q)
theorem r_icmp_le {a b off : Int} {tgt : Nat} (ha : sl_rg a) (hb : sl_rg b) (hd : decode f.cd pc = .ok (.if_icmp .le off, 3)) (ht : (pc : Int) + off = (tgt : Int)) (k1 : a ≤ b → sl_At l f tgt ls st M Q) (k2 : ¬ (a ≤ b) → sl_At l f (pc + 3) ls st M Q) : sl_At l f pc ls (vI b :: vI a :: st) M Q := by
  intro hM hl G p e s m args below meth c C H locs arr hW hS hv
  refine lv_icmp_le C.1 C.2.1 hd ht (fun h => k1 ?_ hM hl G p e s m args below meth c C H locs arr hW hS hv) (fun h => k2 ?_ hM hl G p e s m args below meth c C H locs arr hW hS hv)
  · first | exact (sl_inj32 ha hb).mp h | exact fun q => h ((sl_inj32 ha hb).mpr q) | exact (sl_lt32 ha hb).mp h | exact (sl_le32 ha hb).mp h | exact (sl_lt32 hb ha).mp h | exact (sl_le32 hb ha).mp h
  · first | exact fun q => q ((sl_inj32 ha hb).mp h) | exact fun q => h ((sl_inj32 ha hb).mpr q) | exact fun q => h (fun z => q ((sl_inj32 ha hb).mp z)) | exact fun q => h ((sl_lt32 ha hb).mpr q) | exact fun q => h ((sl_le32 ha hb).mpr q) | exact fun q => h ((sl_lt32 hb ha).mpr q) | exact fun q => h ((sl_le32 hb ha).mpr q)
theorem r_tsOut {x dflt lo hi : Int} {offs : Array Int} {len tgt : Nat} (hx : sl_rg x) (hd : decode f.cd pc = .ok (.tableswitch dflt lo hi offs, len)) (h : x < lo ∨ hi < x) (ht : (pc : Int) + dflt = (tgt : Int)) (k : sl_At l f tgt ls st M Q) : sl_At l f pc ls (vI x :: st) M Q := by
  intro hM hl G p e s m args below meth c C H locs arr hW hS hv
  exact lv_tableOut C.1 C.2.1 hd (by rw [sl_ti hx]; exact h) ht (k hM hl G p e s m args below meth c C H locs arr hW hS hv)
theorem r_tsIn {x dflt lo hi : Int} {offs : Array Int} {len tgt : Nat} {off : Int} (n : Nat) (hx : sl_rg x) (hd : decode f.cd pc = .ok (.tableswitch dflt lo hi offs, len)) (h : x = lo + n) (h2 : ¬ hi < lo + n) (ho : offs[n]? = some off) (ht : (pc : Int) + off = (tgt : Int)) (k : sl_At l f tgt ls st M Q) : sl_At l f pc ls (vI x :: st) M Q := by
  intro hM hl G p e s m args below meth c C H locs arr hW hS hv
  subst h
  exact lv_tableIn C.1 C.2.1 hd (by rw [sl_ti hx]; omega) (by rw [sl_ti hx]; exact h2) (by rw [sl_ti hx, show (lo + (n : Int) - lo).toNat = n by omega]; exact ho) ht (k hM hl G p e s m args below meth c C H locs arr hW hS hv)
theorem r_ls {x dflt off : Int} {ps : Array (Int × Int)} {len tgt : Nat} (hx : sl_rg x) (hd : decode f.cd pc = .ok (.lookupswitch dflt ps, len)) (hp : (ps.toList.zip (ps.toList.drop 1)).all (fun (a, next) => a.1 < next.1) = true) (ho : Op.lookupswitch.offset ps.toList dflt x = off) (ht : (pc : Int) + off = (tgt : Int)) (k : sl_At l f tgt ls st M Q) : sl_At l f pc ls (vI x :: st) M Q := by
  intro hM hl G p e s m args below meth c C H locs arr hW hS hv
  exact lv_lookup C.1 C.2.1 hd hp (by rw [sl_ti hx]; exact ho) ht (k hM hl G p e s m args below meth c C H locs arr hW hS hv)
theorem sl_osw {x a o d : Int} {r : List (Int × Int)} (h : ¬ x = a) : Op.lookupswitch.offset ((a, o) :: r) d x = Op.lookupswitch.offset r d x := by
  rw [Op.lookupswitch.offset_cons, if_neg]
  exact fun q => h q.symm
theorem sl_osh {a o d : Int} {r : List (Int × Int)} : Op.lookupswitch.offset ((a, o) :: r) d a = o := by
  rw [Op.lookupswitch.offset_cons, if_pos rfl]
theorem sl_osd {x d : Int} : Op.lookupswitch.offset [] d x = d := rfl
theorem r_ladd {a b : Int64} (hd : decode f.cd pc = .ok (.ladd, 1)) (k : sl_At l f (pc + 1) ls (vL (a + b) :: st) M Q) : sl_At l f pc ls (vL b :: vL a :: st) M Q := by
  intro hM hl G p e s m args below meth c C H locs arr hW hS hv
  exact lv_ladd C.1 C.2.1 hd (k hM hl G p e s m args below meth c C H locs arr hW hS hv)
theorem r_lmul {a b : Int64} (hd : decode f.cd pc = .ok (.lmul, 1)) (k : sl_At l f (pc + 1) ls (vL (a * b) :: st) M Q) : sl_At l f pc ls (vL b :: vL a :: st) M Q := by
  intro hM hl G p e s m args below meth c C H locs arr hW hS hv
  exact lv_lmul C.1 C.2.1 hd (k hM hl G p e s m args below meth c C H locs arr hW hS hv)
theorem r_i2l {a : Int} (hd : decode f.cd pc = .ok (.i2l, 1)) (k : sl_At l f (pc + 1) ls (vL (Int32.ofInt a).toInt64 :: st) M Q) : sl_At l f pc ls (vI a :: st) M Q := by
  intro hM hl G p e s m args below meth c C H locs arr hW hS hv
  exact lv_i2l C.1 C.2.1 hd rfl (k hM hl G p e s m args below meth c C H locs arr hW hS hv)
end R
