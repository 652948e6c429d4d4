/-! Constructors: pictures of what they make -/
def shU (S : Nat → Sh) (h : Nat) (x : Sh) : Nat → Sh := fun j => if j = h then x else S j
theorem shU_e {S : Nat → Sh} {h : Nat} {x : Sh} : shU S h x h = x := if_pos rfl
theorem shU_n {S : Nat → Sh} {h j : Nat} {x : Sh} (e : j ≠ h) : shU S h x j = S j := if_neg e
theorem shU_id {S : Nat → Sh} {h : Nat} {x : Sh} (e : S h = x) : shU S h x = S := by
  funext j
  by_cases z : j = h
  · rw [z, shU_e, e]
  · exact shU_n z
def Tp (S : Nat → Sh) (n : Nat) (L : List Sh) : Prop := ∀ q, q < L.length → S (n + q) = L.getD q (.inr (0, []))
theorem Tp.at {S : Nat → Sh} {n : Nat} {L : List Sh} (h : Tp S n L) (c : Nat) (e : Nat.blt c L.length = true) : S (n + c) = L.getD c (.inr (0, [])) := h c (Nat.le_of_ble_eq_true e)
theorem Tp.sub {S : Nat → Sh} {n : Nat} {L B : List Sh} (h : Tp S n L) (c k : Nat) (hk : B.length = k) (e : (L.drop c).take k = B) : Tp S (n + c) B := by
  intro q hq
  have hl : q < k := by omega
  have h1 : c + q < L.length := by
    have := congrArg List.length e
    rw [List.length_take, List.length_drop] at this
    omega
  rw [show n + c + q = n + (c + q) by omega, h (c + q) h1, ← e, List.getD_eq_getElem?_getD, List.getD_eq_getElem?_getD, List.getElem?_take, if_pos hl, List.getElem?_drop]
theorem Tp.up {S : Nat → Sh} {n h : Nat} {x : Sh} {L : List Sh} (t : Tp S n L) (e : h < n) : Tp (shU S h x) n L := fun q hq => by rw [shU_n (by omega)]; exact t q hq
def fsS (nf : Nat) (fs : List Nat) (kf x : Nat) : List Nat := (List.range nf).map (fun q => if q = kf then x else fs.getD q 0)
theorem fsS_ok {nf kf x : Nat} {fs fs2 : List Nat} (e : fs2 = fsS nf fs kf x) : ∀ q, q < nf → fs2.getD q 0 = if q = kf then x else fs.getD q 0 := by
  intro q hq
  rw [e]
  unfold fsS
  rw [List.getD_eq_getElem?_getD, List.getElem?_map, List.getElem?_range hq]; rfl
def tplX4 (n : Nat) : List Sh := []
def fflX4 (n : Nat) : List Nat := []
def tplX2 (n : Nat) : List Sh := [.inl (0, 8, [])]
def fflX2 (n : Nat) : List Nat := [n + 1, 0]
def tplX6 (n : Nat) : List Sh := [.inl (0, 9, []), .inl (0, 9, [])]
def fflX6 (n : Nat) : List Nat := [0, 0, 0, 0, 0, 0, 0, n + 1, n + 2]
def tplX0 (n : Nat) : List Sh := [.inl (0, 40, []), .inl (0, 40, []), .inl (0, 40, []), .inl (0, 40, []), .inl (0, 40, []), .inl (0, 40, []), .inl (0, 40, []), .inl (0, 40, []), .inl (0, 40, []), .inl (0, 40, []), .inl (0, 160, [])]
def fflX0 (n : Nat) : List Nat := [n + 1, n + 2, n + 3, n + 4, n + 5, n + 6, n + 7, n + 8, n + 9, n + 10, n + 11, 0, 0]
def tplX1 (n : Nat) : List Sh := [.inl (0, 40, []), .inl (0, 40, []), .inl (0, 40, []), .inl (0, 9, [])]
def fflX1 (n : Nat) : List Nat := [0, 0, n + 1, n + 2, n + 3, n + 4]
def tplX5 (n : Nat) : List Sh := [.inr (0, [n + 2, n + 3, n + 4, n + 5, n + 6, n + 7, n + 8, n + 9, n + 10, n + 11, n + 12, 0, 0]), .inl (0, 40, []), .inl (0, 40, []), .inl (0, 40, []), .inl (0, 40, []), .inl (0, 40, []), .inl (0, 40, []), .inl (0, 40, []), .inl (0, 40, []), .inl (0, 40, []), .inl (0, 40, []), .inl (0, 160, []), .inl (0, 9, [])]
def fflX5 (n : Nat) : List Nat := [n + 1, 0, 0, 0, n + 13]
def tplX3 (n : Nat) : List Sh := [.inr (2, [n + 2, 0]), .inl (0, 8, []), .inr (2, [n + 4, 0]), .inl (0, 8, []), .inl (0, 400, []), .inl (0, 12, []), .inl (0, 12, []), .inl (1, 12, [])]
def fflX3 (n : Nat) : List Nat := [n + 1, n + 3, 0, 0, n + 5, 0, 0, n + 6, n + 7, n + 8]
def tplX8 (n : Nat) : List Sh := [.inr (6, [0, 0, 0, 0, 0, 0, 0, n + 2, n + 3]), .inl (0, 9, []), .inl (0, 9, []), .inl (0, 8, []), .inl (0, 40, []), .inl (0, 40, [])]
def fflX8 (n : Nat) : List Nat := [n + 1, n + 4, 0, n + 5, n + 6, 0, 0]
def tplX7 (n : Nat) : List Sh := [.inr (0, [n + 2, n + 3, n + 4, n + 5, n + 6, n + 7, n + 8, n + 9, n + 10, n + 11, n + 12, 0, 0]), .inl (0, 40, []), .inl (0, 40, []), .inl (0, 40, []), .inl (0, 40, []), .inl (0, 40, []), .inl (0, 40, []), .inl (0, 40, []), .inl (0, 40, []), .inl (0, 40, []), .inl (0, 40, []), .inl (0, 160, []), .inl (3, 3, [n + 15, n + 29, n + 43]), .inl (0, 40, []), .inr (5, [n + 16, 0, 0, 0, n + 28]), .inr (0, [n + 17, n + 18, n + 19, n + 20, n + 21, n + 22, n + 23, n + 24, n + 25, n + 26, n + 27, 0, 0]), .inl (0, 40, []), .inl (0, 40, []), .inl (0, 40, []), .inl (0, 40, []), .inl (0, 40, []), .inl (0, 40, []), .inl (0, 40, []), .inl (0, 40, []), .inl (0, 40, []), .inl (0, 40, []), .inl (0, 160, []), .inl (0, 9, []), .inr (5, [n + 30, 0, 0, 0, n + 42]), .inr (0, [n + 31, n + 32, n + 33, n + 34, n + 35, n + 36, n + 37, n + 38, n + 39, n + 40, n + 41, 0, 0]), .inl (0, 40, []), .inl (0, 40, []), .inl (0, 40, []), .inl (0, 40, []), .inl (0, 40, []), .inl (0, 40, []), .inl (0, 40, []), .inl (0, 40, []), .inl (0, 40, []), .inl (0, 40, []), .inl (0, 160, []), .inl (0, 9, []), .inr (5, [n + 44, 0, 0, 0, n + 56]), .inr (0, [n + 45, n + 46, n + 47, n + 48, n + 49, n + 50, n + 51, n + 52, n + 53, n + 54, n + 55, 0, 0]), .inl (0, 40, []), .inl (0, 40, []), .inl (0, 40, []), .inl (0, 40, []), .inl (0, 40, []), .inl (0, 40, []), .inl (0, 40, []), .inl (0, 40, []), .inl (0, 40, []), .inl (0, 40, []), .inl (0, 160, []), .inl (0, 9, [])]
def fflX7 (n : Nat) : List Nat := [n + 1, n + 13, 0, n + 14]
def tplX9 (n : Nat) : List Sh := [.inl (0, 160, []), .inl (0, 3, []), .inl (2, 8, [n + 29, n + 86, n + 143, n + 200, n + 257, n + 314, n + 371, n + 428]), .inr (4, []), .inr (3, [n + 6, n + 8, 0, 0, n + 10, 0, 0, n + 11, n + 12, n + 13]), .inr (2, [n + 7, 0]), .inl (0, 8, []), .inr (2, [n + 9, 0]), .inl (0, 8, []), .inl (0, 400, []), .inl (0, 12, []), .inl (0, 12, []), .inl (1, 12, []), .inr (1, [0, 0, n + 15, n + 16, n + 17, n + 18]), .inl (0, 40, []), .inl (0, 40, []), .inl (0, 40, []), .inl (0, 9, []), .inr (6, [0, 0, 0, 0, 0, 0, 0, n + 20, n + 21]), .inl (0, 9, []), .inl (0, 9, []), .inr (8, [n + 23, n + 26, 0, n + 27, n + 28, 0, 0]), .inr (6, [0, 0, 0, 0, 0, 0, 0, n + 24, n + 25]), .inl (0, 9, []), .inl (0, 9, []), .inl (0, 8, []), .inl (0, 40, []), .inl (0, 40, [])]
def fflX9 (n : Nat) : List Nat := [n + 1, 0, n + 2, n + 3, 0, 0, n + 4, n + 5, n + 14, n + 19, n + 22]
def tplX10 (n : Nat) : List Sh := [.inl (0, 990, []), .inl (0, 5940, []), .inl (0, 160, []), .inl (0, 990, []), .inl (0, 41, []), .inl (0, 41, []), .inl (0, 2, []), .inl (0, 82, []), .inl (0, 82, []), .inl (0, 82, []), .inl (0, 82, []), .inl (0, 82, []), .inl (0, 82, []), .inl (0, 82, []), .inl (0, 82, []), .inl (0, 82, []), .inl (0, 328, []), .inl (0, 328, []), .inl (0, 328, []), .inl (0, 328, []), .inl (0, 82, []), .inl (0, 82, []), .inl (0, 4, []), .inl (0, 4, []), .inl (1, 41, []), .inl (0, 41, []), .inl (0, 40, []), .inl (0, 40, []), .inl (0, 320, []), .inl (0, 8, []), .inl (0, 8, []), .inl (0, 8, []), .inl (0, 400, []), .inl (0, 12, []), .inl (0, 12, []), .inl (0, 12, [])]
def fflX10 (n : Nat) : List Nat := [n + 1, n + 2, 0, 0, 0, 0, 0, 0, n + 3, 0, 0, n + 4, 0, n + 5, n + 6, n + 7, n + 8, n + 9, n + 10, n + 11, n + 12, n + 13, n + 14, n + 15, n + 16, n + 17, n + 18, n + 19, n + 20, n + 21, n + 22, 0, 0, 0, 0, 0, 0, 0, n + 23, n + 24, n + 25, n + 26, 0, 0, 0, 0, n + 27, n + 28, n + 29, n + 30, n + 31, 0, n + 32, 0, 0, 0, 0, n + 33, 0, 0, 0, n + 34, n + 35, n + 36]
def sbk (n : Nat) : List Sh := .inr (7, fflX7 (n + 1)) :: tplX7 (n + 1)
theorem oi_m : Cond.instanceMethod objectInit ∈ sl_GL := gl_1 (List.mem_of_getElem? (i := 21) rfl) rfl
theorem oi_c : Cond.code objectInit ⟨#[0xb1]⟩ 1 none ∈ sl_GL := gl_1 (List.mem_of_getElem? (i := 22) rfl) rfl
theorem w_ai : Cond.arrayClass .int ∈ sl_GL := gl_1 (List.mem_of_getElem? (i := 48) rfl) rfl
theorem w_ab : Cond.arrayClass .boolean ∈ sl_GL := gl_1 (List.mem_of_getElem? (i := 107) rfl) rfl
abbrev iX4 : sl_F := (0, RX4, yX4_init, cX4_init, 1, none, 1, 20)
theorem icX4 : Cond.code iX4.nm iX4.cd iX4.nL iX4.rt ∈ sl_GL := gl_1 (List.mem_of_getElem? (i := 29) rfl) rfl
theorem imX4 : Cond.instanceMethod iX4.nm ∈ sl_GL := gl_1 (List.mem_of_getElem? (i := 28) rfl) rfl
theorem iiX4 : Cond.initialized RX4 ∈ sl_GL := gl_1 (List.mem_of_getElem? (i := 2) rfl) rfl
theorem isX4 : Cond.instantiable RX4 5 ∈ sl_GL := gl_1 (List.mem_of_getElem? (i := 26) rfl) rfl
theorem ipX4 : iX4.nm.cls ≠ "java/lang/invoke/MethodHandle" ∧ iX4.nm.cls ≠ "java/lang/invoke/VarHandle" ∧ (parseMethodDescriptor iX4.nm.desc).map (fun d => d.parameters.length) = some 0 := by decide +kernel
theorem idX4 : ∀ j, j < 5 → defaultValue (tyX4 j) = shV 0 (sl_isr 4 j) 0 := by decide +kernel
theorem dX4_init_0 : decode cX4_init 0 = .ok (.aload_n 0, 1) := by decide +kernel
theorem dX4_init_1 : decode cX4_init 1 = .ok (.invokespecial 3, 3) := by decide +kernel
theorem dX4_init_4 : decode cX4_init 4 = .ok (.return_, 1) := by decide +kernel
theorem ol_X4_3 : Cond.methodLink RX4 3 objectInit ∈ sl_GL := gl_1 (List.mem_of_getElem? (i := 30) rfl) rfl
abbrev iX2 : sl_F := (0, RX2, yX2_init, cX2_init, 1, none, 1, 20)
theorem icX2 : Cond.code iX2.nm iX2.cd iX2.nL iX2.rt ∈ sl_GL := gl_1 (List.mem_of_getElem? (i := 59) rfl) rfl
theorem imX2 : Cond.instanceMethod iX2.nm ∈ sl_GL := gl_1 (List.mem_of_getElem? (i := 58) rfl) rfl
theorem iiX2 : Cond.initialized RX2 ∈ sl_GL := gl_1 (List.mem_of_getElem? (i := 4) rfl) rfl
theorem isX2 : Cond.instantiable RX2 2 ∈ sl_GL := gl_1 (List.mem_of_getElem? (i := 56) rfl) rfl
theorem ipX2 : iX2.nm.cls ≠ "java/lang/invoke/MethodHandle" ∧ iX2.nm.cls ≠ "java/lang/invoke/VarHandle" ∧ (parseMethodDescriptor iX2.nm.desc).map (fun d => d.parameters.length) = some 0 := by decide +kernel
theorem idX2 : ∀ j, j < 2 → defaultValue (tyX2 j) = shV 0 (sl_isr 2 j) 0 := by decide +kernel
theorem dX2_init_0 : decode cX2_init 0 = .ok (.aload_n 0, 1) := by decide +kernel
theorem dX2_init_1 : decode cX2_init 1 = .ok (.invokespecial 3, 3) := by decide +kernel
theorem dX2_init_4 : decode cX2_init 4 = .ok (.aload_n 0, 1) := by decide +kernel
theorem dX2_init_5 : decode cX2_init 5 = .ok (.bipush 8, 2) := by decide +kernel
theorem dX2_init_7 : decode cX2_init 7 = .ok (.newarray .int, 2) := by decide +kernel
theorem dX2_init_9 : decode cX2_init 9 = .ok (.putfield 9, 3) := by decide +kernel
theorem dX2_init_12 : decode cX2_init 12 = .ok (.return_, 1) := by decide +kernel
theorem ol_X2_3 : Cond.methodLink RX2 3 objectInit ∈ sl_GL := gl_1 (List.mem_of_getElem? (i := 60) rfl) rfl
theorem pf_X2_9 : Cond.fieldLink RX2 9 RX2 (TX2 0).2.1 (TX2 0).2.2.1 ∈ sl_GL := gl_1 (List.mem_of_getElem? (i := 61) rfl) rfl
abbrev iX6 : sl_F := (0, RX6, yX6_init, cX6_init, 1, none, 1, 20)
theorem icX6 : Cond.code iX6.nm iX6.cd iX6.nL iX6.rt ∈ sl_GL := gl_1 (List.mem_of_getElem? (i := 138) rfl) rfl
theorem imX6 : Cond.instanceMethod iX6.nm ∈ sl_GL := gl_1 (List.mem_of_getElem? (i := 137) rfl) rfl
theorem iiX6 : Cond.initialized RX6 ∈ sl_GL := gl_1 (List.mem_of_getElem? (i := 6) rfl) rfl
theorem isX6 : Cond.instantiable RX6 9 ∈ sl_GL := gl_1 (List.mem_of_getElem? (i := 135) rfl) rfl
theorem ipX6 : iX6.nm.cls ≠ "java/lang/invoke/MethodHandle" ∧ iX6.nm.cls ≠ "java/lang/invoke/VarHandle" ∧ (parseMethodDescriptor iX6.nm.desc).map (fun d => d.parameters.length) = some 0 := by decide +kernel
theorem idX6 : ∀ j, j < 9 → defaultValue (tyX6 j) = shV 0 (sl_isr 6 j) 0 := by decide +kernel
theorem dX6_init_0 : decode cX6_init 0 = .ok (.aload_n 0, 1) := by decide +kernel
theorem dX6_init_1 : decode cX6_init 1 = .ok (.invokespecial 3, 3) := by decide +kernel
theorem dX6_init_4 : decode cX6_init 4 = .ok (.aload_n 0, 1) := by decide +kernel
theorem dX6_init_5 : decode cX6_init 5 = .ok (.bipush 9, 2) := by decide +kernel
theorem dX6_init_7 : decode cX6_init 7 = .ok (.newarray .int, 2) := by decide +kernel
theorem dX6_init_9 : decode cX6_init 9 = .ok (.putfield 9, 3) := by decide +kernel
theorem dX6_init_12 : decode cX6_init 12 = .ok (.aload_n 0, 1) := by decide +kernel
theorem dX6_init_13 : decode cX6_init 13 = .ok (.bipush 9, 2) := by decide +kernel
theorem dX6_init_15 : decode cX6_init 15 = .ok (.newarray .int, 2) := by decide +kernel
theorem dX6_init_17 : decode cX6_init 17 = .ok (.putfield 15, 3) := by decide +kernel
theorem dX6_init_20 : decode cX6_init 20 = .ok (.return_, 1) := by decide +kernel
theorem ol_X6_3 : Cond.methodLink RX6 3 objectInit ∈ sl_GL := gl_1 (List.mem_of_getElem? (i := 139) rfl) rfl
theorem pf_X6_9 : Cond.fieldLink RX6 9 RX6 (TX6 7).2.1 (TX6 7).2.2.1 ∈ sl_GL := gl_1 (List.mem_of_getElem? (i := 167) rfl) rfl
theorem pf_X6_15 : Cond.fieldLink RX6 15 RX6 (TX6 8).2.1 (TX6 8).2.2.1 ∈ sl_GL := gl_1 (List.mem_of_getElem? (i := 170) rfl) rfl
abbrev iX0 : sl_F := (0, RX0, yX0_init, cX0_init, 1, none, 1, 20)
theorem icX0 : Cond.code iX0.nm iX0.cd iX0.nL iX0.rt ∈ sl_GL := gl_1 (List.mem_of_getElem? (i := 233) rfl) rfl
theorem imX0 : Cond.instanceMethod iX0.nm ∈ sl_GL := gl_1 (List.mem_of_getElem? (i := 232) rfl) rfl
theorem iiX0 : Cond.initialized RX0 ∈ sl_GL := gl_1 (List.mem_of_getElem? (i := 9) rfl) rfl
theorem isX0 : Cond.instantiable RX0 13 ∈ sl_GL := gl_1 (List.mem_of_getElem? (i := 230) rfl) rfl
theorem ipX0 : iX0.nm.cls ≠ "java/lang/invoke/MethodHandle" ∧ iX0.nm.cls ≠ "java/lang/invoke/VarHandle" ∧ (parseMethodDescriptor iX0.nm.desc).map (fun d => d.parameters.length) = some 0 := by decide +kernel
theorem idX0 : ∀ j, j < 13 → defaultValue (tyX0 j) = shV 0 (sl_isr 0 j) 0 := by decide +kernel
theorem dX0_init_0 : decode cX0_init 0 = .ok (.aload_n 0, 1) := by decide +kernel
theorem dX0_init_1 : decode cX0_init 1 = .ok (.invokespecial 3, 3) := by decide +kernel
theorem dX0_init_4 : decode cX0_init 4 = .ok (.aload_n 0, 1) := by decide +kernel
theorem dX0_init_5 : decode cX0_init 5 = .ok (.bipush 40, 2) := by decide +kernel
theorem dX0_init_7 : decode cX0_init 7 = .ok (.newarray .int, 2) := by decide +kernel
theorem dX0_init_9 : decode cX0_init 9 = .ok (.putfield 9, 3) := by decide +kernel
theorem dX0_init_12 : decode cX0_init 12 = .ok (.aload_n 0, 1) := by decide +kernel
theorem dX0_init_13 : decode cX0_init 13 = .ok (.bipush 40, 2) := by decide +kernel
theorem dX0_init_15 : decode cX0_init 15 = .ok (.newarray .int, 2) := by decide +kernel
theorem dX0_init_17 : decode cX0_init 17 = .ok (.putfield 15, 3) := by decide +kernel
theorem dX0_init_20 : decode cX0_init 20 = .ok (.aload_n 0, 1) := by decide +kernel
theorem dX0_init_21 : decode cX0_init 21 = .ok (.bipush 40, 2) := by decide +kernel
theorem dX0_init_23 : decode cX0_init 23 = .ok (.newarray .int, 2) := by decide +kernel
theorem dX0_init_25 : decode cX0_init 25 = .ok (.putfield 18, 3) := by decide +kernel
theorem dX0_init_28 : decode cX0_init 28 = .ok (.aload_n 0, 1) := by decide +kernel
theorem dX0_init_29 : decode cX0_init 29 = .ok (.bipush 40, 2) := by decide +kernel
theorem dX0_init_31 : decode cX0_init 31 = .ok (.newarray .int, 2) := by decide +kernel
theorem dX0_init_33 : decode cX0_init 33 = .ok (.putfield 21, 3) := by decide +kernel
theorem dX0_init_36 : decode cX0_init 36 = .ok (.aload_n 0, 1) := by decide +kernel
theorem dX0_init_37 : decode cX0_init 37 = .ok (.bipush 40, 2) := by decide +kernel
theorem dX0_init_39 : decode cX0_init 39 = .ok (.newarray .int, 2) := by decide +kernel
theorem dX0_init_41 : decode cX0_init 41 = .ok (.putfield 24, 3) := by decide +kernel
theorem dX0_init_44 : decode cX0_init 44 = .ok (.aload_n 0, 1) := by decide +kernel
theorem dX0_init_45 : decode cX0_init 45 = .ok (.bipush 40, 2) := by decide +kernel
theorem dX0_init_47 : decode cX0_init 47 = .ok (.newarray .int, 2) := by decide +kernel
theorem dX0_init_49 : decode cX0_init 49 = .ok (.putfield 27, 3) := by decide +kernel
theorem dX0_init_52 : decode cX0_init 52 = .ok (.aload_n 0, 1) := by decide +kernel
theorem dX0_init_53 : decode cX0_init 53 = .ok (.bipush 40, 2) := by decide +kernel
theorem dX0_init_55 : decode cX0_init 55 = .ok (.newarray .int, 2) := by decide +kernel
theorem dX0_init_57 : decode cX0_init 57 = .ok (.putfield 30, 3) := by decide +kernel
theorem dX0_init_60 : decode cX0_init 60 = .ok (.aload_n 0, 1) := by decide +kernel
theorem dX0_init_61 : decode cX0_init 61 = .ok (.bipush 40, 2) := by decide +kernel
theorem dX0_init_63 : decode cX0_init 63 = .ok (.newarray .int, 2) := by decide +kernel
theorem dX0_init_65 : decode cX0_init 65 = .ok (.putfield 33, 3) := by decide +kernel
theorem dX0_init_68 : decode cX0_init 68 = .ok (.aload_n 0, 1) := by decide +kernel
theorem dX0_init_69 : decode cX0_init 69 = .ok (.bipush 40, 2) := by decide +kernel
theorem dX0_init_71 : decode cX0_init 71 = .ok (.newarray .int, 2) := by decide +kernel
theorem dX0_init_73 : decode cX0_init 73 = .ok (.putfield 36, 3) := by decide +kernel
theorem dX0_init_76 : decode cX0_init 76 = .ok (.aload_n 0, 1) := by decide +kernel
theorem dX0_init_77 : decode cX0_init 77 = .ok (.bipush 40, 2) := by decide +kernel
theorem dX0_init_79 : decode cX0_init 79 = .ok (.newarray .int, 2) := by decide +kernel
theorem dX0_init_81 : decode cX0_init 81 = .ok (.putfield 39, 3) := by decide +kernel
theorem dX0_init_84 : decode cX0_init 84 = .ok (.aload_n 0, 1) := by decide +kernel
theorem dX0_init_85 : decode cX0_init 85 = .ok (.sipush 160, 3) := by decide +kernel
theorem dX0_init_88 : decode cX0_init 88 = .ok (.newarray .int, 2) := by decide +kernel
theorem dX0_init_90 : decode cX0_init 90 = .ok (.putfield 42, 3) := by decide +kernel
theorem dX0_init_93 : decode cX0_init 93 = .ok (.return_, 1) := by decide +kernel
theorem ol_X0_3 : Cond.methodLink RX0 3 objectInit ∈ sl_GL := gl_1 (List.mem_of_getElem? (i := 234) rfl) rfl
theorem pf_X0_9 : Cond.fieldLink RX0 9 RX0 (TX0 0).2.1 (TX0 0).2.2.1 ∈ sl_GL := gl_1 (List.mem_of_getElem? (i := 235) rfl) rfl
theorem pf_X0_15 : Cond.fieldLink RX0 15 RX0 (TX0 1).2.1 (TX0 1).2.2.1 ∈ sl_GL := gl_2 (List.mem_of_getElem? (i := 1) rfl) rfl
theorem pf_X0_18 : Cond.fieldLink RX0 18 RX0 (TX0 2).2.1 (TX0 2).2.2.1 ∈ sl_GL := gl_2 (List.mem_of_getElem? (i := 5) rfl) rfl
theorem pf_X0_21 : Cond.fieldLink RX0 21 RX0 (TX0 3).2.1 (TX0 3).2.2.1 ∈ sl_GL := gl_2 (List.mem_of_getElem? (i := 8) rfl) rfl
theorem pf_X0_24 : Cond.fieldLink RX0 24 RX0 (TX0 4).2.1 (TX0 4).2.2.1 ∈ sl_GL := gl_2 (List.mem_of_getElem? (i := 11) rfl) rfl
theorem pf_X0_27 : Cond.fieldLink RX0 27 RX0 (TX0 5).2.1 (TX0 5).2.2.1 ∈ sl_GL := gl_2 (List.mem_of_getElem? (i := 14) rfl) rfl
theorem pf_X0_30 : Cond.fieldLink RX0 30 RX0 (TX0 6).2.1 (TX0 6).2.2.1 ∈ sl_GL := gl_2 (List.mem_of_getElem? (i := 19) rfl) rfl
theorem pf_X0_33 : Cond.fieldLink RX0 33 RX0 (TX0 7).2.1 (TX0 7).2.2.1 ∈ sl_GL := gl_2 (List.mem_of_getElem? (i := 22) rfl) rfl
theorem pf_X0_36 : Cond.fieldLink RX0 36 RX0 (TX0 8).2.1 (TX0 8).2.2.1 ∈ sl_GL := gl_2 (List.mem_of_getElem? (i := 23) rfl) rfl
theorem pf_X0_39 : Cond.fieldLink RX0 39 RX0 (TX0 9).2.1 (TX0 9).2.2.1 ∈ sl_GL := gl_2 (List.mem_of_getElem? (i := 27) rfl) rfl
theorem pf_X0_42 : Cond.fieldLink RX0 42 RX0 (TX0 10).2.1 (TX0 10).2.2.1 ∈ sl_GL := gl_2 (List.mem_of_getElem? (i := 31) rfl) rfl
abbrev iX1 : sl_F := (0, RX1, yX1_init, cX1_init, 1, none, 1, 20)
theorem icX1 : Cond.code iX1.nm iX1.cd iX1.nL iX1.rt ∈ sl_GL := gl_1 (List.mem_of_getElem? (i := 112) rfl) rfl
theorem imX1 : Cond.instanceMethod iX1.nm ∈ sl_GL := gl_1 (List.mem_of_getElem? (i := 111) rfl) rfl
theorem iiX1 : Cond.initialized RX1 ∈ sl_GL := gl_1 (List.mem_of_getElem? (i := 5) rfl) rfl
theorem isX1 : Cond.instantiable RX1 6 ∈ sl_GL := gl_1 (List.mem_of_getElem? (i := 109) rfl) rfl
theorem ipX1 : iX1.nm.cls ≠ "java/lang/invoke/MethodHandle" ∧ iX1.nm.cls ≠ "java/lang/invoke/VarHandle" ∧ (parseMethodDescriptor iX1.nm.desc).map (fun d => d.parameters.length) = some 0 := by decide +kernel
theorem idX1 : ∀ j, j < 6 → defaultValue (tyX1 j) = shV 0 (sl_isr 1 j) 0 := by decide +kernel
theorem dX1_init_0 : decode cX1_init 0 = .ok (.aload_n 0, 1) := by decide +kernel
theorem dX1_init_1 : decode cX1_init 1 = .ok (.invokespecial 3, 3) := by decide +kernel
theorem dX1_init_4 : decode cX1_init 4 = .ok (.aload_n 0, 1) := by decide +kernel
theorem dX1_init_5 : decode cX1_init 5 = .ok (.bipush 40, 2) := by decide +kernel
theorem dX1_init_7 : decode cX1_init 7 = .ok (.newarray .int, 2) := by decide +kernel
theorem dX1_init_9 : decode cX1_init 9 = .ok (.putfield 9, 3) := by decide +kernel
theorem dX1_init_12 : decode cX1_init 12 = .ok (.aload_n 0, 1) := by decide +kernel
theorem dX1_init_13 : decode cX1_init 13 = .ok (.bipush 40, 2) := by decide +kernel
theorem dX1_init_15 : decode cX1_init 15 = .ok (.newarray .int, 2) := by decide +kernel
theorem dX1_init_17 : decode cX1_init 17 = .ok (.putfield 15, 3) := by decide +kernel
theorem dX1_init_20 : decode cX1_init 20 = .ok (.aload_n 0, 1) := by decide +kernel
theorem dX1_init_21 : decode cX1_init 21 = .ok (.bipush 40, 2) := by decide +kernel
theorem dX1_init_23 : decode cX1_init 23 = .ok (.newarray .int, 2) := by decide +kernel
theorem dX1_init_25 : decode cX1_init 25 = .ok (.putfield 18, 3) := by decide +kernel
theorem dX1_init_28 : decode cX1_init 28 = .ok (.aload_n 0, 1) := by decide +kernel
theorem dX1_init_29 : decode cX1_init 29 = .ok (.bipush 9, 2) := by decide +kernel
theorem dX1_init_31 : decode cX1_init 31 = .ok (.newarray .int, 2) := by decide +kernel
theorem dX1_init_33 : decode cX1_init 33 = .ok (.putfield 21, 3) := by decide +kernel
theorem dX1_init_36 : decode cX1_init 36 = .ok (.return_, 1) := by decide +kernel
theorem ol_X1_3 : Cond.methodLink RX1 3 objectInit ∈ sl_GL := gl_1 (List.mem_of_getElem? (i := 113) rfl) rfl
theorem pf_X1_9 : Cond.fieldLink RX1 9 RX1 (TX1 2).2.1 (TX1 2).2.2.1 ∈ sl_GL := gl_1 (List.mem_of_getElem? (i := 116) rfl) rfl
theorem pf_X1_15 : Cond.fieldLink RX1 15 RX1 (TX1 3).2.1 (TX1 3).2.2.1 ∈ sl_GL := gl_1 (List.mem_of_getElem? (i := 117) rfl) rfl
theorem pf_X1_18 : Cond.fieldLink RX1 18 RX1 (TX1 4).2.1 (TX1 4).2.2.1 ∈ sl_GL := gl_1 (List.mem_of_getElem? (i := 119) rfl) rfl
theorem pf_X1_21 : Cond.fieldLink RX1 21 RX1 (TX1 5).2.1 (TX1 5).2.2.1 ∈ sl_GL := gl_1 (List.mem_of_getElem? (i := 120) rfl) rfl
abbrev iX5 : sl_F := (0, RX5, yX5_init, cX5_init, 1, none, 2, 40)
theorem icX5 : Cond.code iX5.nm iX5.cd iX5.nL iX5.rt ∈ sl_GL := gl_2 (List.mem_of_getElem? (i := 73) rfl) rfl
theorem imX5 : Cond.instanceMethod iX5.nm ∈ sl_GL := gl_2 (List.mem_of_getElem? (i := 72) rfl) rfl
theorem iiX5 : Cond.initialized RX5 ∈ sl_GL := gl_1 (List.mem_of_getElem? (i := 10) rfl) rfl
theorem isX5 : Cond.instantiable RX5 5 ∈ sl_GL := gl_2 (List.mem_of_getElem? (i := 70) rfl) rfl
theorem ipX5 : iX5.nm.cls ≠ "java/lang/invoke/MethodHandle" ∧ iX5.nm.cls ≠ "java/lang/invoke/VarHandle" ∧ (parseMethodDescriptor iX5.nm.desc).map (fun d => d.parameters.length) = some 0 := by decide +kernel
theorem idX5 : ∀ j, j < 5 → defaultValue (tyX5 j) = shV 0 (sl_isr 5 j) 0 := by decide +kernel
theorem dX5_init_0 : decode cX5_init 0 = .ok (.aload_n 0, 1) := by decide +kernel
theorem dX5_init_1 : decode cX5_init 1 = .ok (.invokespecial 3, 3) := by decide +kernel
theorem dX5_init_4 : decode cX5_init 4 = .ok (.aload_n 0, 1) := by decide +kernel
theorem dX5_init_5 : decode cX5_init 5 = .ok (.new 9, 3) := by decide +kernel
theorem dX5_init_8 : decode cX5_init 8 = .ok (.dup, 1) := by decide +kernel
theorem dX5_init_9 : decode cX5_init 9 = .ok (.invokespecial 11, 3) := by decide +kernel
theorem dX5_init_12 : decode cX5_init 12 = .ok (.putfield 12, 3) := by decide +kernel
theorem dX5_init_15 : decode cX5_init 15 = .ok (.aload_n 0, 1) := by decide +kernel
theorem dX5_init_16 : decode cX5_init 16 = .ok (.bipush 9, 2) := by decide +kernel
theorem dX5_init_18 : decode cX5_init 18 = .ok (.newarray .int, 2) := by decide +kernel
theorem dX5_init_20 : decode cX5_init 20 = .ok (.putfield 18, 3) := by decide +kernel
theorem dX5_init_23 : decode cX5_init 23 = .ok (.return_, 1) := by decide +kernel
theorem ol_X5_3 : Cond.methodLink RX5 3 objectInit ∈ sl_GL := gl_2 (List.mem_of_getElem? (i := 74) rfl) rfl
theorem ck_X5_9 : Cond.classLink RX5 9 RX0 ∈ sl_GL := gl_2 (List.mem_of_getElem? (i := 75) rfl) rfl
theorem cm_X5_11 : Cond.methodLinkNest RX5 11 yX0_init "SpanLifts" ∈ sl_NT := gn_2 (List.mem_of_getElem? (i := 76) rfl) rfl
theorem pf_X5_12 : Cond.fieldLink RX5 12 RX5 (TX5 0).2.1 (TX5 0).2.2.1 ∈ sl_GL := gl_2 (List.mem_of_getElem? (i := 77) rfl) rfl
theorem pf_X5_18 : Cond.fieldLink RX5 18 RX5 (TX5 4).2.1 (TX5 4).2.2.1 ∈ sl_GL := gl_2 (List.mem_of_getElem? (i := 90) rfl) rfl
abbrev iX3 : sl_F := (0, RX3, yX3_init, cX3_init, 1, none, 2, 40)
theorem icX3 : Cond.code iX3.nm iX3.cd iX3.nL iX3.rt ∈ sl_GL := gl_1 (List.mem_of_getElem? (i := 53) rfl) rfl
theorem imX3 : Cond.instanceMethod iX3.nm ∈ sl_GL := gl_1 (List.mem_of_getElem? (i := 52) rfl) rfl
theorem iiX3 : Cond.initialized RX3 ∈ sl_GL := gl_1 (List.mem_of_getElem? (i := 3) rfl) rfl
theorem isX3 : Cond.instantiable RX3 10 ∈ sl_GL := gl_1 (List.mem_of_getElem? (i := 50) rfl) rfl
theorem ipX3 : iX3.nm.cls ≠ "java/lang/invoke/MethodHandle" ∧ iX3.nm.cls ≠ "java/lang/invoke/VarHandle" ∧ (parseMethodDescriptor iX3.nm.desc).map (fun d => d.parameters.length) = some 0 := by decide +kernel
theorem idX3 : ∀ j, j < 10 → defaultValue (tyX3 j) = shV 0 (sl_isr 3 j) 0 := by decide +kernel
theorem dX3_init_0 : decode cX3_init 0 = .ok (.aload_n 0, 1) := by decide +kernel
theorem dX3_init_1 : decode cX3_init 1 = .ok (.invokespecial 3, 3) := by decide +kernel
theorem dX3_init_4 : decode cX3_init 4 = .ok (.aload_n 0, 1) := by decide +kernel
theorem dX3_init_5 : decode cX3_init 5 = .ok (.new 9, 3) := by decide +kernel
theorem dX3_init_8 : decode cX3_init 8 = .ok (.dup, 1) := by decide +kernel
theorem dX3_init_9 : decode cX3_init 9 = .ok (.invokespecial 11, 3) := by decide +kernel
theorem dX3_init_12 : decode cX3_init 12 = .ok (.putfield 12, 3) := by decide +kernel
theorem dX3_init_15 : decode cX3_init 15 = .ok (.aload_n 0, 1) := by decide +kernel
theorem dX3_init_16 : decode cX3_init 16 = .ok (.new 9, 3) := by decide +kernel
theorem dX3_init_19 : decode cX3_init 19 = .ok (.dup, 1) := by decide +kernel
theorem dX3_init_20 : decode cX3_init 20 = .ok (.invokespecial 11, 3) := by decide +kernel
theorem dX3_init_23 : decode cX3_init 23 = .ok (.putfield 18, 3) := by decide +kernel
theorem dX3_init_26 : decode cX3_init 26 = .ok (.aload_n 0, 1) := by decide +kernel
theorem dX3_init_27 : decode cX3_init 27 = .ok (.sipush 400, 3) := by decide +kernel
theorem dX3_init_30 : decode cX3_init 30 = .ok (.newarray .int, 2) := by decide +kernel
theorem dX3_init_32 : decode cX3_init 32 = .ok (.putfield 21, 3) := by decide +kernel
theorem dX3_init_35 : decode cX3_init 35 = .ok (.aload_n 0, 1) := by decide +kernel
theorem dX3_init_36 : decode cX3_init 36 = .ok (.bipush 12, 2) := by decide +kernel
theorem dX3_init_38 : decode cX3_init 38 = .ok (.newarray .int, 2) := by decide +kernel
theorem dX3_init_40 : decode cX3_init 40 = .ok (.putfield 25, 3) := by decide +kernel
theorem dX3_init_43 : decode cX3_init 43 = .ok (.aload_n 0, 1) := by decide +kernel
theorem dX3_init_44 : decode cX3_init 44 = .ok (.bipush 12, 2) := by decide +kernel
theorem dX3_init_46 : decode cX3_init 46 = .ok (.newarray .int, 2) := by decide +kernel
theorem dX3_init_48 : decode cX3_init 48 = .ok (.putfield 28, 3) := by decide +kernel
theorem dX3_init_51 : decode cX3_init 51 = .ok (.aload_n 0, 1) := by decide +kernel
theorem dX3_init_52 : decode cX3_init 52 = .ok (.bipush 12, 2) := by decide +kernel
theorem dX3_init_54 : decode cX3_init 54 = .ok (.newarray .boolean, 2) := by decide +kernel
theorem dX3_init_56 : decode cX3_init 56 = .ok (.putfield 31, 3) := by decide +kernel
theorem dX3_init_59 : decode cX3_init 59 = .ok (.return_, 1) := by decide +kernel
theorem ol_X3_3 : Cond.methodLink RX3 3 objectInit ∈ sl_GL := gl_1 (List.mem_of_getElem? (i := 54) rfl) rfl
theorem ck_X3_9 : Cond.classLink RX3 9 RX2 ∈ sl_GL := gl_1 (List.mem_of_getElem? (i := 55) rfl) rfl
theorem cm_X3_11 : Cond.methodLinkNest RX3 11 yX2_init "SpanLifts" ∈ sl_NT := gn_1 (List.mem_of_getElem? (i := 57) rfl) rfl
theorem pf_X3_12 : Cond.fieldLink RX3 12 RX3 (TX3 0).2.1 (TX3 0).2.2.1 ∈ sl_GL := gl_1 (List.mem_of_getElem? (i := 71) rfl) rfl
theorem pf_X3_18 : Cond.fieldLink RX3 18 RX3 (TX3 1).2.1 (TX3 1).2.2.1 ∈ sl_GL := gl_1 (List.mem_of_getElem? (i := 73) rfl) rfl
theorem pf_X3_21 : Cond.fieldLink RX3 21 RX3 (TX3 4).2.1 (TX3 4).2.2.1 ∈ sl_GL := gl_1 (List.mem_of_getElem? (i := 78) rfl) rfl
theorem pf_X3_25 : Cond.fieldLink RX3 25 RX3 (TX3 7).2.1 (TX3 7).2.2.1 ∈ sl_GL := gl_1 (List.mem_of_getElem? (i := 83) rfl) rfl
theorem pf_X3_28 : Cond.fieldLink RX3 28 RX3 (TX3 8).2.1 (TX3 8).2.2.1 ∈ sl_GL := gl_1 (List.mem_of_getElem? (i := 84) rfl) rfl
theorem pf_X3_31 : Cond.fieldLink RX3 31 RX3 (TX3 9).2.1 (TX3 9).2.2.1 ∈ sl_GL := gl_1 (List.mem_of_getElem? (i := 85) rfl) rfl
abbrev iX8 : sl_F := (0, RX8, yX8_init, cX8_init, 1, none, 2, 40)
theorem icX8 : Cond.code iX8.nm iX8.cd iX8.nL iX8.rt ∈ sl_GL := gl_1 (List.mem_of_getElem? (i := 196) rfl) rfl
theorem imX8 : Cond.instanceMethod iX8.nm ∈ sl_GL := gl_1 (List.mem_of_getElem? (i := 195) rfl) rfl
theorem iiX8 : Cond.initialized RX8 ∈ sl_GL := gl_1 (List.mem_of_getElem? (i := 7) rfl) rfl
theorem isX8 : Cond.instantiable RX8 7 ∈ sl_GL := gl_1 (List.mem_of_getElem? (i := 193) rfl) rfl
theorem ipX8 : iX8.nm.cls ≠ "java/lang/invoke/MethodHandle" ∧ iX8.nm.cls ≠ "java/lang/invoke/VarHandle" ∧ (parseMethodDescriptor iX8.nm.desc).map (fun d => d.parameters.length) = some 0 := by decide +kernel
theorem idX8 : ∀ j, j < 7 → defaultValue (tyX8 j) = shV 0 (sl_isr 8 j) 0 := by decide +kernel
theorem dX8_init_0 : decode cX8_init 0 = .ok (.aload_n 0, 1) := by decide +kernel
theorem dX8_init_1 : decode cX8_init 1 = .ok (.invokespecial 3, 3) := by decide +kernel
theorem dX8_init_4 : decode cX8_init 4 = .ok (.aload_n 0, 1) := by decide +kernel
theorem dX8_init_5 : decode cX8_init 5 = .ok (.new 9, 3) := by decide +kernel
theorem dX8_init_8 : decode cX8_init 8 = .ok (.dup, 1) := by decide +kernel
theorem dX8_init_9 : decode cX8_init 9 = .ok (.invokespecial 11, 3) := by decide +kernel
theorem dX8_init_12 : decode cX8_init 12 = .ok (.putfield 12, 3) := by decide +kernel
theorem dX8_init_15 : decode cX8_init 15 = .ok (.aload_n 0, 1) := by decide +kernel
theorem dX8_init_16 : decode cX8_init 16 = .ok (.bipush 8, 2) := by decide +kernel
theorem dX8_init_18 : decode cX8_init 18 = .ok (.newarray .int, 2) := by decide +kernel
theorem dX8_init_20 : decode cX8_init 20 = .ok (.putfield 18, 3) := by decide +kernel
theorem dX8_init_23 : decode cX8_init 23 = .ok (.aload_n 0, 1) := by decide +kernel
theorem dX8_init_24 : decode cX8_init 24 = .ok (.bipush 40, 2) := by decide +kernel
theorem dX8_init_26 : decode cX8_init 26 = .ok (.newarray .int, 2) := by decide +kernel
theorem dX8_init_28 : decode cX8_init 28 = .ok (.putfield 22, 3) := by decide +kernel
theorem dX8_init_31 : decode cX8_init 31 = .ok (.aload_n 0, 1) := by decide +kernel
theorem dX8_init_32 : decode cX8_init 32 = .ok (.bipush 40, 2) := by decide +kernel
theorem dX8_init_34 : decode cX8_init 34 = .ok (.newarray .int, 2) := by decide +kernel
theorem dX8_init_36 : decode cX8_init 36 = .ok (.putfield 25, 3) := by decide +kernel
theorem dX8_init_39 : decode cX8_init 39 = .ok (.return_, 1) := by decide +kernel
theorem ol_X8_3 : Cond.methodLink RX8 3 objectInit ∈ sl_GL := gl_1 (List.mem_of_getElem? (i := 197) rfl) rfl
theorem ck_X8_9 : Cond.classLink RX8 9 RX6 ∈ sl_GL := gl_1 (List.mem_of_getElem? (i := 198) rfl) rfl
theorem cm_X8_11 : Cond.methodLinkNest RX8 11 yX6_init "SpanLifts" ∈ sl_NT := gn_1 (List.mem_of_getElem? (i := 199) rfl) rfl
theorem pf_X8_12 : Cond.fieldLink RX8 12 RX8 (TX8 0).2.1 (TX8 0).2.2.1 ∈ sl_GL := gl_1 (List.mem_of_getElem? (i := 200) rfl) rfl
theorem pf_X8_18 : Cond.fieldLink RX8 18 RX8 (TX8 1).2.1 (TX8 1).2.2.1 ∈ sl_GL := gl_1 (List.mem_of_getElem? (i := 201) rfl) rfl
theorem pf_X8_22 : Cond.fieldLink RX8 22 RX8 (TX8 3).2.1 (TX8 3).2.2.1 ∈ sl_GL := gl_1 (List.mem_of_getElem? (i := 203) rfl) rfl
theorem pf_X8_25 : Cond.fieldLink RX8 25 RX8 (TX8 4).2.1 (TX8 4).2.2.1 ∈ sl_GL := gl_1 (List.mem_of_getElem? (i := 205) rfl) rfl
abbrev iX7 : sl_F := (0, RX7, yX7_init, cX7_init, 2, none, 3, 60)
theorem icX7 : Cond.code iX7.nm iX7.cd iX7.nL iX7.rt ∈ sl_GL := gl_1 (List.mem_of_getElem? (i := 227) rfl) rfl
theorem imX7 : Cond.instanceMethod iX7.nm ∈ sl_GL := gl_1 (List.mem_of_getElem? (i := 226) rfl) rfl
theorem iiX7 : Cond.initialized RX7 ∈ sl_GL := gl_1 (List.mem_of_getElem? (i := 8) rfl) rfl
theorem isX7 : Cond.instantiable RX7 4 ∈ sl_GL := gl_1 (List.mem_of_getElem? (i := 224) rfl) rfl
theorem ipX7 : iX7.nm.cls ≠ "java/lang/invoke/MethodHandle" ∧ iX7.nm.cls ≠ "java/lang/invoke/VarHandle" ∧ (parseMethodDescriptor iX7.nm.desc).map (fun d => d.parameters.length) = some 0 := by decide +kernel
theorem idX7 : ∀ j, j < 4 → defaultValue (tyX7 j) = shV 0 (sl_isr 7 j) 0 := by decide +kernel
theorem dX7_init_0 : decode cX7_init 0 = .ok (.aload_n 0, 1) := by decide +kernel
theorem dX7_init_1 : decode cX7_init 1 = .ok (.invokespecial 3, 3) := by decide +kernel
theorem dX7_init_4 : decode cX7_init 4 = .ok (.aload_n 0, 1) := by decide +kernel
theorem dX7_init_5 : decode cX7_init 5 = .ok (.new 9, 3) := by decide +kernel
theorem dX7_init_8 : decode cX7_init 8 = .ok (.dup, 1) := by decide +kernel
theorem dX7_init_9 : decode cX7_init 9 = .ok (.invokespecial 11, 3) := by decide +kernel
theorem dX7_init_12 : decode cX7_init 12 = .ok (.putfield 12, 3) := by decide +kernel
theorem dX7_init_15 : decode cX7_init 15 = .ok (.aload_n 0, 1) := by decide +kernel
theorem dX7_init_16 : decode cX7_init 16 = .ok (.iconst 3, 1) := by decide +kernel
theorem dX7_init_17 : decode cX7_init 17 = .ok (.anewarray 18, 3) := by decide +kernel
theorem dX7_init_20 : decode cX7_init 20 = .ok (.putfield 20, 3) := by decide +kernel
theorem dX7_init_23 : decode cX7_init 23 = .ok (.aload_n 0, 1) := by decide +kernel
theorem dX7_init_24 : decode cX7_init 24 = .ok (.bipush 40, 2) := by decide +kernel
theorem dX7_init_26 : decode cX7_init 26 = .ok (.newarray .int, 2) := by decide +kernel
theorem dX7_init_28 : decode cX7_init 28 = .ok (.putfield 24, 3) := by decide +kernel
theorem dX7_init_31 : decode cX7_init 31 = .ok (.iconst 0, 1) := by decide +kernel
theorem dX7_init_32 : decode cX7_init 32 = .ok (.istore_n 1, 1) := by decide +kernel
theorem dX7_init_33 : decode cX7_init 33 = .ok (.iload_n 1, 1) := by decide +kernel
theorem dX7_init_34 : decode cX7_init 34 = .ok (.iconst 3, 1) := by decide +kernel
theorem dX7_init_35 : decode cX7_init 35 = .ok (.if_icmp .ge 22, 3) := by decide +kernel
theorem dX7_init_38 : decode cX7_init 38 = .ok (.aload_n 0, 1) := by decide +kernel
theorem dX7_init_39 : decode cX7_init 39 = .ok (.getfield 20, 3) := by decide +kernel
theorem dX7_init_42 : decode cX7_init 42 = .ok (.iload_n 1, 1) := by decide +kernel
theorem dX7_init_43 : decode cX7_init 43 = .ok (.new 18, 3) := by decide +kernel
theorem dX7_init_46 : decode cX7_init 46 = .ok (.dup, 1) := by decide +kernel
theorem dX7_init_47 : decode cX7_init 47 = .ok (.invokespecial 28, 3) := by decide +kernel
theorem dX7_init_50 : decode cX7_init 50 = .ok (.aastore, 1) := by decide +kernel
theorem dX7_init_51 : decode cX7_init 51 = .ok (.iinc 1 1, 3) := by decide +kernel
theorem dX7_init_54 : decode cX7_init 54 = .ok (.goto (-21), 3) := by decide +kernel
theorem dX7_init_57 : decode cX7_init 57 = .ok (.return_, 1) := by decide +kernel
theorem ol_X7_3 : Cond.methodLink RX7 3 objectInit ∈ sl_GL := gl_1 (List.mem_of_getElem? (i := 228) rfl) rfl
theorem ck_X7_9 : Cond.classLink RX7 9 RX0 ∈ sl_GL := gl_1 (List.mem_of_getElem? (i := 229) rfl) rfl
theorem cm_X7_11 : Cond.methodLinkNest RX7 11 yX0_init "SpanLifts" ∈ sl_NT := gn_1 (List.mem_of_getElem? (i := 231) rfl) rfl
theorem pf_X7_12 : Cond.fieldLink RX7 12 RX7 (TX7 0).2.1 (TX7 0).2.2.1 ∈ sl_GL := gl_2 (List.mem_of_getElem? (i := 103) rfl) rfl
theorem ck_X7_18 : Cond.classLink RX7 18 RX5 ∈ sl_GL := gl_2 (List.mem_of_getElem? (i := 68) rfl) rfl
theorem pf_X7_20 : Cond.fieldLink RX7 20 RX7 (TX7 1).2.1 (TX7 1).2.2.1 ∈ sl_GL := gl_2 (List.mem_of_getElem? (i := 107) rfl) rfl
theorem pf_X7_24 : Cond.fieldLink RX7 24 RX7 (TX7 3).2.1 (TX7 3).2.2.1 ∈ sl_GL := gl_2 (List.mem_of_getElem? (i := 112) rfl) rfl
theorem cm_X7_28 : Cond.methodLinkNest RX7 28 yX5_init "SpanLifts" ∈ sl_NT := gn_2 (List.mem_of_getElem? (i := 71) rfl) rfl
abbrev iX9 : sl_F := (0, RX9, yX9_init, cX9_init, 2, none, 4, 81)
theorem icX9 : Cond.code iX9.nm iX9.cd iX9.nL iX9.rt ∈ sl_GL := gl_1 (List.mem_of_getElem? (i := 19) rfl) rfl
theorem imX9 : Cond.instanceMethod iX9.nm ∈ sl_GL := gl_1 (List.mem_of_getElem? (i := 18) rfl) rfl
theorem iiX9 : Cond.initialized RX9 ∈ sl_GL := gl_1 (List.mem_of_getElem? (i := 1) rfl) rfl
theorem isX9 : Cond.instantiable RX9 11 ∈ sl_GL := gl_1 (List.mem_of_getElem? (i := 16) rfl) rfl
theorem ipX9 : iX9.nm.cls ≠ "java/lang/invoke/MethodHandle" ∧ iX9.nm.cls ≠ "java/lang/invoke/VarHandle" ∧ (parseMethodDescriptor iX9.nm.desc).map (fun d => d.parameters.length) = some 0 := by decide +kernel
theorem idX9 : ∀ j, j < 11 → defaultValue (tyX9 j) = shV 0 (sl_isr 9 j) 0 := by decide +kernel
theorem dX9_init_0 : decode cX9_init 0 = .ok (.aload_n 0, 1) := by decide +kernel
theorem dX9_init_1 : decode cX9_init 1 = .ok (.invokespecial 3, 3) := by decide +kernel
theorem dX9_init_4 : decode cX9_init 4 = .ok (.aload_n 0, 1) := by decide +kernel
theorem dX9_init_5 : decode cX9_init 5 = .ok (.sipush 160, 3) := by decide +kernel
theorem dX9_init_8 : decode cX9_init 8 = .ok (.newarray .int, 2) := by decide +kernel
theorem dX9_init_10 : decode cX9_init 10 = .ok (.putfield 9, 3) := by decide +kernel
theorem dX9_init_13 : decode cX9_init 13 = .ok (.aload_n 0, 1) := by decide +kernel
theorem dX9_init_14 : decode cX9_init 14 = .ok (.iconst 3, 1) := by decide +kernel
theorem dX9_init_15 : decode cX9_init 15 = .ok (.newarray .int, 2) := by decide +kernel
theorem dX9_init_17 : decode cX9_init 17 = .ok (.putfield 13, 3) := by decide +kernel
theorem dX9_init_20 : decode cX9_init 20 = .ok (.aload_n 0, 1) := by decide +kernel
theorem dX9_init_21 : decode cX9_init 21 = .ok (.bipush 8, 2) := by decide +kernel
theorem dX9_init_23 : decode cX9_init 23 = .ok (.anewarray 16, 3) := by decide +kernel
theorem dX9_init_26 : decode cX9_init 26 = .ok (.putfield 18, 3) := by decide +kernel
theorem dX9_init_29 : decode cX9_init 29 = .ok (.aload_n 0, 1) := by decide +kernel
theorem dX9_init_30 : decode cX9_init 30 = .ok (.new 22, 3) := by decide +kernel
theorem dX9_init_33 : decode cX9_init 33 = .ok (.dup, 1) := by decide +kernel
theorem dX9_init_34 : decode cX9_init 34 = .ok (.invokespecial 24, 3) := by decide +kernel
theorem dX9_init_37 : decode cX9_init 37 = .ok (.putfield 25, 3) := by decide +kernel
theorem dX9_init_40 : decode cX9_init 40 = .ok (.aload_n 0, 1) := by decide +kernel
theorem dX9_init_41 : decode cX9_init 41 = .ok (.new 29, 3) := by decide +kernel
theorem dX9_init_44 : decode cX9_init 44 = .ok (.dup, 1) := by decide +kernel
theorem dX9_init_45 : decode cX9_init 45 = .ok (.invokespecial 31, 3) := by decide +kernel
theorem dX9_init_48 : decode cX9_init 48 = .ok (.putfield 32, 3) := by decide +kernel
theorem dX9_init_51 : decode cX9_init 51 = .ok (.aload_n 0, 1) := by decide +kernel
theorem dX9_init_52 : decode cX9_init 52 = .ok (.new 36, 3) := by decide +kernel
theorem dX9_init_55 : decode cX9_init 55 = .ok (.dup, 1) := by decide +kernel
theorem dX9_init_56 : decode cX9_init 56 = .ok (.invokespecial 38, 3) := by decide +kernel
theorem dX9_init_59 : decode cX9_init 59 = .ok (.putfield 39, 3) := by decide +kernel
theorem dX9_init_62 : decode cX9_init 62 = .ok (.aload_n 0, 1) := by decide +kernel
theorem dX9_init_63 : decode cX9_init 63 = .ok (.new 43, 3) := by decide +kernel
theorem dX9_init_66 : decode cX9_init 66 = .ok (.dup, 1) := by decide +kernel
theorem dX9_init_67 : decode cX9_init 67 = .ok (.invokespecial 45, 3) := by decide +kernel
theorem dX9_init_70 : decode cX9_init 70 = .ok (.putfield 46, 3) := by decide +kernel
theorem dX9_init_73 : decode cX9_init 73 = .ok (.aload_n 0, 1) := by decide +kernel
theorem dX9_init_74 : decode cX9_init 74 = .ok (.new 50, 3) := by decide +kernel
theorem dX9_init_77 : decode cX9_init 77 = .ok (.dup, 1) := by decide +kernel
theorem dX9_init_78 : decode cX9_init 78 = .ok (.invokespecial 52, 3) := by decide +kernel
theorem dX9_init_81 : decode cX9_init 81 = .ok (.putfield 53, 3) := by decide +kernel
theorem dX9_init_84 : decode cX9_init 84 = .ok (.iconst 0, 1) := by decide +kernel
theorem dX9_init_85 : decode cX9_init 85 = .ok (.istore_n 1, 1) := by decide +kernel
theorem dX9_init_86 : decode cX9_init 86 = .ok (.iload_n 1, 1) := by decide +kernel
theorem dX9_init_87 : decode cX9_init 87 = .ok (.bipush 8, 2) := by decide +kernel
theorem dX9_init_89 : decode cX9_init 89 = .ok (.if_icmp .ge 22, 3) := by decide +kernel
theorem dX9_init_92 : decode cX9_init 92 = .ok (.aload_n 0, 1) := by decide +kernel
theorem dX9_init_93 : decode cX9_init 93 = .ok (.getfield 18, 3) := by decide +kernel
theorem dX9_init_96 : decode cX9_init 96 = .ok (.iload_n 1, 1) := by decide +kernel
theorem dX9_init_97 : decode cX9_init 97 = .ok (.new 16, 3) := by decide +kernel
theorem dX9_init_100 : decode cX9_init 100 = .ok (.dup, 1) := by decide +kernel
theorem dX9_init_101 : decode cX9_init 101 = .ok (.invokespecial 57, 3) := by decide +kernel
theorem dX9_init_104 : decode cX9_init 104 = .ok (.aastore, 1) := by decide +kernel
theorem dX9_init_105 : decode cX9_init 105 = .ok (.iinc 1 1, 3) := by decide +kernel
theorem dX9_init_108 : decode cX9_init 108 = .ok (.goto (-22), 3) := by decide +kernel
theorem dX9_init_111 : decode cX9_init 111 = .ok (.return_, 1) := by decide +kernel
theorem ol_X9_3 : Cond.methodLink RX9 3 objectInit ∈ sl_GL := gl_1 (List.mem_of_getElem? (i := 20) rfl) rfl
theorem pf_X9_9 : Cond.fieldLink RX9 9 RX9 (TX9 0).2.1 (TX9 0).2.2.1 ∈ sl_GL := gl_2 (List.mem_of_getElem? (i := 122) rfl) rfl
theorem pf_X9_13 : Cond.fieldLink RX9 13 RX9 (TX9 2).2.1 (TX9 2).2.2.1 ∈ sl_GL := gl_2 (List.mem_of_getElem? (i := 124) rfl) rfl
theorem ck_X9_16 : Cond.classLink RX9 16 RX7 ∈ sl_GL := gl_1 (List.mem_of_getElem? (i := 23) rfl) rfl
theorem pf_X9_18 : Cond.fieldLink RX9 18 RX9 (TX9 3).2.1 (TX9 3).2.2.1 ∈ sl_GL := gl_2 (List.mem_of_getElem? (i := 125) rfl) rfl
theorem ck_X9_22 : Cond.classLink RX9 22 RX4 ∈ sl_GL := gl_1 (List.mem_of_getElem? (i := 25) rfl) rfl
theorem cm_X9_24 : Cond.methodLinkNest RX9 24 yX4_init "SpanLifts" ∈ sl_NT := gn_1 (List.mem_of_getElem? (i := 27) rfl) rfl
theorem pf_X9_25 : Cond.fieldLink RX9 25 RX9 (TX9 6).2.1 (TX9 6).2.2.1 ∈ sl_GL := gl_2 (List.mem_of_getElem? (i := 128) rfl) rfl
theorem ck_X9_29 : Cond.classLink RX9 29 RX3 ∈ sl_GL := gl_1 (List.mem_of_getElem? (i := 49) rfl) rfl
theorem cm_X9_31 : Cond.methodLinkNest RX9 31 yX3_init "SpanLifts" ∈ sl_NT := gn_1 (List.mem_of_getElem? (i := 51) rfl) rfl
theorem pf_X9_32 : Cond.fieldLink RX9 32 RX9 (TX9 7).2.1 (TX9 7).2.2.1 ∈ sl_GL := gl_2 (List.mem_of_getElem? (i := 129) rfl) rfl
theorem ck_X9_36 : Cond.classLink RX9 36 RX1 ∈ sl_GL := gl_1 (List.mem_of_getElem? (i := 108) rfl) rfl
theorem cm_X9_38 : Cond.methodLinkNest RX9 38 yX1_init "SpanLifts" ∈ sl_NT := gn_1 (List.mem_of_getElem? (i := 110) rfl) rfl
theorem pf_X9_39 : Cond.fieldLink RX9 39 RX9 (TX9 8).2.1 (TX9 8).2.2.1 ∈ sl_GL := gl_2 (List.mem_of_getElem? (i := 130) rfl) rfl
theorem ck_X9_43 : Cond.classLink RX9 43 RX6 ∈ sl_GL := gl_1 (List.mem_of_getElem? (i := 134) rfl) rfl
theorem cm_X9_45 : Cond.methodLinkNest RX9 45 yX6_init "SpanLifts" ∈ sl_NT := gn_1 (List.mem_of_getElem? (i := 136) rfl) rfl
theorem pf_X9_46 : Cond.fieldLink RX9 46 RX9 (TX9 9).2.1 (TX9 9).2.2.1 ∈ sl_GL := gl_2 (List.mem_of_getElem? (i := 131) rfl) rfl
theorem ck_X9_50 : Cond.classLink RX9 50 RX8 ∈ sl_GL := gl_1 (List.mem_of_getElem? (i := 192) rfl) rfl
theorem cm_X9_52 : Cond.methodLinkNest RX9 52 yX8_init "SpanLifts" ∈ sl_NT := gn_1 (List.mem_of_getElem? (i := 194) rfl) rfl
theorem pf_X9_53 : Cond.fieldLink RX9 53 RX9 (TX9 10).2.1 (TX9 10).2.2.1 ∈ sl_GL := gl_2 (List.mem_of_getElem? (i := 132) rfl) rfl
theorem cm_X9_57 : Cond.methodLink RX9 57 yX7_init ∈ sl_GL := gl_1 (List.mem_of_getElem? (i := 225) rfl) rfl
abbrev iX10 : sl_F := (1, RX10, yX10_init, cX10_init, 1, none, 1, 20)
theorem icX10 : Cond.code iX10.nm iX10.cd iX10.nL iX10.rt ∈ sl_GL := gl_4 (List.mem_of_getElem? (i := 159) rfl) rfl
theorem imX10 : Cond.instanceMethod iX10.nm ∈ sl_GL := gl_4 (List.mem_of_getElem? (i := 158) rfl) rfl
theorem iiX10 : Cond.initialized RX10 ∈ sl_GL := gl_1 (List.mem_of_getElem? (i := 11) rfl) rfl
theorem isX10 : Cond.instantiable RX10 64 ∈ sl_GL := gl_4 (List.mem_of_getElem? (i := 156) rfl) rfl
theorem ipX10 : iX10.nm.cls ≠ "java/lang/invoke/MethodHandle" ∧ iX10.nm.cls ≠ "java/lang/invoke/VarHandle" ∧ (parseMethodDescriptor iX10.nm.desc).map (fun d => d.parameters.length) = some 0 := by decide +kernel
theorem idX10 : ∀ j, j < 64 → defaultValue (tyX10 j) = shV 0 (sl_isr 10 j) 0 := by decide +kernel
theorem dX10_init_0 : decode cX10_init 0 = .ok (.aload_n 0, 1) := by decide +kernel
theorem dX10_init_1 : decode cX10_init 1 = .ok (.invokespecial 1, 3) := by decide +kernel
theorem dX10_init_4 : decode cX10_init 4 = .ok (.aload_n 0, 1) := by decide +kernel
theorem dX10_init_5 : decode cX10_init 5 = .ok (.sipush 990, 3) := by decide +kernel
theorem dX10_init_8 : decode cX10_init 8 = .ok (.newarray .int, 2) := by decide +kernel
theorem dX10_init_10 : decode cX10_init 10 = .ok (.putfield 7, 3) := by decide +kernel
theorem dX10_init_13 : decode cX10_init 13 = .ok (.aload_n 0, 1) := by decide +kernel
theorem dX10_init_14 : decode cX10_init 14 = .ok (.sipush 5940, 3) := by decide +kernel
theorem dX10_init_17 : decode cX10_init 17 = .ok (.newarray .int, 2) := by decide +kernel
theorem dX10_init_19 : decode cX10_init 19 = .ok (.putfield 13, 3) := by decide +kernel
theorem dX10_init_22 : decode cX10_init 22 = .ok (.aload_n 0, 1) := by decide +kernel
theorem dX10_init_23 : decode cX10_init 23 = .ok (.sipush 160, 3) := by decide +kernel
theorem dX10_init_26 : decode cX10_init 26 = .ok (.newarray .int, 2) := by decide +kernel
theorem dX10_init_28 : decode cX10_init 28 = .ok (.putfield 16, 3) := by decide +kernel
theorem dX10_init_31 : decode cX10_init 31 = .ok (.aload_n 0, 1) := by decide +kernel
theorem dX10_init_32 : decode cX10_init 32 = .ok (.sipush 990, 3) := by decide +kernel
theorem dX10_init_35 : decode cX10_init 35 = .ok (.newarray .int, 2) := by decide +kernel
theorem dX10_init_37 : decode cX10_init 37 = .ok (.putfield 19, 3) := by decide +kernel
theorem dX10_init_40 : decode cX10_init 40 = .ok (.aload_n 0, 1) := by decide +kernel
theorem dX10_init_41 : decode cX10_init 41 = .ok (.bipush 41, 2) := by decide +kernel
theorem dX10_init_43 : decode cX10_init 43 = .ok (.newarray .int, 2) := by decide +kernel
theorem dX10_init_45 : decode cX10_init 45 = .ok (.putfield 22, 3) := by decide +kernel
theorem dX10_init_48 : decode cX10_init 48 = .ok (.aload_n 0, 1) := by decide +kernel
theorem dX10_init_49 : decode cX10_init 49 = .ok (.bipush 41, 2) := by decide +kernel
theorem dX10_init_51 : decode cX10_init 51 = .ok (.newarray .int, 2) := by decide +kernel
theorem dX10_init_53 : decode cX10_init 53 = .ok (.putfield 25, 3) := by decide +kernel
theorem dX10_init_56 : decode cX10_init 56 = .ok (.aload_n 0, 1) := by decide +kernel
theorem dX10_init_57 : decode cX10_init 57 = .ok (.iconst 2, 1) := by decide +kernel
theorem dX10_init_58 : decode cX10_init 58 = .ok (.newarray .int, 2) := by decide +kernel
theorem dX10_init_60 : decode cX10_init 60 = .ok (.putfield 28, 3) := by decide +kernel
theorem dX10_init_63 : decode cX10_init 63 = .ok (.aload_n 0, 1) := by decide +kernel
theorem dX10_init_64 : decode cX10_init 64 = .ok (.bipush 82, 2) := by decide +kernel
theorem dX10_init_66 : decode cX10_init 66 = .ok (.newarray .int, 2) := by decide +kernel
theorem dX10_init_68 : decode cX10_init 68 = .ok (.putfield 31, 3) := by decide +kernel
theorem dX10_init_71 : decode cX10_init 71 = .ok (.aload_n 0, 1) := by decide +kernel
theorem dX10_init_72 : decode cX10_init 72 = .ok (.bipush 82, 2) := by decide +kernel
theorem dX10_init_74 : decode cX10_init 74 = .ok (.newarray .int, 2) := by decide +kernel
theorem dX10_init_76 : decode cX10_init 76 = .ok (.putfield 34, 3) := by decide +kernel
theorem dX10_init_79 : decode cX10_init 79 = .ok (.aload_n 0, 1) := by decide +kernel
theorem dX10_init_80 : decode cX10_init 80 = .ok (.bipush 82, 2) := by decide +kernel
theorem dX10_init_82 : decode cX10_init 82 = .ok (.newarray .int, 2) := by decide +kernel
theorem dX10_init_84 : decode cX10_init 84 = .ok (.putfield 37, 3) := by decide +kernel
theorem dX10_init_87 : decode cX10_init 87 = .ok (.aload_n 0, 1) := by decide +kernel
theorem dX10_init_88 : decode cX10_init 88 = .ok (.bipush 82, 2) := by decide +kernel
theorem dX10_init_90 : decode cX10_init 90 = .ok (.newarray .int, 2) := by decide +kernel
theorem dX10_init_92 : decode cX10_init 92 = .ok (.putfield 40, 3) := by decide +kernel
theorem dX10_init_95 : decode cX10_init 95 = .ok (.aload_n 0, 1) := by decide +kernel
theorem dX10_init_96 : decode cX10_init 96 = .ok (.bipush 82, 2) := by decide +kernel
theorem dX10_init_98 : decode cX10_init 98 = .ok (.newarray .int, 2) := by decide +kernel
theorem dX10_init_100 : decode cX10_init 100 = .ok (.putfield 43, 3) := by decide +kernel
theorem dX10_init_103 : decode cX10_init 103 = .ok (.aload_n 0, 1) := by decide +kernel
theorem dX10_init_104 : decode cX10_init 104 = .ok (.bipush 82, 2) := by decide +kernel
theorem dX10_init_106 : decode cX10_init 106 = .ok (.newarray .int, 2) := by decide +kernel
theorem dX10_init_108 : decode cX10_init 108 = .ok (.putfield 46, 3) := by decide +kernel
theorem dX10_init_111 : decode cX10_init 111 = .ok (.aload_n 0, 1) := by decide +kernel
theorem dX10_init_112 : decode cX10_init 112 = .ok (.bipush 82, 2) := by decide +kernel
theorem dX10_init_114 : decode cX10_init 114 = .ok (.newarray .int, 2) := by decide +kernel
theorem dX10_init_116 : decode cX10_init 116 = .ok (.putfield 49, 3) := by decide +kernel
theorem dX10_init_119 : decode cX10_init 119 = .ok (.aload_n 0, 1) := by decide +kernel
theorem dX10_init_120 : decode cX10_init 120 = .ok (.bipush 82, 2) := by decide +kernel
theorem dX10_init_122 : decode cX10_init 122 = .ok (.newarray .int, 2) := by decide +kernel
theorem dX10_init_124 : decode cX10_init 124 = .ok (.putfield 52, 3) := by decide +kernel
theorem dX10_init_127 : decode cX10_init 127 = .ok (.aload_n 0, 1) := by decide +kernel
theorem dX10_init_128 : decode cX10_init 128 = .ok (.bipush 82, 2) := by decide +kernel
theorem dX10_init_130 : decode cX10_init 130 = .ok (.newarray .int, 2) := by decide +kernel
theorem dX10_init_132 : decode cX10_init 132 = .ok (.putfield 55, 3) := by decide +kernel
theorem dX10_init_135 : decode cX10_init 135 = .ok (.aload_n 0, 1) := by decide +kernel
theorem dX10_init_136 : decode cX10_init 136 = .ok (.sipush 328, 3) := by decide +kernel
theorem dX10_init_139 : decode cX10_init 139 = .ok (.newarray .int, 2) := by decide +kernel
theorem dX10_init_141 : decode cX10_init 141 = .ok (.putfield 58, 3) := by decide +kernel
theorem dX10_init_144 : decode cX10_init 144 = .ok (.aload_n 0, 1) := by decide +kernel
theorem dX10_init_145 : decode cX10_init 145 = .ok (.sipush 328, 3) := by decide +kernel
theorem dX10_init_148 : decode cX10_init 148 = .ok (.newarray .int, 2) := by decide +kernel
theorem dX10_init_150 : decode cX10_init 150 = .ok (.putfield 61, 3) := by decide +kernel
theorem dX10_init_153 : decode cX10_init 153 = .ok (.aload_n 0, 1) := by decide +kernel
theorem dX10_init_154 : decode cX10_init 154 = .ok (.sipush 328, 3) := by decide +kernel
theorem dX10_init_157 : decode cX10_init 157 = .ok (.newarray .int, 2) := by decide +kernel
theorem dX10_init_159 : decode cX10_init 159 = .ok (.putfield 64, 3) := by decide +kernel
theorem dX10_init_162 : decode cX10_init 162 = .ok (.aload_n 0, 1) := by decide +kernel
theorem dX10_init_163 : decode cX10_init 163 = .ok (.sipush 328, 3) := by decide +kernel
theorem dX10_init_166 : decode cX10_init 166 = .ok (.newarray .int, 2) := by decide +kernel
theorem dX10_init_168 : decode cX10_init 168 = .ok (.putfield 67, 3) := by decide +kernel
theorem dX10_init_171 : decode cX10_init 171 = .ok (.aload_n 0, 1) := by decide +kernel
theorem dX10_init_172 : decode cX10_init 172 = .ok (.bipush 82, 2) := by decide +kernel
theorem dX10_init_174 : decode cX10_init 174 = .ok (.newarray .int, 2) := by decide +kernel
theorem dX10_init_176 : decode cX10_init 176 = .ok (.putfield 70, 3) := by decide +kernel
theorem dX10_init_179 : decode cX10_init 179 = .ok (.aload_n 0, 1) := by decide +kernel
theorem dX10_init_180 : decode cX10_init 180 = .ok (.bipush 82, 2) := by decide +kernel
theorem dX10_init_182 : decode cX10_init 182 = .ok (.newarray .int, 2) := by decide +kernel
theorem dX10_init_184 : decode cX10_init 184 = .ok (.putfield 73, 3) := by decide +kernel
theorem dX10_init_187 : decode cX10_init 187 = .ok (.aload_n 0, 1) := by decide +kernel
theorem dX10_init_188 : decode cX10_init 188 = .ok (.iconst 4, 1) := by decide +kernel
theorem dX10_init_189 : decode cX10_init 189 = .ok (.newarray .int, 2) := by decide +kernel
theorem dX10_init_191 : decode cX10_init 191 = .ok (.putfield 76, 3) := by decide +kernel
theorem dX10_init_194 : decode cX10_init 194 = .ok (.aload_n 0, 1) := by decide +kernel
theorem dX10_init_195 : decode cX10_init 195 = .ok (.iconst 4, 1) := by decide +kernel
theorem dX10_init_196 : decode cX10_init 196 = .ok (.newarray .int, 2) := by decide +kernel
theorem dX10_init_198 : decode cX10_init 198 = .ok (.putfield 79, 3) := by decide +kernel
theorem dX10_init_201 : decode cX10_init 201 = .ok (.aload_n 0, 1) := by decide +kernel
theorem dX10_init_202 : decode cX10_init 202 = .ok (.bipush 41, 2) := by decide +kernel
theorem dX10_init_204 : decode cX10_init 204 = .ok (.newarray .boolean, 2) := by decide +kernel
theorem dX10_init_206 : decode cX10_init 206 = .ok (.putfield 82, 3) := by decide +kernel
theorem dX10_init_209 : decode cX10_init 209 = .ok (.aload_n 0, 1) := by decide +kernel
theorem dX10_init_210 : decode cX10_init 210 = .ok (.bipush 41, 2) := by decide +kernel
theorem dX10_init_212 : decode cX10_init 212 = .ok (.newarray .int, 2) := by decide +kernel
theorem dX10_init_214 : decode cX10_init 214 = .ok (.putfield 86, 3) := by decide +kernel
theorem dX10_init_217 : decode cX10_init 217 = .ok (.aload_n 0, 1) := by decide +kernel
theorem dX10_init_218 : decode cX10_init 218 = .ok (.bipush 40, 2) := by decide +kernel
theorem dX10_init_220 : decode cX10_init 220 = .ok (.newarray .int, 2) := by decide +kernel
theorem dX10_init_222 : decode cX10_init 222 = .ok (.putfield 89, 3) := by decide +kernel
theorem dX10_init_225 : decode cX10_init 225 = .ok (.aload_n 0, 1) := by decide +kernel
theorem dX10_init_226 : decode cX10_init 226 = .ok (.bipush 40, 2) := by decide +kernel
theorem dX10_init_228 : decode cX10_init 228 = .ok (.newarray .int, 2) := by decide +kernel
theorem dX10_init_230 : decode cX10_init 230 = .ok (.putfield 92, 3) := by decide +kernel
theorem dX10_init_233 : decode cX10_init 233 = .ok (.aload_n 0, 1) := by decide +kernel
theorem dX10_init_234 : decode cX10_init 234 = .ok (.sipush 320, 3) := by decide +kernel
theorem dX10_init_237 : decode cX10_init 237 = .ok (.newarray .int, 2) := by decide +kernel
theorem dX10_init_239 : decode cX10_init 239 = .ok (.putfield 95, 3) := by decide +kernel
theorem dX10_init_242 : decode cX10_init 242 = .ok (.aload_n 0, 1) := by decide +kernel
theorem dX10_init_243 : decode cX10_init 243 = .ok (.bipush 8, 2) := by decide +kernel
theorem dX10_init_245 : decode cX10_init 245 = .ok (.newarray .int, 2) := by decide +kernel
theorem dX10_init_247 : decode cX10_init 247 = .ok (.putfield 98, 3) := by decide +kernel
theorem dX10_init_250 : decode cX10_init 250 = .ok (.aload_n 0, 1) := by decide +kernel
theorem dX10_init_251 : decode cX10_init 251 = .ok (.bipush 8, 2) := by decide +kernel
theorem dX10_init_253 : decode cX10_init 253 = .ok (.newarray .int, 2) := by decide +kernel
theorem dX10_init_255 : decode cX10_init 255 = .ok (.putfield 101, 3) := by decide +kernel
theorem dX10_init_258 : decode cX10_init 258 = .ok (.aload_n 0, 1) := by decide +kernel
theorem dX10_init_259 : decode cX10_init 259 = .ok (.bipush 8, 2) := by decide +kernel
theorem dX10_init_261 : decode cX10_init 261 = .ok (.newarray .int, 2) := by decide +kernel
theorem dX10_init_263 : decode cX10_init 263 = .ok (.putfield 104, 3) := by decide +kernel
theorem dX10_init_266 : decode cX10_init 266 = .ok (.aload_n 0, 1) := by decide +kernel
theorem dX10_init_267 : decode cX10_init 267 = .ok (.sipush 400, 3) := by decide +kernel
theorem dX10_init_270 : decode cX10_init 270 = .ok (.newarray .int, 2) := by decide +kernel
theorem dX10_init_272 : decode cX10_init 272 = .ok (.putfield 107, 3) := by decide +kernel
theorem dX10_init_275 : decode cX10_init 275 = .ok (.aload_n 0, 1) := by decide +kernel
theorem dX10_init_276 : decode cX10_init 276 = .ok (.bipush 12, 2) := by decide +kernel
theorem dX10_init_278 : decode cX10_init 278 = .ok (.newarray .int, 2) := by decide +kernel
theorem dX10_init_280 : decode cX10_init 280 = .ok (.putfield 110, 3) := by decide +kernel
theorem dX10_init_283 : decode cX10_init 283 = .ok (.aload_n 0, 1) := by decide +kernel
theorem dX10_init_284 : decode cX10_init 284 = .ok (.bipush 12, 2) := by decide +kernel
theorem dX10_init_286 : decode cX10_init 286 = .ok (.newarray .int, 2) := by decide +kernel
theorem dX10_init_288 : decode cX10_init 288 = .ok (.putfield 113, 3) := by decide +kernel
theorem dX10_init_291 : decode cX10_init 291 = .ok (.aload_n 0, 1) := by decide +kernel
theorem dX10_init_292 : decode cX10_init 292 = .ok (.bipush 12, 2) := by decide +kernel
theorem dX10_init_294 : decode cX10_init 294 = .ok (.newarray .int, 2) := by decide +kernel
theorem dX10_init_296 : decode cX10_init 296 = .ok (.putfield 116, 3) := by decide +kernel
theorem dX10_init_299 : decode cX10_init 299 = .ok (.return_, 1) := by decide +kernel
theorem ol_X10_1 : Cond.methodLink RX10 1 objectInit ∈ sl_GL := gl_4 (List.mem_of_getElem? (i := 160) rfl) rfl
theorem pf_X10_7 : Cond.fieldLink RX10 7 RX10 (TX10 0).2.1 (TX10 0).2.2.1 ∈ sl_GL := gl_4 (List.mem_of_getElem? (i := 161) rfl) rfl
theorem pf_X10_13 : Cond.fieldLink RX10 13 RX10 (TX10 1).2.1 (TX10 1).2.2.1 ∈ sl_GL := gl_4 (List.mem_of_getElem? (i := 162) rfl) rfl
theorem pf_X10_16 : Cond.fieldLink RX10 16 RX10 (TX10 8).2.1 (TX10 8).2.2.1 ∈ sl_GL := gl_4 (List.mem_of_getElem? (i := 169) rfl) rfl
theorem pf_X10_19 : Cond.fieldLink RX10 19 RX10 (TX10 11).2.1 (TX10 11).2.2.1 ∈ sl_GL := gl_4 (List.mem_of_getElem? (i := 172) rfl) rfl
theorem pf_X10_22 : Cond.fieldLink RX10 22 RX10 (TX10 13).2.1 (TX10 13).2.2.1 ∈ sl_GL := gl_4 (List.mem_of_getElem? (i := 174) rfl) rfl
theorem pf_X10_25 : Cond.fieldLink RX10 25 RX10 (TX10 14).2.1 (TX10 14).2.2.1 ∈ sl_GL := gl_4 (List.mem_of_getElem? (i := 175) rfl) rfl
theorem pf_X10_28 : Cond.fieldLink RX10 28 RX10 (TX10 15).2.1 (TX10 15).2.2.1 ∈ sl_GL := gl_4 (List.mem_of_getElem? (i := 176) rfl) rfl
theorem pf_X10_31 : Cond.fieldLink RX10 31 RX10 (TX10 16).2.1 (TX10 16).2.2.1 ∈ sl_GL := gl_4 (List.mem_of_getElem? (i := 177) rfl) rfl
theorem pf_X10_34 : Cond.fieldLink RX10 34 RX10 (TX10 17).2.1 (TX10 17).2.2.1 ∈ sl_GL := gl_4 (List.mem_of_getElem? (i := 178) rfl) rfl
theorem pf_X10_37 : Cond.fieldLink RX10 37 RX10 (TX10 18).2.1 (TX10 18).2.2.1 ∈ sl_GL := gl_4 (List.mem_of_getElem? (i := 179) rfl) rfl
theorem pf_X10_40 : Cond.fieldLink RX10 40 RX10 (TX10 19).2.1 (TX10 19).2.2.1 ∈ sl_GL := gl_4 (List.mem_of_getElem? (i := 180) rfl) rfl
theorem pf_X10_43 : Cond.fieldLink RX10 43 RX10 (TX10 20).2.1 (TX10 20).2.2.1 ∈ sl_GL := gl_4 (List.mem_of_getElem? (i := 181) rfl) rfl
theorem pf_X10_46 : Cond.fieldLink RX10 46 RX10 (TX10 21).2.1 (TX10 21).2.2.1 ∈ sl_GL := gl_4 (List.mem_of_getElem? (i := 182) rfl) rfl
theorem pf_X10_49 : Cond.fieldLink RX10 49 RX10 (TX10 22).2.1 (TX10 22).2.2.1 ∈ sl_GL := gl_4 (List.mem_of_getElem? (i := 183) rfl) rfl
theorem pf_X10_52 : Cond.fieldLink RX10 52 RX10 (TX10 23).2.1 (TX10 23).2.2.1 ∈ sl_GL := gl_4 (List.mem_of_getElem? (i := 184) rfl) rfl
theorem pf_X10_55 : Cond.fieldLink RX10 55 RX10 (TX10 24).2.1 (TX10 24).2.2.1 ∈ sl_GL := gl_4 (List.mem_of_getElem? (i := 185) rfl) rfl
theorem pf_X10_58 : Cond.fieldLink RX10 58 RX10 (TX10 25).2.1 (TX10 25).2.2.1 ∈ sl_GL := gl_4 (List.mem_of_getElem? (i := 186) rfl) rfl
theorem pf_X10_61 : Cond.fieldLink RX10 61 RX10 (TX10 26).2.1 (TX10 26).2.2.1 ∈ sl_GL := gl_4 (List.mem_of_getElem? (i := 187) rfl) rfl
theorem pf_X10_64 : Cond.fieldLink RX10 64 RX10 (TX10 27).2.1 (TX10 27).2.2.1 ∈ sl_GL := gl_4 (List.mem_of_getElem? (i := 188) rfl) rfl
theorem pf_X10_67 : Cond.fieldLink RX10 67 RX10 (TX10 28).2.1 (TX10 28).2.2.1 ∈ sl_GL := gl_4 (List.mem_of_getElem? (i := 189) rfl) rfl
theorem pf_X10_70 : Cond.fieldLink RX10 70 RX10 (TX10 29).2.1 (TX10 29).2.2.1 ∈ sl_GL := gl_4 (List.mem_of_getElem? (i := 190) rfl) rfl
theorem pf_X10_73 : Cond.fieldLink RX10 73 RX10 (TX10 30).2.1 (TX10 30).2.2.1 ∈ sl_GL := gl_4 (List.mem_of_getElem? (i := 191) rfl) rfl
theorem pf_X10_76 : Cond.fieldLink RX10 76 RX10 (TX10 38).2.1 (TX10 38).2.2.1 ∈ sl_GL := gl_4 (List.mem_of_getElem? (i := 199) rfl) rfl
theorem pf_X10_79 : Cond.fieldLink RX10 79 RX10 (TX10 39).2.1 (TX10 39).2.2.1 ∈ sl_GL := gl_4 (List.mem_of_getElem? (i := 200) rfl) rfl
theorem pf_X10_82 : Cond.fieldLink RX10 82 RX10 (TX10 40).2.1 (TX10 40).2.2.1 ∈ sl_GL := gl_4 (List.mem_of_getElem? (i := 201) rfl) rfl
theorem pf_X10_86 : Cond.fieldLink RX10 86 RX10 (TX10 41).2.1 (TX10 41).2.2.1 ∈ sl_GL := gl_4 (List.mem_of_getElem? (i := 202) rfl) rfl
theorem pf_X10_89 : Cond.fieldLink RX10 89 RX10 (TX10 46).2.1 (TX10 46).2.2.1 ∈ sl_GL := gl_4 (List.mem_of_getElem? (i := 207) rfl) rfl
theorem pf_X10_92 : Cond.fieldLink RX10 92 RX10 (TX10 47).2.1 (TX10 47).2.2.1 ∈ sl_GL := gl_4 (List.mem_of_getElem? (i := 208) rfl) rfl
theorem pf_X10_95 : Cond.fieldLink RX10 95 RX10 (TX10 48).2.1 (TX10 48).2.2.1 ∈ sl_GL := gl_4 (List.mem_of_getElem? (i := 209) rfl) rfl
theorem pf_X10_98 : Cond.fieldLink RX10 98 RX10 (TX10 49).2.1 (TX10 49).2.2.1 ∈ sl_GL := gl_4 (List.mem_of_getElem? (i := 210) rfl) rfl
theorem pf_X10_101 : Cond.fieldLink RX10 101 RX10 (TX10 50).2.1 (TX10 50).2.2.1 ∈ sl_GL := gl_4 (List.mem_of_getElem? (i := 211) rfl) rfl
theorem pf_X10_104 : Cond.fieldLink RX10 104 RX10 (TX10 52).2.1 (TX10 52).2.2.1 ∈ sl_GL := gl_4 (List.mem_of_getElem? (i := 213) rfl) rfl
theorem pf_X10_107 : Cond.fieldLink RX10 107 RX10 (TX10 57).2.1 (TX10 57).2.2.1 ∈ sl_GL := gl_4 (List.mem_of_getElem? (i := 218) rfl) rfl
theorem pf_X10_110 : Cond.fieldLink RX10 110 RX10 (TX10 61).2.1 (TX10 61).2.2.1 ∈ sl_GL := gl_4 (List.mem_of_getElem? (i := 222) rfl) rfl
theorem pf_X10_113 : Cond.fieldLink RX10 113 RX10 (TX10 62).2.1 (TX10 62).2.2.1 ∈ sl_GL := gl_4 (List.mem_of_getElem? (i := 223) rfl) rfl
theorem pf_X10_116 : Cond.fieldLink RX10 116 RX10 (TX10 63).2.1 (TX10 63).2.2.1 ∈ sl_GL := gl_4 (List.mem_of_getElem? (i := 224) rfl) rfl
