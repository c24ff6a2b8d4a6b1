theorem i32_to64 {x : Int} (h : i32 x) : i64 x := ⟨by have := h.1; omega, by have := h.2; omega⟩
/-! ===== one instruction, one row ===== -/
theorem x_iconst {M : MM} {d pc : Nat} {ls : List AV} {X : XX} {v : VV} {mc ms : Nat} {Q : QQ} {rest : List AV} {n i : Int} (hd : decode M.2.1 pc = .ok (.iconst n, 1)) (hv : n = i) (hi : i32 i) (k : Ex M d (pc + 1) ls ((0, i) :: rest) X v mc ms Q) : Ex M d pc ls (rest) X v mc ms Q := by
  intro G p l e R s m args below meth c Z hX hR H locs cells slots cls hH hS hL hO hc hs
  exact lv_iconst (v := Int32.ofInt i) hX.1 hX.2.1 hd (by rw [hv]) (k G p l e R s m args below meth c Z hX hR H locs cells slots cls hH hS hL (List.forall_mem_cons.mpr ⟨okv_i hi, hO⟩) hc hs)

theorem x_bipush {M : MM} {d pc : Nat} {ls : List AV} {X : XX} {v : VV} {mc ms : Nat} {Q : QQ} {rest : List AV} {n i : Int} (hd : decode M.2.1 pc = .ok (.bipush n, 2)) (hv : (Int8.ofInt n).toInt32 = Int32.ofInt i) (hi : i32 i) (k : Ex M d (pc + 2) ls ((0, i) :: rest) X v mc ms Q) : Ex M d pc ls (rest) X v mc ms Q := by
  intro G p l e R s m args below meth c Z hX hR H locs cells slots cls hH hS hL hO hc hs
  exact lv_bipush (v := Int32.ofInt i) hX.1 hX.2.1 hd hv (k G p l e R s m args below meth c Z hX hR H locs cells slots cls hH hS hL (List.forall_mem_cons.mpr ⟨okv_i hi, hO⟩) hc hs)

theorem x_sipush {M : MM} {d pc : Nat} {ls : List AV} {X : XX} {v : VV} {mc ms : Nat} {Q : QQ} {rest : List AV} {n i : Int} (hd : decode M.2.1 pc = .ok (.sipush n, 3)) (hv : (Int16.ofInt n).toInt32 = Int32.ofInt i) (hi : i32 i) (k : Ex M d (pc + 3) ls ((0, i) :: rest) X v mc ms Q) : Ex M d pc ls (rest) X v mc ms Q := by
  intro G p l e R s m args below meth c Z hX hR H locs cells slots cls hH hS hL hO hc hs
  exact lv_sipush (v := Int32.ofInt i) hX.1 hX.2.1 hd hv (k G p l e R s m args below meth c Z hX hR H locs cells slots cls hH hS hL (List.forall_mem_cons.mpr ⟨okv_i hi, hO⟩) hc hs)

theorem x_lconst {M : MM} {d pc : Nat} {ls : List AV} {X : XX} {v : VV} {mc ms : Nat} {Q : QQ} {rest : List AV} {n : Fin 2} {i : Int} (hd : decode M.2.1 pc = .ok (.lconst n, 1)) (hv : Int64.ofNat (n : Nat) = Int64.ofInt i) (hi : i64 i) (k : Ex M d (pc + 1) ls ((1, i) :: rest) X v mc ms Q) : Ex M d pc ls (rest) X v mc ms Q := by
  intro G p l e R s m args below meth c Z hX hR H locs cells slots cls hH hS hL hO hc hs
  exact lv_lconst (v := Int64.ofInt i) hX.1 hX.2.1 hd hv (k G p l e R s m args below meth c Z hX hR H locs cells slots cls hH hS hL (List.forall_mem_cons.mpr ⟨okv_l hi, hO⟩) hc hs)

theorem x_iload_n {M : MM} {d pc : Nat} {ls : List AV} {X : XX} {v : VV} {mc ms : Nat} {Q : QQ} {rest : List AV} {n : Fin 4} {x : Int} (hd : decode M.2.1 pc = .ok (.iload_n n, 1)) (hl : ls[(n : Nat)]? = some (0, x)) (k : Ex M d (pc + 1) ls ((0, x) :: rest) X v mc ms Q) : Ex M d pc ls (rest) X v mc ms Q := by
  intro G p l e R s m args below meth c Z hX hR H locs cells slots cls hH hS hL hO hc hs
  exact lv_iload_n hX.1 hX.2.1 hd rfl (hL.2.2.2.1 _ _ hl (Nat.le_of_ble_eq_true rfl)) (k G p l e R s m args below meth c Z hX hR H locs cells slots cls hH hS hL (List.forall_mem_cons.mpr ⟨hL.2.2.2.2 _ (List.mem_of_getElem? hl), hO⟩) hc hs)

theorem x_iload {M : MM} {d pc : Nat} {ls : List AV} {X : XX} {v : VV} {mc ms : Nat} {Q : QQ} {rest : List AV} {i : Nat} {x : Int} (hd : decode M.2.1 pc = .ok (.iload i, 2)) (hl : ls[i]? = some (0, x)) (k : Ex M d (pc + 2) ls ((0, x) :: rest) X v mc ms Q) : Ex M d pc ls (rest) X v mc ms Q := by
  intro G p l e R s m args below meth c Z hX hR H locs cells slots cls hH hS hL hO hc hs
  exact lv_iload hX.1 hX.2.1 hd (hL.2.2.2.1 _ _ hl (Nat.le_of_ble_eq_true rfl)) (k G p l e R s m args below meth c Z hX hR H locs cells slots cls hH hS hL (List.forall_mem_cons.mpr ⟨hL.2.2.2.2 _ (List.mem_of_getElem? hl), hO⟩) hc hs)

theorem x_lload_n {M : MM} {d pc : Nat} {ls : List AV} {X : XX} {v : VV} {mc ms : Nat} {Q : QQ} {rest : List AV} {n : Fin 4} {x : Int} (hd : decode M.2.1 pc = .ok (.lload_n n, 1)) (hl : ls[(n : Nat)]? = some (1, x)) (k : Ex M d (pc + 1) ls ((1, x) :: rest) X v mc ms Q) : Ex M d pc ls (rest) X v mc ms Q := by
  intro G p l e R s m args below meth c Z hX hR H locs cells slots cls hH hS hL hO hc hs
  exact lv_lload_n hX.1 hX.2.1 hd rfl (hL.2.2.2.1 _ _ hl (Nat.le_of_ble_eq_true rfl)) (k G p l e R s m args below meth c Z hX hR H locs cells slots cls hH hS hL (List.forall_mem_cons.mpr ⟨hL.2.2.2.2 _ (List.mem_of_getElem? hl), hO⟩) hc hs)

theorem x_lload {M : MM} {d pc : Nat} {ls : List AV} {X : XX} {v : VV} {mc ms : Nat} {Q : QQ} {rest : List AV} {i : Nat} {x : Int} (hd : decode M.2.1 pc = .ok (.lload i, 2)) (hl : ls[i]? = some (1, x)) (k : Ex M d (pc + 2) ls ((1, x) :: rest) X v mc ms Q) : Ex M d pc ls (rest) X v mc ms Q := by
  intro G p l e R s m args below meth c Z hX hR H locs cells slots cls hH hS hL hO hc hs
  exact lv_lload hX.1 hX.2.1 hd (hL.2.2.2.1 _ _ hl (Nat.le_of_ble_eq_true rfl)) (k G p l e R s m args below meth c Z hX hR H locs cells slots cls hH hS hL (List.forall_mem_cons.mpr ⟨hL.2.2.2.2 _ (List.mem_of_getElem? hl), hO⟩) hc hs)

theorem x_aload_n {M : MM} {d pc : Nat} {ls : List AV} {X : XX} {v : VV} {mc ms : Nat} {Q : QQ} {rest : List AV} {n : Fin 4} {x : Int} (hd : decode M.2.1 pc = .ok (.aload_n n, 1)) (hl : ls[(n : Nat)]? = some (2, x)) (k : Ex M d (pc + 1) ls ((2, x) :: rest) X v mc ms Q) : Ex M d pc ls rest X v mc ms Q := by
  intro G p l e R s m args below meth c Z hX hR H locs cells slots cls hH hS hL hO hc hs
  have hl2 := hL.2.2.2.1 _ _ hl (Nat.le_of_ble_eq_true rfl)
  have k2 := k G p l e R s m args below meth c Z hX hR H locs cells slots cls hH hS hL (List.forall_mem_cons.mpr ⟨okv_r, hO⟩) hc hs
  have hv : conc G (2, x) = .null ∨ ∃ a, conc G (2, x) = .ref a := cref_or G x
  simp only [List.map_cons] at k2
  rcases hv with hv | ⟨a, hv⟩ <;> rw [hv] at hl2 k2
  · exact lv_aload_nN hX.1 hX.2.1 hd rfl hl2 k2
  · exact lv_aload_n hX.1 hX.2.1 hd rfl hl2 k2

theorem x_aload {M : MM} {d pc : Nat} {ls : List AV} {X : XX} {v : VV} {mc ms : Nat} {Q : QQ} {rest : List AV} {i : Nat} {x : Int} (hd : decode M.2.1 pc = .ok (.aload i, 2)) (hl : ls[i]? = some (2, x)) (k : Ex M d (pc + 2) ls ((2, x) :: rest) X v mc ms Q) : Ex M d pc ls rest X v mc ms Q := by
  intro G p l e R s m args below meth c Z hX hR H locs cells slots cls hH hS hL hO hc hs
  have hl2 := hL.2.2.2.1 _ _ hl (Nat.le_of_ble_eq_true rfl)
  have k2 := k G p l e R s m args below meth c Z hX hR H locs cells slots cls hH hS hL (List.forall_mem_cons.mpr ⟨okv_r, hO⟩) hc hs
  have hv : conc G (2, x) = .null ∨ ∃ a, conc G (2, x) = .ref a := cref_or G x
  simp only [List.map_cons] at k2
  rcases hv with hv | ⟨a, hv⟩ <;> rw [hv] at hl2 k2
  · exact lv_aloadN hX.1 hX.2.1 hd hl2 k2
  · exact lv_aload hX.1 hX.2.1 hd hl2 k2

theorem x_iadd {M : MM} {d pc : Nat} {ls : List AV} {X : XX} {v : VV} {mc ms : Nat} {Q : QQ} {rest : List AV} {x y : Int} (hd : decode M.2.1 pc = .ok (.iadd, 1)) (hz : i32 (x + y)) (k : Ex M d (pc + 1) ls ((0, x + y) :: rest) X v mc ms Q) : Ex M d pc ls ((0, y) :: (0, x) :: rest) X v mc ms Q := by
  intro G p l e R s m args below meth c Z hX hR H locs cells slots cls hH hS hL hO hc hs
  have k2 := (k G p l e R s m args below meth c Z hX hR H locs cells slots cls hH hS hL (List.forall_mem_cons.mpr ⟨okv_i hz, (List.forall_mem_cons.mp (List.forall_mem_cons.mp hO).2).2⟩) hc hs)
  simp only [List.map_cons] at k2
  rw [show conc G (0, x + y) = .int (Int32.ofInt x + Int32.ofInt y) from congrArg Value.int (Int32.ofInt_add x y)] at k2
  exact lv_iadd hX.1 hX.2.1 hd k2

theorem x_isub {M : MM} {d pc : Nat} {ls : List AV} {X : XX} {v : VV} {mc ms : Nat} {Q : QQ} {rest : List AV} {x y : Int} (hd : decode M.2.1 pc = .ok (.isub, 1)) (hz : i32 (x - y)) (k : Ex M d (pc + 1) ls ((0, x - y) :: rest) X v mc ms Q) : Ex M d pc ls ((0, y) :: (0, x) :: rest) X v mc ms Q := by
  intro G p l e R s m args below meth c Z hX hR H locs cells slots cls hH hS hL hO hc hs
  have k2 := (k G p l e R s m args below meth c Z hX hR H locs cells slots cls hH hS hL (List.forall_mem_cons.mpr ⟨okv_i hz, (List.forall_mem_cons.mp (List.forall_mem_cons.mp hO).2).2⟩) hc hs)
  simp only [List.map_cons] at k2
  rw [show conc G (0, x - y) = .int (Int32.ofInt x - Int32.ofInt y) from congrArg Value.int (Int32.ofInt_sub x y)] at k2
  exact lv_isub hX.1 hX.2.1 hd k2

theorem x_imul {M : MM} {d pc : Nat} {ls : List AV} {X : XX} {v : VV} {mc ms : Nat} {Q : QQ} {rest : List AV} {x y : Int} (hd : decode M.2.1 pc = .ok (.imul, 1)) (hz : i32 (x * y)) (k : Ex M d (pc + 1) ls ((0, x * y) :: rest) X v mc ms Q) : Ex M d pc ls ((0, y) :: (0, x) :: rest) X v mc ms Q := by
  intro G p l e R s m args below meth c Z hX hR H locs cells slots cls hH hS hL hO hc hs
  have k2 := (k G p l e R s m args below meth c Z hX hR H locs cells slots cls hH hS hL (List.forall_mem_cons.mpr ⟨okv_i hz, (List.forall_mem_cons.mp (List.forall_mem_cons.mp hO).2).2⟩) hc hs)
  simp only [List.map_cons] at k2
  rw [show conc G (0, x * y) = .int (Int32.ofInt x * Int32.ofInt y) from congrArg Value.int (Int32.ofInt_mul x y)] at k2
  exact lv_imul hX.1 hX.2.1 hd k2

theorem x_ladd {M : MM} {d pc : Nat} {ls : List AV} {X : XX} {v : VV} {mc ms : Nat} {Q : QQ} {rest : List AV} {x y : Int} (hd : decode M.2.1 pc = .ok (.ladd, 1)) (hz : i64 (x + y)) (k : Ex M d (pc + 1) ls ((1, x + y) :: rest) X v mc ms Q) : Ex M d pc ls ((1, y) :: (1, x) :: rest) X v mc ms Q := by
  intro G p l e R s m args below meth c Z hX hR H locs cells slots cls hH hS hL hO hc hs
  have k2 := (k G p l e R s m args below meth c Z hX hR H locs cells slots cls hH hS hL (List.forall_mem_cons.mpr ⟨okv_l hz, (List.forall_mem_cons.mp (List.forall_mem_cons.mp hO).2).2⟩) hc hs)
  simp only [List.map_cons] at k2
  rw [show conc G (1, x + y) = .long (Int64.ofInt x + Int64.ofInt y) from congrArg Value.long (Int64.ofInt_add x y)] at k2
  exact lv_ladd hX.1 hX.2.1 hd k2

theorem x_lsub {M : MM} {d pc : Nat} {ls : List AV} {X : XX} {v : VV} {mc ms : Nat} {Q : QQ} {rest : List AV} {x y : Int} (hd : decode M.2.1 pc = .ok (.lsub, 1)) (hz : i64 (x - y)) (k : Ex M d (pc + 1) ls ((1, x - y) :: rest) X v mc ms Q) : Ex M d pc ls ((1, y) :: (1, x) :: rest) X v mc ms Q := by
  intro G p l e R s m args below meth c Z hX hR H locs cells slots cls hH hS hL hO hc hs
  have k2 := (k G p l e R s m args below meth c Z hX hR H locs cells slots cls hH hS hL (List.forall_mem_cons.mpr ⟨okv_l hz, (List.forall_mem_cons.mp (List.forall_mem_cons.mp hO).2).2⟩) hc hs)
  simp only [List.map_cons] at k2
  rw [show conc G (1, x - y) = .long (Int64.ofInt x - Int64.ofInt y) from congrArg Value.long (Int64.ofInt_sub x y)] at k2
  exact lv_lsub hX.1 hX.2.1 hd k2

theorem x_lmul {M : MM} {d pc : Nat} {ls : List AV} {X : XX} {v : VV} {mc ms : Nat} {Q : QQ} {rest : List AV} {x y : Int} (hd : decode M.2.1 pc = .ok (.lmul, 1)) (hz : i64 (x * y)) (k : Ex M d (pc + 1) ls ((1, x * y) :: rest) X v mc ms Q) : Ex M d pc ls ((1, y) :: (1, x) :: rest) X v mc ms Q := by
  intro G p l e R s m args below meth c Z hX hR H locs cells slots cls hH hS hL hO hc hs
  have k2 := (k G p l e R s m args below meth c Z hX hR H locs cells slots cls hH hS hL (List.forall_mem_cons.mpr ⟨okv_l hz, (List.forall_mem_cons.mp (List.forall_mem_cons.mp hO).2).2⟩) hc hs)
  simp only [List.map_cons] at k2
  rw [show conc G (1, x * y) = .long (Int64.ofInt x * Int64.ofInt y) from congrArg Value.long (Int64.ofInt_mul x y)] at k2
  exact lv_lmul hX.1 hX.2.1 hd k2

theorem x_iand {M : MM} {d pc : Nat} {ls : List AV} {X : XX} {v : VV} {mc ms : Nat} {Q : QQ} {rest : List AV} {x y z : Int} (hd : decode M.2.1 pc = .ok (.iand, 1)) (hz : Int32.ofInt x &&& Int32.ofInt y = Int32.ofInt z) (hi : i32 z) (k : Ex M d (pc + 1) ls ((0, z) :: rest) X v mc ms Q) : Ex M d pc ls ((0, y) :: (0, x) :: rest) X v mc ms Q := by
  intro G p l e R s m args below meth c Z hX hR H locs cells slots cls hH hS hL hO hc hs
  have k2 := (k G p l e R s m args below meth c Z hX hR H locs cells slots cls hH hS hL (List.forall_mem_cons.mpr ⟨okv_i hi, (List.forall_mem_cons.mp (List.forall_mem_cons.mp hO).2).2⟩) hc hs)
  simp only [List.map_cons] at k2
  rw [show conc G (0, z) = .int (Int32.ofInt x &&& Int32.ofInt y) from congrArg Value.int hz.symm] at k2
  exact lv_iand hX.1 hX.2.1 hd k2

theorem x_ior {M : MM} {d pc : Nat} {ls : List AV} {X : XX} {v : VV} {mc ms : Nat} {Q : QQ} {rest : List AV} {x y z : Int} (hd : decode M.2.1 pc = .ok (.ior, 1)) (hz : Int32.ofInt x ||| Int32.ofInt y = Int32.ofInt z) (hi : i32 z) (k : Ex M d (pc + 1) ls ((0, z) :: rest) X v mc ms Q) : Ex M d pc ls ((0, y) :: (0, x) :: rest) X v mc ms Q := by
  intro G p l e R s m args below meth c Z hX hR H locs cells slots cls hH hS hL hO hc hs
  have k2 := (k G p l e R s m args below meth c Z hX hR H locs cells slots cls hH hS hL (List.forall_mem_cons.mpr ⟨okv_i hi, (List.forall_mem_cons.mp (List.forall_mem_cons.mp hO).2).2⟩) hc hs)
  simp only [List.map_cons] at k2
  rw [show conc G (0, z) = .int (Int32.ofInt x ||| Int32.ofInt y) from congrArg Value.int hz.symm] at k2
  exact lv_ior hX.1 hX.2.1 hd k2

theorem x_ixor {M : MM} {d pc : Nat} {ls : List AV} {X : XX} {v : VV} {mc ms : Nat} {Q : QQ} {rest : List AV} {x y z : Int} (hd : decode M.2.1 pc = .ok (.ixor, 1)) (hz : Int32.ofInt x ^^^ Int32.ofInt y = Int32.ofInt z) (hi : i32 z) (k : Ex M d (pc + 1) ls ((0, z) :: rest) X v mc ms Q) : Ex M d pc ls ((0, y) :: (0, x) :: rest) X v mc ms Q := by
  intro G p l e R s m args below meth c Z hX hR H locs cells slots cls hH hS hL hO hc hs
  have k2 := (k G p l e R s m args below meth c Z hX hR H locs cells slots cls hH hS hL (List.forall_mem_cons.mpr ⟨okv_i hi, (List.forall_mem_cons.mp (List.forall_mem_cons.mp hO).2).2⟩) hc hs)
  simp only [List.map_cons] at k2
  rw [show conc G (0, z) = .int (Int32.ofInt x ^^^ Int32.ofInt y) from congrArg Value.int hz.symm] at k2
  exact lv_ixor hX.1 hX.2.1 hd k2

theorem x_ishl {M : MM} {d pc : Nat} {ls : List AV} {X : XX} {v : VV} {mc ms : Nat} {Q : QQ} {rest : List AV} {x y z : Int} (hd : decode M.2.1 pc = .ok (.ishl, 1)) (hz : Int32.ofInt x <<< (Int32.ofInt y &&& 31) = Int32.ofInt z) (hi : i32 z) (k : Ex M d (pc + 1) ls ((0, z) :: rest) X v mc ms Q) : Ex M d pc ls ((0, y) :: (0, x) :: rest) X v mc ms Q := by
  intro G p l e R s m args below meth c Z hX hR H locs cells slots cls hH hS hL hO hc hs
  have k2 := (k G p l e R s m args below meth c Z hX hR H locs cells slots cls hH hS hL (List.forall_mem_cons.mpr ⟨okv_i hi, (List.forall_mem_cons.mp (List.forall_mem_cons.mp hO).2).2⟩) hc hs)
  simp only [List.map_cons] at k2
  rw [show conc G (0, z) = .int (Int32.ofInt x <<< (Int32.ofInt y &&& 31)) from congrArg Value.int hz.symm] at k2
  exact lv_ishl hX.1 hX.2.1 hd k2

theorem x_ishr {M : MM} {d pc : Nat} {ls : List AV} {X : XX} {v : VV} {mc ms : Nat} {Q : QQ} {rest : List AV} {x y z : Int} (hd : decode M.2.1 pc = .ok (.ishr, 1)) (hz : Int32.ofInt x >>> (Int32.ofInt y &&& 31) = Int32.ofInt z) (hi : i32 z) (k : Ex M d (pc + 1) ls ((0, z) :: rest) X v mc ms Q) : Ex M d pc ls ((0, y) :: (0, x) :: rest) X v mc ms Q := by
  intro G p l e R s m args below meth c Z hX hR H locs cells slots cls hH hS hL hO hc hs
  have k2 := (k G p l e R s m args below meth c Z hX hR H locs cells slots cls hH hS hL (List.forall_mem_cons.mpr ⟨okv_i hi, (List.forall_mem_cons.mp (List.forall_mem_cons.mp hO).2).2⟩) hc hs)
  simp only [List.map_cons] at k2
  rw [show conc G (0, z) = .int (Int32.ofInt x >>> (Int32.ofInt y &&& 31)) from congrArg Value.int hz.symm] at k2
  exact lv_ishr hX.1 hX.2.1 hd k2

theorem x_iushr {M : MM} {d pc : Nat} {ls : List AV} {X : XX} {v : VV} {mc ms : Nat} {Q : QQ} {rest : List AV} {x y z : Int} (hd : decode M.2.1 pc = .ok (.iushr, 1)) (hz : ((Int32.ofInt x).toUInt32 >>> ((Int32.ofInt y).toUInt32 &&& Int32.toUInt32 31)).toInt32 = Int32.ofInt z) (hi : i32 z) (k : Ex M d (pc + 1) ls ((0, z) :: rest) X v mc ms Q) : Ex M d pc ls ((0, y) :: (0, x) :: rest) X v mc ms Q := by
  intro G p l e R s m args below meth c Z hX hR H locs cells slots cls hH hS hL hO hc hs
  exact lv_iushr hX.1 hX.2.1 hd hz (k G p l e R s m args below meth c Z hX hR H locs cells slots cls hH hS hL (List.forall_mem_cons.mpr ⟨okv_i hi, (List.forall_mem_cons.mp (List.forall_mem_cons.mp hO).2).2⟩) hc hs)

theorem x_idiv {M : MM} {d pc : Nat} {ls : List AV} {X : XX} {v : VV} {mc ms : Nat} {Q : QQ} {rest : List AV} {x y z : Int} (hd : decode M.2.1 pc = .ok (.idiv, 1)) (hy : ¬ Int32.ofInt y = 0) (hz : Int32.ofInt x / Int32.ofInt y = Int32.ofInt z) (hi : i32 z) (k : Ex M d (pc + 1) ls ((0, z) :: rest) X v mc ms Q) : Ex M d pc ls ((0, y) :: (0, x) :: rest) X v mc ms Q := by
  intro G p l e R s m args below meth c Z hX hR H locs cells slots cls hH hS hL hO hc hs
  have k2 := (k G p l e R s m args below meth c Z hX hR H locs cells slots cls hH hS hL (List.forall_mem_cons.mpr ⟨okv_i hi, (List.forall_mem_cons.mp (List.forall_mem_cons.mp hO).2).2⟩) hc hs)
  simp only [List.map_cons] at k2
  rw [show conc G (0, z) = .int (Int32.ofInt x / Int32.ofInt y) from congrArg Value.int hz.symm] at k2
  exact lv_idiv hX.1 hX.2.1 hd hy k2

theorem x_irem {M : MM} {d pc : Nat} {ls : List AV} {X : XX} {v : VV} {mc ms : Nat} {Q : QQ} {rest : List AV} {x y z : Int} (hd : decode M.2.1 pc = .ok (.irem, 1)) (hy : ¬ Int32.ofInt y = 0) (hz : Int32.ofInt x - Int32.ofInt x / Int32.ofInt y * Int32.ofInt y = Int32.ofInt z) (hi : i32 z) (k : Ex M d (pc + 1) ls ((0, z) :: rest) X v mc ms Q) : Ex M d pc ls ((0, y) :: (0, x) :: rest) X v mc ms Q := by
  intro G p l e R s m args below meth c Z hX hR H locs cells slots cls hH hS hL hO hc hs
  have k2 := (k G p l e R s m args below meth c Z hX hR H locs cells slots cls hH hS hL (List.forall_mem_cons.mpr ⟨okv_i hi, (List.forall_mem_cons.mp (List.forall_mem_cons.mp hO).2).2⟩) hc hs)
  simp only [List.map_cons] at k2
  rw [show conc G (0, z) = .int (Int32.ofInt x - Int32.ofInt x / Int32.ofInt y * Int32.ofInt y) from congrArg Value.int hz.symm] at k2
  exact lv_irem hX.1 hX.2.1 hd hy k2

theorem x_i2l {M : MM} {d pc : Nat} {ls : List AV} {X : XX} {v : VV} {mc ms : Nat} {Q : QQ} {rest : List AV} {x : Int} (hd : decode M.2.1 pc = .ok (.i2l, 1))  (k : Ex M d (pc + 1) ls ((1, x) :: rest) X v mc ms Q) : Ex M d pc ls ((0, x) :: rest) X v mc ms Q := by
  intro G p l e R s m args below meth c Z hX hR H locs cells slots cls hH hS hL hO hc hs
  have hx : i32 x := (List.forall_mem_cons.mp hO).1.1 rfl
  exact lv_i2l hX.1 hX.2.1 hd (i32_i64 hx) (k G p l e R s m args below meth c Z hX hR H locs cells slots cls hH hS hL (List.forall_mem_cons.mpr ⟨okv_l (i32_to64 hx), (List.forall_mem_cons.mp hO).2⟩) hc hs)

theorem x_l2i {M : MM} {d pc : Nat} {ls : List AV} {X : XX} {v : VV} {mc ms : Nat} {Q : QQ} {rest : List AV} {x : Int} (hd : decode M.2.1 pc = .ok (.l2i, 1)) (hx : i32 x) (k : Ex M d (pc + 1) ls ((0, x) :: rest) X v mc ms Q) : Ex M d pc ls ((1, x) :: rest) X v mc ms Q := by
  intro G p l e R s m args below meth c Z hX hR H locs cells slots cls hH hS hL hO hc hs
  exact lv_l2i hX.1 hX.2.1 hd (i64_i32 hx) (k G p l e R s m args below meth c Z hX hR H locs cells slots cls hH hS hL (List.forall_mem_cons.mpr ⟨okv_i hx, (List.forall_mem_cons.mp hO).2⟩) hc hs)

theorem x_dup {M : MM} {d pc : Nat} {ls : List AV} {X : XX} {v : VV} {mc ms : Nat} {Q : QQ} {rest : List AV} {a : AV} (hd : decode M.2.1 pc = .ok (.dup, 1)) (ha : ¬ a.1 = 1) (k : Ex M d (pc + 1) ls (a :: a :: rest) X v mc ms Q) : Ex M d pc ls (a :: rest) X v mc ms Q := by
  intro G p l e R s m args below meth c Z hX hR H locs cells slots cls hH hS hL hO hc hs
  exact lv_dup hX.1 hX.2.1 hd (by rw [conc_cat, if_neg ha]) (k G p l e R s m args below meth c Z hX hR H locs cells slots cls hH hS hL (List.forall_mem_cons.mpr ⟨(List.forall_mem_cons.mp hO).1, hO⟩) hc hs)

theorem x_pop {M : MM} {d pc : Nat} {ls : List AV} {X : XX} {v : VV} {mc ms : Nat} {Q : QQ} {rest : List AV} {a : AV} (hd : decode M.2.1 pc = .ok (.pop, 1)) (ha : ¬ a.1 = 1) (k : Ex M d (pc + 1) ls (rest) X v mc ms Q) : Ex M d pc ls (a :: rest) X v mc ms Q := by
  intro G p l e R s m args below meth c Z hX hR H locs cells slots cls hH hS hL hO hc hs
  exact lv_pop hX.1 hX.2.1 hd (by rw [conc_cat, if_neg ha]) (k G p l e R s m args below meth c Z hX hR H locs cells slots cls hH hS hL (List.forall_mem_cons.mp hO).2 hc hs)

theorem x_dup_x1 {M : MM} {d pc : Nat} {ls : List AV} {X : XX} {v : VV} {mc ms : Nat} {Q : QQ} {rest : List AV} {a b : AV} (hd : decode M.2.1 pc = .ok (.dup_x1, 1)) (ha : ¬ a.1 = 1) (hb : ¬ b.1 = 1) (k : Ex M d (pc + 1) ls (a :: b :: a :: rest) X v mc ms Q) : Ex M d pc ls (a :: b :: rest) X v mc ms Q := by
  intro G p l e R s m args below meth c Z hX hR H locs cells slots cls hH hS hL hO hc hs
  exact lv_dup_x1 hX.1 hX.2.1 hd (by rw [conc_cat, if_neg ha]) (by rw [conc_cat, if_neg hb]) (k G p l e R s m args below meth c Z hX hR H locs cells slots cls hH hS hL (List.forall_mem_cons.mpr ⟨(List.forall_mem_cons.mp hO).1, (List.forall_mem_cons.mpr ⟨(List.forall_mem_cons.mp (List.forall_mem_cons.mp hO).2).1, (List.forall_mem_cons.mpr ⟨(List.forall_mem_cons.mp hO).1, (List.forall_mem_cons.mp (List.forall_mem_cons.mp hO).2).2⟩)⟩)⟩) hc hs)

theorem x_dup2 {M : MM} {d pc : Nat} {ls : List AV} {X : XX} {v : VV} {mc ms : Nat} {Q : QQ} {rest : List AV} {a b : AV} (hd : decode M.2.1 pc = .ok (.dup2, 1)) (ha : ¬ a.1 = 1) (hb : ¬ b.1 = 1) (k : Ex M d (pc + 1) ls (a :: b :: a :: b :: rest) X v mc ms Q) : Ex M d pc ls (a :: b :: rest) X v mc ms Q := by
  intro G p l e R s m args below meth c Z hX hR H locs cells slots cls hH hS hL hO hc hs
  exact lv_dup2_11 hX.1 hX.2.1 hd (by rw [conc_cat, if_neg ha]) (by rw [conc_cat, if_neg hb]) (k G p l e R s m args below meth c Z hX hR H locs cells slots cls hH hS hL (List.forall_mem_cons.mpr ⟨(List.forall_mem_cons.mp hO).1, (List.forall_mem_cons.mpr ⟨(List.forall_mem_cons.mp (List.forall_mem_cons.mp hO).2).1, hO⟩)⟩) hc hs)

theorem x_null {M : MM} {d pc : Nat} {ls : List AV} {X : XX} {v : VV} {mc ms : Nat} {Q : QQ} {rest : List AV}  (hd : decode M.2.1 pc = .ok (.aconst_null, 1))  (k : Ex M d (pc + 1) ls ((2, -1) :: rest) X v mc ms Q) : Ex M d pc ls (rest) X v mc ms Q := by
  intro G p l e R s m args below meth c Z hX hR H locs cells slots cls hH hS hL hO hc hs
  exact lv_null hX.1 hX.2.1 hd (k G p l e R s m args below meth c Z hX hR H locs cells slots cls hH hS hL (List.forall_mem_cons.mpr ⟨okv_r, hO⟩) hc hs)

theorem x_istore_n {M : MM} {d pc : Nat} {ls : List AV} {X : XX} {v : VV} {mc ms : Nat} {Q : QQ} {rest : List AV} {n : Fin 4} {x : Int} (ls' : List AV) (hd : decode M.2.1 pc = .ok (.istore_n n, 1)) (hs2 : setLg ls 0 (n : Nat) (0, x) = ls') (hn : (n : Nat) < M.2.2.1) (k : Ex M d (pc + 1) ls' rest X v mc ms Q) : Ex M d pc ls ((0, x) :: rest) X v mc ms Q := by
  intro G p l e R s m args below meth c Z hX hR H locs cells slots cls hH hS hL hO hc hs
  exact lv_istore_n hX.1 hX.2.1 hd rfl hL.has hn rfl (fun ls2 h2 => k G p l e R s m args below meth c Z hX hR H locs cells slots ls2 hH hS (hs2 ▸ LR.set1 (v := (0, x)) (List.forall_mem_cons.mp hO).1 hL (by simp) h2) (List.forall_mem_cons.mp hO).2 hc hs)

theorem x_istore {M : MM} {d pc : Nat} {ls : List AV} {X : XX} {v : VV} {mc ms : Nat} {Q : QQ} {rest : List AV} {i : Nat} {x : Int} (ls' : List AV) (hd : decode M.2.1 pc = .ok (.istore i, 2)) (hs2 : setLg ls 0 i (0, x) = ls') (hn : i < M.2.2.1) (k : Ex M d (pc + 2) ls' rest X v mc ms Q) : Ex M d pc ls ((0, x) :: rest) X v mc ms Q := by
  intro G p l e R s m args below meth c Z hX hR H locs cells slots cls hH hS hL hO hc hs
  exact lv_istore hX.1 hX.2.1 hd hL.has hn rfl (fun ls2 h2 => k G p l e R s m args below meth c Z hX hR H locs cells slots ls2 hH hS (hs2 ▸ LR.set1 (v := (0, x)) (List.forall_mem_cons.mp hO).1 hL (by simp) h2) (List.forall_mem_cons.mp hO).2 hc hs)

theorem x_astore_n {M : MM} {d pc : Nat} {ls : List AV} {X : XX} {v : VV} {mc ms : Nat} {Q : QQ} {rest : List AV} {n : Fin 4} {x : Int} (ls' : List AV) (hd : decode M.2.1 pc = .ok (.astore_n n, 1)) (hs2 : setLg ls 0 (n : Nat) (2, x) = ls') (hn : (n : Nat) < M.2.2.1) (k : Ex M d (pc + 1) ls' rest X v mc ms Q) : Ex M d pc ls ((2, x) :: rest) X v mc ms Q := by
  intro G p l e R s m args below meth c Z hX hR H locs cells slots cls hH hS hL hO hc hs
  have hv : conc G (2, x) = .null ∨ ∃ a, conc G (2, x) = .ref a := cref_or G x
  have key : ∀ ls2, lv_has ls2 M.2.2.1 (((n : Nat), conc G (2, x)) :: (lvl G ls).filter (fun q => !(q.1 == (n : Nat)) && !(q.1 + 1 == (n : Nat) && q.2.category == 2))) → W p l e R s m args below meth c H locs cells slots Z (F0 m (pc + 1) ls2 (rest.map (conc G))) := fun ls2 h2 => k G p l e R s m args below meth c Z hX hR H locs cells slots ls2 hH hS (hs2 ▸ LR.set1 (v := (2, x)) (List.forall_mem_cons.mp hO).1 hL (by simp) h2) (List.forall_mem_cons.mp hO).2 hc hs
  simp only [List.map_cons]
  rcases hv with hv | ⟨a, hv⟩ <;> rw [hv] at key ⊢
  · exact lv_astore_nN hX.1 hX.2.1 hd rfl hL.has hn rfl key
  · exact lv_astore_n hX.1 hX.2.1 hd rfl hL.has hn rfl key

theorem x_astore {M : MM} {d pc : Nat} {ls : List AV} {X : XX} {v : VV} {mc ms : Nat} {Q : QQ} {rest : List AV} {i : Nat} {x : Int} (ls' : List AV) (hd : decode M.2.1 pc = .ok (.astore i, 2)) (hs2 : setLg ls 0 i (2, x) = ls') (hn : i < M.2.2.1) (k : Ex M d (pc + 2) ls' rest X v mc ms Q) : Ex M d pc ls ((2, x) :: rest) X v mc ms Q := by
  intro G p l e R s m args below meth c Z hX hR H locs cells slots cls hH hS hL hO hc hs
  have hv : conc G (2, x) = .null ∨ ∃ a, conc G (2, x) = .ref a := cref_or G x
  have key : ∀ ls2, lv_has ls2 M.2.2.1 ((i, conc G (2, x)) :: (lvl G ls).filter (fun q => !(q.1 == i) && !(q.1 + 1 == i && q.2.category == 2))) → W p l e R s m args below meth c H locs cells slots Z (F0 m (pc + 2) ls2 (rest.map (conc G))) := fun ls2 h2 => k G p l e R s m args below meth c Z hX hR H locs cells slots ls2 hH hS (hs2 ▸ LR.set1 (v := (2, x)) (List.forall_mem_cons.mp hO).1 hL (by simp) h2) (List.forall_mem_cons.mp hO).2 hc hs
  simp only [List.map_cons]
  rcases hv with hv | ⟨a, hv⟩ <;> rw [hv] at key ⊢
  · exact lv_astoreN hX.1 hX.2.1 hd hL.has hn rfl key
  · exact lv_astore hX.1 hX.2.1 hd hL.has hn rfl key

theorem x_lstore_n {M : MM} {d pc : Nat} {ls : List AV} {X : XX} {v : VV} {mc ms : Nat} {Q : QQ} {rest : List AV} {n : Fin 4} {x : Int} (ls' : List AV) (hd : decode M.2.1 pc = .ok (.lstore_n n, 1)) (hs2 : setLg ls 0 (n : Nat) (1, x) = ls') (hn : (n : Nat) + 1 < M.2.2.1) (k : Ex M d (pc + 1) ls' rest X v mc ms Q) : Ex M d pc ls ((1, x) :: rest) X v mc ms Q := by
  intro G p l e R s m args below meth c Z hX hR H locs cells slots cls hH hS hL hO hc hs
  exact lv_lstore_n hX.1 hX.2.1 hd rfl hL.has hn rfl (fun ls2 h2 => k G p l e R s m args below meth c Z hX hR H locs cells slots ls2 hH hS (hs2 ▸ LR.set2 (v := (1, x)) (List.forall_mem_cons.mp hO).1 hL rfl h2) (List.forall_mem_cons.mp hO).2 hc hs)

theorem x_lstore {M : MM} {d pc : Nat} {ls : List AV} {X : XX} {v : VV} {mc ms : Nat} {Q : QQ} {rest : List AV} {i : Nat} {x : Int} (ls' : List AV) (hd : decode M.2.1 pc = .ok (.lstore i, 2)) (hs2 : setLg ls 0 i (1, x) = ls') (hn : i + 1 < M.2.2.1) (k : Ex M d (pc + 2) ls' rest X v mc ms Q) : Ex M d pc ls ((1, x) :: rest) X v mc ms Q := by
  intro G p l e R s m args below meth c Z hX hR H locs cells slots cls hH hS hL hO hc hs
  exact lv_lstore hX.1 hX.2.1 hd hL.has hn rfl (fun ls2 h2 => k G p l e R s m args below meth c Z hX hR H locs cells slots ls2 hH hS (hs2 ▸ LR.set2 (v := (1, x)) (List.forall_mem_cons.mp hO).1 hL rfl h2) (List.forall_mem_cons.mp hO).2 hc hs)

theorem x_iinc {M : MM} {d pc : Nat} {ls : List AV} {X : XX} {v : VV} {mc ms : Nat} {Q : QQ} {rest : List AV} {i : Nat} {n x : Int} (ls' : List AV) (hd : decode M.2.1 pc = .ok (.iinc i n, 3)) (hl : ls[i]? = some (0, x)) (hs2 : setLg ls 0 i (0, x + n) = ls') (hn : i < M.2.2.1) (hz : i32 (x + n)) (k : Ex M d (pc + 3) ls' rest X v mc ms Q) : Ex M d pc ls rest X v mc ms Q := by
  intro G p l e R s m args below meth c Z hX hR H locs cells slots cls hH hS hL hO hc hs
  obtain ⟨kk, hk⟩ := List.getElem?_of_mem (lvl_mem (G := G) hl (by show (0 : Nat) < 3; decide))
  exact lv_iinc hX.1 hX.2.1 hd hL.has hk (Int32.ofInt_add x n).symm hn rfl (fun ls2 h2 => k G p l e R s m args below meth c Z hX hR H locs cells slots ls2 hH hS (hs2 ▸ LR.set1 (v := (0, x + n)) (okv_i hz) hL (by simp) h2) hO hc hs)

theorem x_icmp_eq {M : MM} {d pc : Nat} {ls : List AV} {X : XX} {v : VV} {mc ms : Nat} {Q : QQ} {rest : List AV} {x y off : Int} (tgt : Nat) (hd : decode M.2.1 pc = .ok (.if_icmp .eq off, 3)) (ht : (pc : Int) + off = (tgt : Int)) (kt : x = y → Ex M d tgt ls rest X v mc ms Q) (kf : ¬ x = y → Ex M d (pc + 3) ls rest X v mc ms Q) : Ex M d pc ls ((0, y) :: (0, x) :: rest) X v mc ms Q := by
  intro G p l e R s m args below meth c Z hX hR H locs cells slots cls hH hS hL hO hc hs
  have hy : i32 y := (List.forall_mem_cons.mp hO).1.1 rfl
  have hx : i32 x := (List.forall_mem_cons.mp (List.forall_mem_cons.mp hO).2).1.1 rfl
  exact lv_icmp_eq hX.1 hX.2.1 hd ht (fun h => kt ((i32_eq hx hy).mp h) G p l e R s m args below meth c Z hX hR H locs cells slots cls hH hS hL (List.forall_mem_cons.mp (List.forall_mem_cons.mp hO).2).2 hc hs) (fun h => kf (fun q => h ((i32_eq hx hy).mpr q)) G p l e R s m args below meth c Z hX hR H locs cells slots cls hH hS hL (List.forall_mem_cons.mp (List.forall_mem_cons.mp hO).2).2 hc hs)

theorem x_if_eq {M : MM} {d pc : Nat} {ls : List AV} {X : XX} {v : VV} {mc ms : Nat} {Q : QQ} {rest : List AV} {x off : Int} (tgt : Nat) (hd : decode M.2.1 pc = .ok (.ifCond .eq off, 3)) (ht : (pc : Int) + off = (tgt : Int)) (kt : x = 0 → Ex M d tgt ls rest X v mc ms Q) (kf : ¬ x = 0 → Ex M d (pc + 3) ls rest X v mc ms Q) : Ex M d pc ls ((0, x) :: rest) X v mc ms Q := by
  intro G p l e R s m args below meth c Z hX hR H locs cells slots cls hH hS hL hO hc hs
  have hx : i32 x := (List.forall_mem_cons.mp hO).1.1 rfl
  exact lv_if_eq hX.1 hX.2.1 hd ht (fun h => kt ((i32_eq hx i32_0).mp h) G p l e R s m args below meth c Z hX hR H locs cells slots cls hH hS hL (List.forall_mem_cons.mp hO).2 hc hs) (fun h => kf (fun q => h ((i32_eq hx i32_0).mpr q)) G p l e R s m args below meth c Z hX hR H locs cells slots cls hH hS hL (List.forall_mem_cons.mp hO).2 hc hs)

theorem x_icmp_ne {M : MM} {d pc : Nat} {ls : List AV} {X : XX} {v : VV} {mc ms : Nat} {Q : QQ} {rest : List AV} {x y off : Int} (tgt : Nat) (hd : decode M.2.1 pc = .ok (.if_icmp .ne off, 3)) (ht : (pc : Int) + off = (tgt : Int)) (kt : ¬ x = y → Ex M d tgt ls rest X v mc ms Q) (kf : x = y → Ex M d (pc + 3) ls rest X v mc ms Q) : Ex M d pc ls ((0, y) :: (0, x) :: rest) X v mc ms Q := by
  intro G p l e R s m args below meth c Z hX hR H locs cells slots cls hH hS hL hO hc hs
  have hy : i32 y := (List.forall_mem_cons.mp hO).1.1 rfl
  have hx : i32 x := (List.forall_mem_cons.mp (List.forall_mem_cons.mp hO).2).1.1 rfl
  exact lv_icmp_ne hX.1 hX.2.1 hd ht (fun h => kt (fun q => h ((i32_eq hx hy).mpr q)) G p l e R s m args below meth c Z hX hR H locs cells slots cls hH hS hL (List.forall_mem_cons.mp (List.forall_mem_cons.mp hO).2).2 hc hs) (fun h => kf ((i32_eq hx hy).mp h) G p l e R s m args below meth c Z hX hR H locs cells slots cls hH hS hL (List.forall_mem_cons.mp (List.forall_mem_cons.mp hO).2).2 hc hs)

theorem x_if_ne {M : MM} {d pc : Nat} {ls : List AV} {X : XX} {v : VV} {mc ms : Nat} {Q : QQ} {rest : List AV} {x off : Int} (tgt : Nat) (hd : decode M.2.1 pc = .ok (.ifCond .ne off, 3)) (ht : (pc : Int) + off = (tgt : Int)) (kt : ¬ x = 0 → Ex M d tgt ls rest X v mc ms Q) (kf : x = 0 → Ex M d (pc + 3) ls rest X v mc ms Q) : Ex M d pc ls ((0, x) :: rest) X v mc ms Q := by
  intro G p l e R s m args below meth c Z hX hR H locs cells slots cls hH hS hL hO hc hs
  have hx : i32 x := (List.forall_mem_cons.mp hO).1.1 rfl
  exact lv_if_ne hX.1 hX.2.1 hd ht (fun h => kt (fun q => h ((i32_eq hx i32_0).mpr q)) G p l e R s m args below meth c Z hX hR H locs cells slots cls hH hS hL (List.forall_mem_cons.mp hO).2 hc hs) (fun h => kf ((i32_eq hx i32_0).mp h) G p l e R s m args below meth c Z hX hR H locs cells slots cls hH hS hL (List.forall_mem_cons.mp hO).2 hc hs)

theorem x_icmp_lt {M : MM} {d pc : Nat} {ls : List AV} {X : XX} {v : VV} {mc ms : Nat} {Q : QQ} {rest : List AV} {x y off : Int} (tgt : Nat) (hd : decode M.2.1 pc = .ok (.if_icmp .lt off, 3)) (ht : (pc : Int) + off = (tgt : Int)) (kt : x < y → Ex M d tgt ls rest X v mc ms Q) (kf : y ≤ x → Ex M d (pc + 3) ls rest X v mc ms Q) : Ex M d pc ls ((0, y) :: (0, x) :: rest) X v mc ms Q := by
  intro G p l e R s m args below meth c Z hX hR H locs cells slots cls hH hS hL hO hc hs
  have hy : i32 y := (List.forall_mem_cons.mp hO).1.1 rfl
  have hx : i32 x := (List.forall_mem_cons.mp (List.forall_mem_cons.mp hO).2).1.1 rfl
  exact lv_icmp_lt hX.1 hX.2.1 hd ht (fun h => kt ((i32_lt hx hy).mp h) G p l e R s m args below meth c Z hX hR H locs cells slots cls hH hS hL (List.forall_mem_cons.mp (List.forall_mem_cons.mp hO).2).2 hc hs) (fun h => kf (Int.not_lt.mp (fun q => h ((i32_lt hx hy).mpr q))) G p l e R s m args below meth c Z hX hR H locs cells slots cls hH hS hL (List.forall_mem_cons.mp (List.forall_mem_cons.mp hO).2).2 hc hs)

theorem x_if_lt {M : MM} {d pc : Nat} {ls : List AV} {X : XX} {v : VV} {mc ms : Nat} {Q : QQ} {rest : List AV} {x off : Int} (tgt : Nat) (hd : decode M.2.1 pc = .ok (.ifCond .lt off, 3)) (ht : (pc : Int) + off = (tgt : Int)) (kt : x < 0 → Ex M d tgt ls rest X v mc ms Q) (kf : 0 ≤ x → Ex M d (pc + 3) ls rest X v mc ms Q) : Ex M d pc ls ((0, x) :: rest) X v mc ms Q := by
  intro G p l e R s m args below meth c Z hX hR H locs cells slots cls hH hS hL hO hc hs
  have hx : i32 x := (List.forall_mem_cons.mp hO).1.1 rfl
  exact lv_if_lt hX.1 hX.2.1 hd ht (fun h => kt ((i32_lt hx i32_0).mp h) G p l e R s m args below meth c Z hX hR H locs cells slots cls hH hS hL (List.forall_mem_cons.mp hO).2 hc hs) (fun h => kf (Int.not_lt.mp (fun q => h ((i32_lt hx i32_0).mpr q))) G p l e R s m args below meth c Z hX hR H locs cells slots cls hH hS hL (List.forall_mem_cons.mp hO).2 hc hs)

theorem x_icmp_ge {M : MM} {d pc : Nat} {ls : List AV} {X : XX} {v : VV} {mc ms : Nat} {Q : QQ} {rest : List AV} {x y off : Int} (tgt : Nat) (hd : decode M.2.1 pc = .ok (.if_icmp .ge off, 3)) (ht : (pc : Int) + off = (tgt : Int)) (kt : y ≤ x → Ex M d tgt ls rest X v mc ms Q) (kf : x < y → Ex M d (pc + 3) ls rest X v mc ms Q) : Ex M d pc ls ((0, y) :: (0, x) :: rest) X v mc ms Q := by
  intro G p l e R s m args below meth c Z hX hR H locs cells slots cls hH hS hL hO hc hs
  have hy : i32 y := (List.forall_mem_cons.mp hO).1.1 rfl
  have hx : i32 x := (List.forall_mem_cons.mp (List.forall_mem_cons.mp hO).2).1.1 rfl
  exact lv_icmp_ge hX.1 hX.2.1 hd ht (fun h => kt ((i32_le hy hx).mp h) G p l e R s m args below meth c Z hX hR H locs cells slots cls hH hS hL (List.forall_mem_cons.mp (List.forall_mem_cons.mp hO).2).2 hc hs) (fun h => kf (Int.not_le.mp (fun q => h ((i32_le hy hx).mpr q))) G p l e R s m args below meth c Z hX hR H locs cells slots cls hH hS hL (List.forall_mem_cons.mp (List.forall_mem_cons.mp hO).2).2 hc hs)

theorem x_if_ge {M : MM} {d pc : Nat} {ls : List AV} {X : XX} {v : VV} {mc ms : Nat} {Q : QQ} {rest : List AV} {x off : Int} (tgt : Nat) (hd : decode M.2.1 pc = .ok (.ifCond .ge off, 3)) (ht : (pc : Int) + off = (tgt : Int)) (kt : 0 ≤ x → Ex M d tgt ls rest X v mc ms Q) (kf : x < 0 → Ex M d (pc + 3) ls rest X v mc ms Q) : Ex M d pc ls ((0, x) :: rest) X v mc ms Q := by
  intro G p l e R s m args below meth c Z hX hR H locs cells slots cls hH hS hL hO hc hs
  have hx : i32 x := (List.forall_mem_cons.mp hO).1.1 rfl
  exact lv_if_ge hX.1 hX.2.1 hd ht (fun h => kt ((i32_le i32_0 hx).mp h) G p l e R s m args below meth c Z hX hR H locs cells slots cls hH hS hL (List.forall_mem_cons.mp hO).2 hc hs) (fun h => kf (Int.not_le.mp (fun q => h ((i32_le i32_0 hx).mpr q))) G p l e R s m args below meth c Z hX hR H locs cells slots cls hH hS hL (List.forall_mem_cons.mp hO).2 hc hs)

theorem x_icmp_gt {M : MM} {d pc : Nat} {ls : List AV} {X : XX} {v : VV} {mc ms : Nat} {Q : QQ} {rest : List AV} {x y off : Int} (tgt : Nat) (hd : decode M.2.1 pc = .ok (.if_icmp .gt off, 3)) (ht : (pc : Int) + off = (tgt : Int)) (kt : y < x → Ex M d tgt ls rest X v mc ms Q) (kf : x ≤ y → Ex M d (pc + 3) ls rest X v mc ms Q) : Ex M d pc ls ((0, y) :: (0, x) :: rest) X v mc ms Q := by
  intro G p l e R s m args below meth c Z hX hR H locs cells slots cls hH hS hL hO hc hs
  have hy : i32 y := (List.forall_mem_cons.mp hO).1.1 rfl
  have hx : i32 x := (List.forall_mem_cons.mp (List.forall_mem_cons.mp hO).2).1.1 rfl
  exact lv_icmp_gt hX.1 hX.2.1 hd ht (fun h => kt ((i32_lt hy hx).mp h) G p l e R s m args below meth c Z hX hR H locs cells slots cls hH hS hL (List.forall_mem_cons.mp (List.forall_mem_cons.mp hO).2).2 hc hs) (fun h => kf (Int.not_lt.mp (fun q => h ((i32_lt hy hx).mpr q))) G p l e R s m args below meth c Z hX hR H locs cells slots cls hH hS hL (List.forall_mem_cons.mp (List.forall_mem_cons.mp hO).2).2 hc hs)

theorem x_if_gt {M : MM} {d pc : Nat} {ls : List AV} {X : XX} {v : VV} {mc ms : Nat} {Q : QQ} {rest : List AV} {x off : Int} (tgt : Nat) (hd : decode M.2.1 pc = .ok (.ifCond .gt off, 3)) (ht : (pc : Int) + off = (tgt : Int)) (kt : 0 < x → Ex M d tgt ls rest X v mc ms Q) (kf : x ≤ 0 → Ex M d (pc + 3) ls rest X v mc ms Q) : Ex M d pc ls ((0, x) :: rest) X v mc ms Q := by
  intro G p l e R s m args below meth c Z hX hR H locs cells slots cls hH hS hL hO hc hs
  have hx : i32 x := (List.forall_mem_cons.mp hO).1.1 rfl
  exact lv_if_gt hX.1 hX.2.1 hd ht (fun h => kt ((i32_lt i32_0 hx).mp h) G p l e R s m args below meth c Z hX hR H locs cells slots cls hH hS hL (List.forall_mem_cons.mp hO).2 hc hs) (fun h => kf (Int.not_lt.mp (fun q => h ((i32_lt i32_0 hx).mpr q))) G p l e R s m args below meth c Z hX hR H locs cells slots cls hH hS hL (List.forall_mem_cons.mp hO).2 hc hs)

theorem x_icmp_le {M : MM} {d pc : Nat} {ls : List AV} {X : XX} {v : VV} {mc ms : Nat} {Q : QQ} {rest : List AV} {x y off : Int} (tgt : Nat) (hd : decode M.2.1 pc = .ok (.if_icmp .le off, 3)) (ht : (pc : Int) + off = (tgt : Int)) (kt : x ≤ y → Ex M d tgt ls rest X v mc ms Q) (kf : y < x → Ex M d (pc + 3) ls rest X v mc ms Q) : Ex M d pc ls ((0, y) :: (0, x) :: rest) X v mc ms Q := by
  intro G p l e R s m args below meth c Z hX hR H locs cells slots cls hH hS hL hO hc hs
  have hy : i32 y := (List.forall_mem_cons.mp hO).1.1 rfl
  have hx : i32 x := (List.forall_mem_cons.mp (List.forall_mem_cons.mp hO).2).1.1 rfl
  exact lv_icmp_le hX.1 hX.2.1 hd ht (fun h => kt ((i32_le hx hy).mp h) G p l e R s m args below meth c Z hX hR H locs cells slots cls hH hS hL (List.forall_mem_cons.mp (List.forall_mem_cons.mp hO).2).2 hc hs) (fun h => kf (Int.not_le.mp (fun q => h ((i32_le hx hy).mpr q))) G p l e R s m args below meth c Z hX hR H locs cells slots cls hH hS hL (List.forall_mem_cons.mp (List.forall_mem_cons.mp hO).2).2 hc hs)

theorem x_if_le {M : MM} {d pc : Nat} {ls : List AV} {X : XX} {v : VV} {mc ms : Nat} {Q : QQ} {rest : List AV} {x off : Int} (tgt : Nat) (hd : decode M.2.1 pc = .ok (.ifCond .le off, 3)) (ht : (pc : Int) + off = (tgt : Int)) (kt : x ≤ 0 → Ex M d tgt ls rest X v mc ms Q) (kf : 0 < x → Ex M d (pc + 3) ls rest X v mc ms Q) : Ex M d pc ls ((0, x) :: rest) X v mc ms Q := by
  intro G p l e R s m args below meth c Z hX hR H locs cells slots cls hH hS hL hO hc hs
  have hx : i32 x := (List.forall_mem_cons.mp hO).1.1 rfl
  exact lv_if_le hX.1 hX.2.1 hd ht (fun h => kt ((i32_le hx i32_0).mp h) G p l e R s m args below meth c Z hX hR H locs cells slots cls hH hS hL (List.forall_mem_cons.mp hO).2 hc hs) (fun h => kf (Int.not_le.mp (fun q => h ((i32_le hx i32_0).mpr q))) G p l e R s m args below meth c Z hX hR H locs cells slots cls hH hS hL (List.forall_mem_cons.mp hO).2 hc hs)

theorem x_goto {M : MM} {d pc : Nat} {ls : List AV} {X : XX} {v : VV} {mc ms : Nat} {Q : QQ} {rest : List AV} {off : Int} (tgt : Nat) (hd : decode M.2.1 pc = .ok (.goto off, 3)) (ht : (pc : Int) + off = (tgt : Int)) (k : Ex M d tgt ls rest X v mc ms Q) : Ex M d pc ls rest X v mc ms Q := by
  intro G p l e R s m args below meth c Z hX hR H locs cells slots cls hH hS hL hO hc hs
  exact lv_goto hX.1 hX.2.1 hd ht (k G p l e R s m args below meth c Z hX hR H locs cells slots cls hH hS hL hO hc hs)

theorem x_ifnull {M : MM} {d pc : Nat} {ls : List AV} {X : XX} {v : VV} {mc ms : Nat} {Q : QQ} {rest : List AV} {x off : Int} (tgt : Nat) (hd : decode M.2.1 pc = .ok (.ifnull off, 3)) (ht : (pc : Int) + off = (tgt : Int)) (kt : x = -1 → Ex M d tgt ls rest X v mc ms Q) (kf : ¬ x = -1 → Ex M d (pc + 3) ls rest X v mc ms Q) : Ex M d pc ls ((2, x) :: rest) X v mc ms Q := by
  intro G p l e R s m args below meth c Z hX hR H locs cells slots cls hH hS hL hO hc hs
  by_cases hx : x = -1
  · subst hx
    exact lv_ifnullN hX.1 hX.2.1 hd ht (kt rfl G p l e R s m args below meth c Z hX hR H locs cells slots cls hH hS hL (List.forall_mem_cons.mp hO).2 hc hs)
  · obtain ⟨a, ha⟩ := cref_some G hx
    simp only [List.map_cons]
    rw [show conc G (2, x) = .ref a from ha]
    exact lv_ifnull hX.1 hX.2.1 hd (kf hx G p l e R s m args below meth c Z hX hR H locs cells slots cls hH hS hL (List.forall_mem_cons.mp hO).2 hc hs)

theorem x_ifnonnull {M : MM} {d pc : Nat} {ls : List AV} {X : XX} {v : VV} {mc ms : Nat} {Q : QQ} {rest : List AV} {x off : Int} (tgt : Nat) (hd : decode M.2.1 pc = .ok (.ifnonnull off, 3)) (ht : (pc : Int) + off = (tgt : Int)) (kt : ¬ x = -1 → Ex M d tgt ls rest X v mc ms Q) (kf : x = -1 → Ex M d (pc + 3) ls rest X v mc ms Q) : Ex M d pc ls ((2, x) :: rest) X v mc ms Q := by
  intro G p l e R s m args below meth c Z hX hR H locs cells slots cls hH hS hL hO hc hs
  by_cases hx : x = -1
  · subst hx
    exact lv_ifnonnullN hX.1 hX.2.1 hd (kf rfl G p l e R s m args below meth c Z hX hR H locs cells slots cls hH hS hL (List.forall_mem_cons.mp hO).2 hc hs)
  · obtain ⟨a, ha⟩ := cref_some G hx
    simp only [List.map_cons]
    rw [show conc G (2, x) = .ref a from ha]
    exact lv_ifnonnull hX.1 hX.2.1 hd ht (kt hx G p l e R s m args below meth c Z hX hR H locs cells slots cls hH hS hL (List.forall_mem_cons.mp hO).2 hc hs)

theorem x_ldc2 {M : MM} {d pc : Nat} {ls : List AV} {X : XX} {v : VV} {mc ms : Nat} {Q : QQ} {rest : List AV} {idx : Nat} {i : Int} (w : Int64) (hd : decode M.2.1 pc = .ok (.ldc2_w idx, 3)) (hw : Cond.constantLong M.1.cls idx w ∈ TB) (hi : w = Int64.ofInt i) (hi2 : i64 i) (k : Ex M d (pc + 3) ls ((1, i) :: rest) X v mc ms Q) : Ex M d pc ls rest X v mc ms Q := by
  intro G p l e R s m args below meth c Z hX hR H locs cells slots cls hH hS hL hO hc hs
  subst hi
  exact lv_ldc2 hX.1 hX.2.1 hX.2.2.2.2.1 (hX.2.2.2.2.2.1 _ hw) hd (k G p l e R s m args below meth c Z hX hR H locs cells slots cls hH hS hL (List.forall_mem_cons.mpr ⟨okv_l hi2, hO⟩) hc hs)
theorem x_lcmp {M : MM} {d pc : Nat} {ls : List AV} {X : XX} {v : VV} {mc ms : Nat} {Q : QQ} {rest : List AV} {x y : Int} (hd : decode M.2.1 pc = .ok (.lcmp, 1)) (k : ∀ z : Int, (z = 0 ↔ x = y) → (z < 0 ↔ x < y) → -1 ≤ z ∧ z ≤ 1 → Ex M d (pc + 1) ls ((0, z) :: rest) X v mc ms Q) : Ex M d pc ls ((1, y) :: (1, x) :: rest) X v mc ms Q := by
  intro G p l e R s m args below meth c Z hX hR H locs cells slots cls hH hS hL hO hc hs
  obtain ⟨z, hz, h1, h2, h3⟩ := lg_cmp_int ((List.forall_mem_cons.mp (List.forall_mem_cons.mp hO).2).1.2 rfl) ((List.forall_mem_cons.mp hO).1.2 rfl)
  have k2 := k z h1 h2 h3 G p l e R s m args below meth c Z hX hR H locs cells slots cls hH hS hL (List.forall_mem_cons.mpr ⟨okv_i ⟨by omega, by omega⟩, (List.forall_mem_cons.mp (List.forall_mem_cons.mp hO).2).2⟩) hc hs
  simp only [List.map_cons] at k2
  rw [show conc G (0, z) = .int (lg_cmp (Int64.ofInt x) (Int64.ofInt y)) from congrArg Value.int hz.symm] at k2
  exact W.lcmp hX.1 hX.2.1 hd k2
theorem x_tableAt {M : MM} {d pc : Nat} {ls : List AV} {X : XX} {v : VV} {mc ms : Nat} {Q : QQ} {rest : List AV} {x dflt lo hi off : Int} {offs : Array Int} {len : Nat} (tgt : Nat) (hd : decode M.2.1 pc = .ok (.tableswitch dflt lo hi offs, len)) (h1 : lo ≤ x) (h2 : x ≤ hi) (ho : offs[(x - lo).toNat]? = some off) (ht : (pc : Int) + off = (tgt : Int)) (k : Ex M d tgt ls rest X v mc ms Q) : Ex M d pc ls ((0, x) :: rest) X v mc ms Q := by
  intro G p l e R s m args below meth c Z hX hR H locs cells slots cls hH hS hL hO hc hs
  have ex := i32_toInt (x := x) ((List.forall_mem_cons.mp hO).1.1 rfl)
  exact lv_tableIn hX.1 hX.2.1 hd (by rw [ex]; exact Int.not_lt.mpr h1) (by rw [ex]; exact Int.not_lt.mpr h2) (by rw [ex]; exact ho) ht (k G p l e R s m args below meth c Z hX hR H locs cells slots cls hH hS hL (List.forall_mem_cons.mp hO).2 hc hs)
theorem x_tableOut {M : MM} {d pc : Nat} {ls : List AV} {X : XX} {v : VV} {mc ms : Nat} {Q : QQ} {rest : List AV} {x dflt lo hi : Int} {offs : Array Int} {len : Nat} (tgt : Nat) (hd : decode M.2.1 pc = .ok (.tableswitch dflt lo hi offs, len)) (h1 : x < lo ∨ hi < x) (ht : (pc : Int) + dflt = (tgt : Int)) (k : Ex M d tgt ls rest X v mc ms Q) : Ex M d pc ls ((0, x) :: rest) X v mc ms Q := by
  intro G p l e R s m args below meth c Z hX hR H locs cells slots cls hH hS hL hO hc hs
  have ex := i32_toInt (x := x) ((List.forall_mem_cons.mp hO).1.1 rfl)
  exact lv_tableOut hX.1 hX.2.1 hd (by rw [ex]; exact h1) ht (k G p l e R s m args below meth c Z hX hR H locs cells slots cls hH hS hL (List.forall_mem_cons.mp hO).2 hc hs)
theorem x_lookup {M : MM} {d pc : Nat} {ls : List AV} {X : XX} {v : VV} {mc ms : Nat} {Q : QQ} {rest : List AV} {x dflt off : Int} {ps : Array (Int × Int)} {len : Nat} (tgt : Nat) (hd : decode M.2.1 pc = .ok (.lookupswitch dflt ps, len)) (hp : (ps.toList.zip (ps.toList.drop 1)).all (fun (a, next) => a.1 < next.1) = true) (ho : Op.lookupswitch.offset ps.toList dflt x = off) (ht : (pc : Int) + off = (tgt : Int)) (k : Ex M d tgt ls rest X v mc ms Q) : Ex M d pc ls ((0, x) :: rest) X v mc ms Q := by
  intro G p l e R s m args below meth c Z hX hR H locs cells slots cls hH hS hL hO hc hs
  exact lv_lookup hX.1 hX.2.1 hd hp (by rw [i32_toInt ((List.forall_mem_cons.mp hO).1.1 rfl)]; exact ho) ht (k G p l e R s m args below meth c Z hX hR H locs cells slots cls hH hS hL (List.forall_mem_cons.mp hO).2 hc hs)
theorem x_ret {M : MM} {d pc : Nat} {ls : List AV} {X : XX} {v : VV} {mc ms : Nat} {Q : QQ} {rest : List AV} (o : Option AV) (hst : rest = o.toList) (hr : retAt M pc o) (hq : Q o X v) : Ex M d pc ls rest X v mc ms Q := by
  intro G p l e R s m args below meth c Z hX hR H locs cells slots cls hH hS hL hO hc hs
  subst hst
  exact hR o X v H locs cells slots pc cls hq hO hr hH hS (by omega) (by omega)
theorem x_widen {M : MM} {d pc : Nat} {ls : List AV} {X : XX} {v : VV} {mc ms : Nat} {Q : QQ} {rest : List AV} {mc' ms' : Nat} (h1 : mc' ≤ mc) (h2 : ms' ≤ ms) (k : Ex M d pc ls rest X v mc' ms' Q) : Ex M d pc ls rest X v mc ms Q := by
  intro G p l e R s m args below meth c Z hX hR H locs cells slots cls hH hS hL hO hc hs
  exact k G p l e R s m args below meth c Z hX hR H locs cells slots cls hH hS hL hO (by omega) (by omega)
theorem x_deep {M : MM} {d pc : Nat} {ls : List AV} {X : XX} {v : VV} {mc ms : Nat} {Q : QQ} {rest : List AV} {d' : Nat} (h1 : d' ≤ d) (k : Ex M d' pc ls rest X v mc ms Q) : Ex M d pc ls rest X v mc ms Q := by
  intro G p l e R s m args below meth c Z hX hR H locs cells slots cls hH hS hL hO hc hs
  obtain ⟨a1, a2, a3, a4, a5, a6, a7, a8, a9, a10, a11⟩ := hX
  exact k G p l e R s m args below meth c Z ⟨a1, a2, a3, a4, a5, a6, a7, a8, a9, by omega, by omega⟩ hR H locs cells slots cls hH hS hL hO hc hs
theorem x_mono {M : MM} {d pc : Nat} {ls : List AV} {X : XX} {v : VV} {mc ms : Nat} {Q : QQ} {rest : List AV} {Q' : QQ} (hq : ∀ o X v, Q o X v → Q' o X v) (k : Ex M d pc ls rest X v mc ms Q) : Ex M d pc ls rest X v mc ms Q' := by
  intro G p l e R s m args below meth c Z hX hR H locs cells slots cls hH hS hL hO hc hs
  exact k G p l e R s m args below meth c Z hX (fun o X' v' H locs cells slots pc cls h => hR o X' v' H locs cells slots pc cls (hq _ _ _ h)) H locs cells slots cls hH hS hL hO hc hs
theorem x_eq {M : MM} {d pc : Nat} {ls : List AV} {X : XX} {v : VV} {mc ms : Nat} {Q : QQ} {rest : List AV} {ls2 rest2 : List AV} (h1 : ls = ls2) (h2 : rest = rest2) (k : Ex M d pc ls2 rest2 X v mc ms Q) : Ex M d pc ls rest X v mc ms Q := by
  subst h1; subst h2; exact k
theorem x_li32 {M : MM} {d pc : Nat} {ls : List AV} {X : XX} {v : VV} {mc ms : Nat} {Q : QQ} {rest : List AV} {i : Nat} {x : Int} (hl : ls[i]? = some (0, x)) (k : i32 x → Ex M d pc ls rest X v mc ms Q) : Ex M d pc ls rest X v mc ms Q := by
  intro G p l e R s m args below meth c Z hX hR H locs cells slots cls hH hS hL hO hc hs
  exact k ((hL.2.2.2.2 _ (List.mem_of_getElem? hl)).1 rfl) G p l e R s m args below meth c Z hX hR H locs cells slots cls hH hS hL hO hc hs
theorem x_li64 {M : MM} {d pc : Nat} {ls : List AV} {X : XX} {v : VV} {mc ms : Nat} {Q : QQ} {rest : List AV} {i : Nat} {x : Int} (hl : ls[i]? = some (1, x)) (k : i64 x → Ex M d pc ls rest X v mc ms Q) : Ex M d pc ls rest X v mc ms Q := by
  intro G p l e R s m args below meth c Z hX hR H locs cells slots cls hH hS hL hO hc hs
  exact k ((hL.2.2.2.2 _ (List.mem_of_getElem? hl)).2 rfl) G p l e R s m args below meth c Z hX hR H locs cells slots cls hH hS hL hO hc hs
theorem x_si32 {M : MM} {d pc : Nat} {ls : List AV} {X : XX} {v : VV} {mc ms : Nat} {Q : QQ} {rest : List AV} {i : Nat} {x : Int} (hl : rest[i]? = some (0, x)) (k : i32 x → Ex M d pc ls rest X v mc ms Q) : Ex M d pc ls rest X v mc ms Q := by
  intro G p l e R s m args below meth c Z hX hR H locs cells slots cls hH hS hL hO hc hs
  exact k ((hO _ (List.mem_of_getElem? hl)).1 rfl) G p l e R s m args below meth c Z hX hR H locs cells slots cls hH hS hL hO hc hs
theorem x_hi32 {M : MM} {d pc : Nat} {ls : List AV} {X : XX} {v : VV} {mc ms : Nat} {Q : QQ} {rest : List AV} {r j : Int} {ki len : Nat} (hs2 : X.1.2 r = (ki, len)) (hr : 0 ≤ r ∧ r < X.1.1) (hj : 0 ≤ j) (ht : tgk ki j.toNat = 0) (k : i32 (v r j) → Ex M d pc ls rest X v mc ms Q) : Ex M d pc ls rest X v mc ms Q := by
  intro G p l e R s m args below meth c Z hX hR H locs cells slots cls hH hS hL hO hc hs
  have h1 := (hH.2 r.toNat (by omega)).1 j.toNat
  rw [Int.toNat_of_nonneg hr.1, hs2, Int.toNat_of_nonneg hj] at h1
  exact k (h1.1 ht) G p l e R s m args below meth c Z hX hR H locs cells slots cls hH hS hL hO hc hs
