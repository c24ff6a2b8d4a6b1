/-! ===== the same rows over one given launch (the law reads its script) ===== -/
def Wg (G : GG) (M : MM) (p : Program) (l : Launch) (e : Env) (R : Room) (s : State) (m : MethodId) (args : Array Value) (below : List Frame) (meth : Method) (c : Code) (Z : State → Prop) (pc : Nat) (ls st : List AV) (X : XX) (v : VV) (mc ms : Nat) : Prop := ∀ (H : Heap) (locs : List Loc) (cells slots : Nat) (cls : Array Slot), HR G X v H → va_S (gF G) s.heap H locs → LR G M.2.2.1 cls ls → (∀ a ∈ st, okv a) → cells + mc ≤ R.cells → slots + ms ≤ R.slots → W p l e R s m args below meth c H locs cells slots Z (F0 m pc cls (st.map (conc G)))
theorem w_iconst {G : GG} {p : Program} {l : Launch} {e : Env} {R : Room} {s : State} {m : MethodId} {args : Array Value} {below : List Frame} {meth : Method} {c : Code} {Z : State → Prop} {M : MM} {d pc : Nat} {ls : List AV} {X : XX} {v : VV} {mc ms : Nat} {rest : List AV} {n i : Int} (hX : XC M d G p R s m args meth c) (hd : decode M.2.1 pc = .ok (.iconst n, 1)) (hv : n = i) (hi : i32 i) (k : Wg G M p l e R s m args below meth c Z (pc + 1) ls ((0, i) :: rest) X v mc ms) : Wg G M p l e R s m args below meth c Z pc ls (rest) X v mc ms := by
  intro H locs cells slots cls hH hS hL hO hc hs
  exact lv_iconst (v := Int32.ofInt i) hX.1 hX.2.1 hd (by rw [hv]) (k H locs cells slots cls hH hS hL (List.forall_mem_cons.mpr ⟨okv_i hi, hO⟩) hc hs)
theorem w_bipush {G : GG} {p : Program} {l : Launch} {e : Env} {R : Room} {s : State} {m : MethodId} {args : Array Value} {below : List Frame} {meth : Method} {c : Code} {Z : State → Prop} {M : MM} {d pc : Nat} {ls : List AV} {X : XX} {v : VV} {mc ms : Nat} {rest : List AV} {n i : Int} (hX : XC M d G p R s m args meth c) (hd : decode M.2.1 pc = .ok (.bipush n, 2)) (hv : (Int8.ofInt n).toInt32 = Int32.ofInt i) (hi : i32 i) (k : Wg G M p l e R s m args below meth c Z (pc + 2) ls ((0, i) :: rest) X v mc ms) : Wg G M p l e R s m args below meth c Z pc ls (rest) X v mc ms := by
  intro H locs cells slots cls hH hS hL hO hc hs
  exact lv_bipush (v := Int32.ofInt i) hX.1 hX.2.1 hd hv (k H locs cells slots cls hH hS hL (List.forall_mem_cons.mpr ⟨okv_i hi, hO⟩) hc hs)
theorem w_iload_n {G : GG} {p : Program} {l : Launch} {e : Env} {R : Room} {s : State} {m : MethodId} {args : Array Value} {below : List Frame} {meth : Method} {c : Code} {Z : State → Prop} {M : MM} {d pc : Nat} {ls : List AV} {X : XX} {v : VV} {mc ms : Nat} {rest : List AV} {n : Fin 4} {x : Int} (hX : XC M d G p R s m args meth c) (hd : decode M.2.1 pc = .ok (.iload_n n, 1)) (hl : ls[(n : Nat)]? = some (0, x)) (k : Wg G M p l e R s m args below meth c Z (pc + 1) ls ((0, x) :: rest) X v mc ms) : Wg G M p l e R s m args below meth c Z pc ls (rest) X v mc ms := by
  intro H locs cells slots cls hH hS hL hO hc hs
  exact lv_iload_n hX.1 hX.2.1 hd rfl (hL.2.2.2.1 _ _ hl (Nat.le_of_ble_eq_true rfl)) (k H locs cells slots cls hH hS hL (List.forall_mem_cons.mpr ⟨hL.2.2.2.2 _ (List.mem_of_getElem? hl), hO⟩) hc hs)
theorem w_aload_n {G : GG} {p : Program} {l : Launch} {e : Env} {R : Room} {s : State} {m : MethodId} {args : Array Value} {below : List Frame} {meth : Method} {c : Code} {Z : State → Prop} {M : MM} {d pc : Nat} {ls : List AV} {X : XX} {v : VV} {mc ms : Nat} {rest : List AV} {n : Fin 4} {x : Int} (hX : XC M d G p R s m args meth c) (hd : decode M.2.1 pc = .ok (.aload_n n, 1)) (hl : ls[(n : Nat)]? = some (2, x)) (k : Wg G M p l e R s m args below meth c Z (pc + 1) ls ((2, x) :: rest) X v mc ms) : Wg G M p l e R s m args below meth c Z pc ls rest X v mc ms := by
  intro H locs cells slots cls hH hS hL hO hc hs
  have hl2 := hL.2.2.2.1 _ _ hl (Nat.le_of_ble_eq_true rfl)
  have k2 := k H locs cells slots cls hH hS hL (List.forall_mem_cons.mpr ⟨okv_r, hO⟩) hc hs
  have hv : conc G (2, x) = .null ∨ ∃ a, conc G (2, x) = .ref a := cref_or G x
  simp only [List.map_cons] at k2
  rcases hv with hv | ⟨a, hv⟩ <;> rw [hv] at hl2 k2
  · exact lv_aload_nN hX.1 hX.2.1 hd rfl hl2 k2
  · exact lv_aload_n hX.1 hX.2.1 hd rfl hl2 k2
theorem w_iadd {G : GG} {p : Program} {l : Launch} {e : Env} {R : Room} {s : State} {m : MethodId} {args : Array Value} {below : List Frame} {meth : Method} {c : Code} {Z : State → Prop} {M : MM} {d pc : Nat} {ls : List AV} {X : XX} {v : VV} {mc ms : Nat} {rest : List AV} {x y : Int} (hX : XC M d G p R s m args meth c) (hd : decode M.2.1 pc = .ok (.iadd, 1)) (hz : i32 (x + y)) (k : Wg G M p l e R s m args below meth c Z (pc + 1) ls ((0, x + y) :: rest) X v mc ms) : Wg G M p l e R s m args below meth c Z pc ls ((0, y) :: (0, x) :: rest) X v mc ms := by
  intro H locs cells slots cls hH hS hL hO hc hs
  have k2 := (k H locs cells slots cls hH hS hL (List.forall_mem_cons.mpr ⟨okv_i hz, (List.forall_mem_cons.mp (List.forall_mem_cons.mp hO).2).2⟩) hc hs)
  simp only [List.map_cons] at k2
  rw [show conc G (0, x + y) = .int (Int32.ofInt x + Int32.ofInt y) from congrArg Value.int (Int32.ofInt_add x y)] at k2
  exact lv_iadd hX.1 hX.2.1 hd k2
theorem w_isub {G : GG} {p : Program} {l : Launch} {e : Env} {R : Room} {s : State} {m : MethodId} {args : Array Value} {below : List Frame} {meth : Method} {c : Code} {Z : State → Prop} {M : MM} {d pc : Nat} {ls : List AV} {X : XX} {v : VV} {mc ms : Nat} {rest : List AV} {x y : Int} (hX : XC M d G p R s m args meth c) (hd : decode M.2.1 pc = .ok (.isub, 1)) (hz : i32 (x - y)) (k : Wg G M p l e R s m args below meth c Z (pc + 1) ls ((0, x - y) :: rest) X v mc ms) : Wg G M p l e R s m args below meth c Z pc ls ((0, y) :: (0, x) :: rest) X v mc ms := by
  intro H locs cells slots cls hH hS hL hO hc hs
  have k2 := (k H locs cells slots cls hH hS hL (List.forall_mem_cons.mpr ⟨okv_i hz, (List.forall_mem_cons.mp (List.forall_mem_cons.mp hO).2).2⟩) hc hs)
  simp only [List.map_cons] at k2
  rw [show conc G (0, x - y) = .int (Int32.ofInt x - Int32.ofInt y) from congrArg Value.int (Int32.ofInt_sub x y)] at k2
  exact lv_isub hX.1 hX.2.1 hd k2
theorem w_iand {G : GG} {p : Program} {l : Launch} {e : Env} {R : Room} {s : State} {m : MethodId} {args : Array Value} {below : List Frame} {meth : Method} {c : Code} {Z : State → Prop} {M : MM} {d pc : Nat} {ls : List AV} {X : XX} {v : VV} {mc ms : Nat} {rest : List AV} {x y z : Int} (hX : XC M d G p R s m args meth c) (hd : decode M.2.1 pc = .ok (.iand, 1)) (hz : Int32.ofInt x &&& Int32.ofInt y = Int32.ofInt z) (hi : i32 z) (k : Wg G M p l e R s m args below meth c Z (pc + 1) ls ((0, z) :: rest) X v mc ms) : Wg G M p l e R s m args below meth c Z pc ls ((0, y) :: (0, x) :: rest) X v mc ms := by
  intro H locs cells slots cls hH hS hL hO hc hs
  have k2 := (k H locs cells slots cls hH hS hL (List.forall_mem_cons.mpr ⟨okv_i hi, (List.forall_mem_cons.mp (List.forall_mem_cons.mp hO).2).2⟩) hc hs)
  simp only [List.map_cons] at k2
  rw [show conc G (0, z) = .int (Int32.ofInt x &&& Int32.ofInt y) from congrArg Value.int hz.symm] at k2
  exact lv_iand hX.1 hX.2.1 hd k2
theorem w_dup {G : GG} {p : Program} {l : Launch} {e : Env} {R : Room} {s : State} {m : MethodId} {args : Array Value} {below : List Frame} {meth : Method} {c : Code} {Z : State → Prop} {M : MM} {d pc : Nat} {ls : List AV} {X : XX} {v : VV} {mc ms : Nat} {rest : List AV} {a : AV} (hX : XC M d G p R s m args meth c) (hd : decode M.2.1 pc = .ok (.dup, 1)) (ha : ¬ a.1 = 1) (k : Wg G M p l e R s m args below meth c Z (pc + 1) ls (a :: a :: rest) X v mc ms) : Wg G M p l e R s m args below meth c Z pc ls (a :: rest) X v mc ms := by
  intro H locs cells slots cls hH hS hL hO hc hs
  exact lv_dup hX.1 hX.2.1 hd (by rw [conc_cat, if_neg ha]) (k H locs cells slots cls hH hS hL (List.forall_mem_cons.mpr ⟨(List.forall_mem_cons.mp hO).1, hO⟩) hc hs)
theorem w_istore_n {G : GG} {p : Program} {l : Launch} {e : Env} {R : Room} {s : State} {m : MethodId} {args : Array Value} {below : List Frame} {meth : Method} {c : Code} {Z : State → Prop} {M : MM} {d pc : Nat} {ls : List AV} {X : XX} {v : VV} {mc ms : Nat} {rest : List AV} {n : Fin 4} {x : Int} (hX : XC M d G p R s m args meth c) (ls' : List AV) (hd : decode M.2.1 pc = .ok (.istore_n n, 1)) (hs2 : setLg ls 0 (n : Nat) (0, x) = ls') (hn : (n : Nat) < M.2.2.1) (k : Wg G M p l e R s m args below meth c Z (pc + 1) ls' rest X v mc ms) : Wg G M p l e R s m args below meth c Z pc ls ((0, x) :: rest) X v mc ms := by
  intro H locs cells slots cls hH hS hL hO hc hs
  exact lv_istore_n hX.1 hX.2.1 hd rfl hL.has hn rfl (fun ls2 h2 => k H locs cells slots ls2 hH hS (hs2 ▸ LR.set1 (v := (0, x)) (List.forall_mem_cons.mp hO).1 hL (by simp) h2) (List.forall_mem_cons.mp hO).2 hc hs)
theorem w_astore_n {G : GG} {p : Program} {l : Launch} {e : Env} {R : Room} {s : State} {m : MethodId} {args : Array Value} {below : List Frame} {meth : Method} {c : Code} {Z : State → Prop} {M : MM} {d pc : Nat} {ls : List AV} {X : XX} {v : VV} {mc ms : Nat} {rest : List AV} {n : Fin 4} {x : Int} (hX : XC M d G p R s m args meth c) (ls' : List AV) (hd : decode M.2.1 pc = .ok (.astore_n n, 1)) (hs2 : setLg ls 0 (n : Nat) (2, x) = ls') (hn : (n : Nat) < M.2.2.1) (k : Wg G M p l e R s m args below meth c Z (pc + 1) ls' rest X v mc ms) : Wg G M p l e R s m args below meth c Z pc ls ((2, x) :: rest) X v mc ms := by
  intro H locs cells slots cls hH hS hL hO hc hs
  have hv : conc G (2, x) = .null ∨ ∃ a, conc G (2, x) = .ref a := cref_or G x
  have key : ∀ ls2, lv_has ls2 M.2.2.1 (((n : Nat), conc G (2, x)) :: (lvl G ls).filter (fun q => !(q.1 == (n : Nat)) && !(q.1 + 1 == (n : Nat) && q.2.category == 2))) → W p l e R s m args below meth c H locs cells slots Z (F0 m (pc + 1) ls2 (rest.map (conc G))) := fun ls2 h2 => k H locs cells slots ls2 hH hS (hs2 ▸ LR.set1 (v := (2, x)) (List.forall_mem_cons.mp hO).1 hL (by simp) h2) (List.forall_mem_cons.mp hO).2 hc hs
  simp only [List.map_cons]
  rcases hv with hv | ⟨a, hv⟩ <;> rw [hv] at key ⊢
  · exact lv_astore_nN hX.1 hX.2.1 hd rfl hL.has hn rfl key
  · exact lv_astore_n hX.1 hX.2.1 hd rfl hL.has hn rfl key
theorem w_iinc {G : GG} {p : Program} {l : Launch} {e : Env} {R : Room} {s : State} {m : MethodId} {args : Array Value} {below : List Frame} {meth : Method} {c : Code} {Z : State → Prop} {M : MM} {d pc : Nat} {ls : List AV} {X : XX} {v : VV} {mc ms : Nat} {rest : List AV} {i : Nat} {n x : Int} (hX : XC M d G p R s m args meth c) (ls' : List AV) (hd : decode M.2.1 pc = .ok (.iinc i n, 3)) (hl : ls[i]? = some (0, x)) (hs2 : setLg ls 0 i (0, x + n) = ls') (hn : i < M.2.2.1) (hz : i32 (x + n)) (k : Wg G M p l e R s m args below meth c Z (pc + 3) ls' rest X v mc ms) : Wg G M p l e R s m args below meth c Z pc ls rest X v mc ms := by
  intro H locs cells slots cls hH hS hL hO hc hs
  obtain ⟨kk, hk⟩ := List.getElem?_of_mem (lvl_mem (G := G) hl (by show (0 : Nat) < 3; decide))
  exact lv_iinc hX.1 hX.2.1 hd hL.has hk (Int32.ofInt_add x n).symm hn rfl (fun ls2 h2 => k H locs cells slots ls2 hH hS (hs2 ▸ LR.set1 (v := (0, x + n)) (okv_i hz) hL (by simp) h2) hO hc hs)
theorem w_icmp_eq {G : GG} {p : Program} {l : Launch} {e : Env} {R : Room} {s : State} {m : MethodId} {args : Array Value} {below : List Frame} {meth : Method} {c : Code} {Z : State → Prop} {M : MM} {d pc : Nat} {ls : List AV} {X : XX} {v : VV} {mc ms : Nat} {rest : List AV} {x y off : Int} (hX : XC M d G p R s m args meth c) (tgt : Nat) (hd : decode M.2.1 pc = .ok (.if_icmp .eq off, 3)) (ht : (pc : Int) + off = (tgt : Int)) (kt : x = y → Wg G M p l e R s m args below meth c Z tgt ls rest X v mc ms) (kf : ¬ x = y → Wg G M p l e R s m args below meth c Z (pc + 3) ls rest X v mc ms) : Wg G M p l e R s m args below meth c Z pc ls ((0, y) :: (0, x) :: rest) X v mc ms := by
  intro H locs cells slots cls hH hS hL hO hc hs
  have hy : i32 y := (List.forall_mem_cons.mp hO).1.1 rfl
  have hx : i32 x := (List.forall_mem_cons.mp (List.forall_mem_cons.mp hO).2).1.1 rfl
  exact lv_icmp_eq hX.1 hX.2.1 hd ht (fun h => kt ((i32_eq hx hy).mp h) H locs cells slots cls hH hS hL (List.forall_mem_cons.mp (List.forall_mem_cons.mp hO).2).2 hc hs) (fun h => kf (fun q => h ((i32_eq hx hy).mpr q)) H locs cells slots cls hH hS hL (List.forall_mem_cons.mp (List.forall_mem_cons.mp hO).2).2 hc hs)
theorem w_icmp_gt {G : GG} {p : Program} {l : Launch} {e : Env} {R : Room} {s : State} {m : MethodId} {args : Array Value} {below : List Frame} {meth : Method} {c : Code} {Z : State → Prop} {M : MM} {d pc : Nat} {ls : List AV} {X : XX} {v : VV} {mc ms : Nat} {rest : List AV} {x y off : Int} (hX : XC M d G p R s m args meth c) (tgt : Nat) (hd : decode M.2.1 pc = .ok (.if_icmp .gt off, 3)) (ht : (pc : Int) + off = (tgt : Int)) (kt : y < x → Wg G M p l e R s m args below meth c Z tgt ls rest X v mc ms) (kf : x ≤ y → Wg G M p l e R s m args below meth c Z (pc + 3) ls rest X v mc ms) : Wg G M p l e R s m args below meth c Z pc ls ((0, y) :: (0, x) :: rest) X v mc ms := by
  intro H locs cells slots cls hH hS hL hO hc hs
  have hy : i32 y := (List.forall_mem_cons.mp hO).1.1 rfl
  have hx : i32 x := (List.forall_mem_cons.mp (List.forall_mem_cons.mp hO).2).1.1 rfl
  exact lv_icmp_gt hX.1 hX.2.1 hd ht (fun h => kt ((i32_lt hy hx).mp h) H locs cells slots cls hH hS hL (List.forall_mem_cons.mp (List.forall_mem_cons.mp hO).2).2 hc hs) (fun h => kf (Int.not_lt.mp (fun q => h ((i32_lt hy hx).mpr q))) H locs cells slots cls hH hS hL (List.forall_mem_cons.mp (List.forall_mem_cons.mp hO).2).2 hc hs)
theorem w_goto {G : GG} {p : Program} {l : Launch} {e : Env} {R : Room} {s : State} {m : MethodId} {args : Array Value} {below : List Frame} {meth : Method} {c : Code} {Z : State → Prop} {M : MM} {d pc : Nat} {ls : List AV} {X : XX} {v : VV} {mc ms : Nat} {rest : List AV} {off : Int} (hX : XC M d G p R s m args meth c) (tgt : Nat) (hd : decode M.2.1 pc = .ok (.goto off, 3)) (ht : (pc : Int) + off = (tgt : Int)) (k : Wg G M p l e R s m args below meth c Z tgt ls rest X v mc ms) : Wg G M p l e R s m args below meth c Z pc ls rest X v mc ms := by
  intro H locs cells slots cls hH hS hL hO hc hs
  exact lv_goto hX.1 hX.2.1 hd ht (k H locs cells slots cls hH hS hL hO hc hs)
theorem w_tableAt {G : GG} {p : Program} {l : Launch} {e : Env} {R : Room} {s : State} {m : MethodId} {args : Array Value} {below : List Frame} {meth : Method} {c : Code} {Z : State → Prop} {M : MM} {d pc : Nat} {ls : List AV} {X : XX} {v : VV} {mc ms : Nat} {rest : List AV} {x dflt lo hi off : Int} {offs : Array Int} {len : Nat} (hX : XC M d G p R s m args meth c) (tgt : Nat) (hd : decode M.2.1 pc = .ok (.tableswitch dflt lo hi offs, len)) (h1 : lo ≤ x) (h2 : x ≤ hi) (ho : offs[(x - lo).toNat]? = some off) (ht : (pc : Int) + off = (tgt : Int)) (k : Wg G M p l e R s m args below meth c Z tgt ls rest X v mc ms) : Wg G M p l e R s m args below meth c Z pc ls ((0, x) :: rest) X v mc ms := by
  intro H locs cells slots cls hH hS hL hO hc hs
  have ex := i32_toInt (x := x) ((List.forall_mem_cons.mp hO).1.1 rfl)
  exact lv_tableIn hX.1 hX.2.1 hd (by rw [ex]; exact Int.not_lt.mpr h1) (by rw [ex]; exact Int.not_lt.mpr h2) (by rw [ex]; exact ho) ht (k H locs cells slots cls hH hS hL (List.forall_mem_cons.mp hO).2 hc hs)
theorem w_tableOut {G : GG} {p : Program} {l : Launch} {e : Env} {R : Room} {s : State} {m : MethodId} {args : Array Value} {below : List Frame} {meth : Method} {c : Code} {Z : State → Prop} {M : MM} {d pc : Nat} {ls : List AV} {X : XX} {v : VV} {mc ms : Nat} {rest : List AV} {x dflt lo hi : Int} {offs : Array Int} {len : Nat} (hX : XC M d G p R s m args meth c) (tgt : Nat) (hd : decode M.2.1 pc = .ok (.tableswitch dflt lo hi offs, len)) (h1 : x < lo ∨ hi < x) (ht : (pc : Int) + dflt = (tgt : Int)) (k : Wg G M p l e R s m args below meth c Z tgt ls rest X v mc ms) : Wg G M p l e R s m args below meth c Z pc ls ((0, x) :: rest) X v mc ms := by
  intro H locs cells slots cls hH hS hL hO hc hs
  have ex := i32_toInt (x := x) ((List.forall_mem_cons.mp hO).1.1 rfl)
  exact lv_tableOut hX.1 hX.2.1 hd (by rw [ex]; exact h1) ht (k H locs cells slots cls hH hS hL (List.forall_mem_cons.mp hO).2 hc hs)
theorem w_new {G : GG} {p : Program} {l : Launch} {e : Env} {R : Room} {s : State} {m : MethodId} {args : Array Value} {below : List Frame} {meth : Method} {c : Code} {Z : State → Prop} {M : MM} {d pc : Nat} {ls : List AV} {X : XX} {v : VV} {mc ms : Nat} {rest : List AV} {idx ci n : Nat} (hX : XC M d G p R s m args meth c) (hf : NL M.1.cls idx ci n) (hd : decode M.2.1 pc = .ok (.new idx, 3)) (hc : ci < 100) (h1 : 1 ≤ mc) (h2 : n ≤ ms) (kk : Wg G M p l e R s m args below meth c Z (pc + 3) ls ((2, (X.1.1 : Int)) :: rest) (nX X ci 0) (nV X v) (mc - 1) (ms - n)) : Wg G M p l e R s m args below meth c Z pc ls rest X v mc ms := by
  intro H locs cells slots cls hH hS hL hO hcX hsX
  obtain ⟨C, T, ty0, hcl, hin, hty, hlink, hins, hini, hdef⟩ := hf
  have hts := hX.2.2.2.2.2.1
  refine W.newc hX.1 hX.2.1 hX.2.2.2.2.1 (hts _ hlink) (hts _ hins) (hts _ hini) rfl hd (by omega) (by omega) fun cC kC f1 f2 f3 f4 => ?_
  generalize hH1 : H.push ({ cls := cC, slots := kC.instanceTypes.map defaultValue, vm := .none } : Cell) = H1
  have z1 : H1.size = H.size + 1 := by rw [← hH1, Array.size_push]
  have o1 : ∀ q : Nat, q < H.size → H1[q]? = H[q]? := fun q hq => by rw [← hH1, Array.getElem?_push, if_neg (Nat.ne_of_lt hq)]
  have e1 : H1[H.size]? = some (blank cC kC) := by rw [← hH1, Array.getElem?_push_size]; rfl
  have hK := hX.2.2.2.2.2.2.2.2.1.1.1 ci _ hcl
  have hcc : cC = (gD G).1 ci := Option.some.inj (f1.symm.trans hK.2.1)
  subst hcc
  have hb := u_born ty0 hts hin hK f2 e1 hty
  have k2 := kk H1 locs (cells + 1) (slots + n) cls (hH.push z1 o1 ?_) (hS.push2 z1 o1) hL (List.forall_mem_cons.mpr ⟨okv_r, hO⟩) (by omega) (by omega)
  · simp only [List.map_cons] at k2
    rw [show conc G (2, (X.1.1 : Int)) = .ref H.size by rw [hH.1]; exact cref_nn G (by omega)] at k2
    exact k2
  · unfold cok
    refine ⟨okv_new, ?_⟩
    have hsh : (nX X ci 0).1.2 (X.1.1 : Int) = (ci, 0) := by simp [nX]
    rw [hsh, if_pos hc]
    refine ⟨_, hcl, ?_⟩
    rw [← hH.1]
    exact hb.to (fun j hj => by rw [slotv_new]; exact hdef j hj G)
theorem w_inv {G : GG} {p : Program} {l : Launch} {e : Env} {R : Room} {s : State} {m : MethodId} {args : Array Value} {below : List Frame} {meth : Method} {c : Code} {Z : State → Prop} {M : MM} {d pc : Nat} {ls : List AV} {X : XX} {v : VV} {mc ms : Nat} {rest : List AV} {M' : MM} {d' mc' ms' idx ci n len : Nat} {r : Int} {avs : List AV} {P : QQ} (hX : XC M d G p R s m args meth c) (hd : decode M.2.1 pc = .ok (.invokevirtual idx, 3)) (hw : CV M.1.cls idx M' ci n) (hC : Con M' d' mc' ms' ((2, r) :: avs) X v P) (hs : X.1.2 r = (ci, len)) (hc : ci < 100) (hr : 0 ≤ r ∧ r < X.1.1) {st : List AV} (hst2 : st = avs.reverse ++ (2, r) :: rest) (hn : avs.length = n) (hdd : d' + 1 ≤ d) (h1 : mc' ≤ mc) (h2 : ms' ≤ ms) (hrest : (rest.map (fun a => if a.1 = 1 then 2 else 1)).sum ≤ 8)
    (kk : ∀ (o : Option AV) (X' : XX) (v' : VV), tagOK M'.2.2.2 o → P o X' v' → Wg G M p l e R s m args below meth c Z (pc + 3) ls (o.toList ++ rest) X' v' (mc - mc') (ms - ms')) : Wg G M p l e R s m args below meth c Z pc ls st X v mc ms := by
  subst hst2
  intro H locs cells slots cls hH hS hL hO hcX hsX
  obtain ⟨⟨T0, N0, hcl⟩, w1, w2, w3, w4, w5, w6, w7⟩ := hw
  obtain ⟨r0, g1, cell, q1, q2, q3, -⟩ := hH.obj hs hc hr
  cases g1.symm.trans hcl
  have hts := hX.2.2.2.2.2.1
  have hE := hX.2.2.2.2.2.2.2.2.1
  have hD1 := hX.2.2.2.2.2.2.2.2.2.1
  have hD2 := hX.2.2.2.2.2.2.2.2.2.2
  have hK := hE.1.1 ci _ hcl
  have hAv : ∀ a ∈ (2, r) :: avs, okv a := fun a ha => by
    rcases List.mem_cons.mp ha with rfl | ha
    · exact okv_r
    · exact hO a (List.mem_append_left _ (List.mem_reverse.mpr ha))
  have hRs : ∀ a ∈ rest, okv a := fun a ha => hO a (List.mem_append_right _ (List.mem_cons_of_mem _ ha))
  have cw : CallW R s args M.1.cls M'.1.cls idx M'.1 M'.2.1 M'.2.2.1 M'.2.2.2 (Cond.code M'.1 M'.2.1 M'.2.2.1 M'.2.2.2 :: TB) (RM d' mc' ms') mc' ms' n :=
    ⟨callB_of n hts (goodTB w4) rfl rfl rfl (hts _ w5) (hts _ w1) w6 ⟨by show d' + 1 ≤ _; omega, by show 8 + (M'.2.2.1 + 11) + 40 * d' ≤ _; omega⟩, hts _ w2, hts _ w3⟩
  refine x_back (va_runV (b := gsz G + r.toNat) (As := avs.map (conc G)) (rest := rest.map (conc G)) ⟨hX.1, hX.2.1, hX.2.2.1, hX.2.2.2.2.1, hts⟩ (hC l G) cw ⟨PcA.blind, ⟨cell, q1, by rw [q3]; rfl, by rw [q2]; exact hK.2.1⟩, fun U hU hW => ⟨?_, hAv, hE.warm hW hU hS, by rw [hU]; exact hH⟩⟩ rfl (by rw [List.length_map]; exact hn) hL.1 ?_ ?_ hd ⟨by omega, by omega⟩) hS fun o X' v' H1 locs1 f1 f0 f2 f3 f4 => ?_
  · show _ = ((conc G (2, r)) :: _).toArray
    rw [show conc G (2, r) = .ref (gsz G + r.toNat) from cref_nn G hr.1]
  · show List.map (conc G) _ = _
    rw [List.map_append, List.map_reverse, List.map_cons, show conc G (2, r) = .ref (gsz G + r.toNat) from cref_nn G hr.1]
  · show 2 * 0 + _ ≤ 8
    rw [sum_cat]; omega
  · have k2 := kk o X' v' f1 f2 H1 locs1 (cells + mc') (slots + ms') cls f3 f4 hL (List.forall_mem_append.mpr ⟨f0, hRs⟩) (by omega) (by omega)
    rw [List.map_append] at k2
    cases o <;> exact k2
theorem w_init {G : GG} {p : Program} {l : Launch} {e : Env} {R : Room} {s : State} {m : MethodId} {args : Array Value} {below : List Frame} {meth : Method} {c : Code} {Z : State → Prop} {M : MM} {d pc : Nat} {ls : List AV} {X : XX} {v : VV} {mc ms : Nat} {rest : List AV} {M' : MM} {d' mc' ms' idx n : Nat} {r : Int} {avs : List AV} {P : QQ} (hX : XC M d G p R s m args meth c) (hd : decode M.2.1 pc = .ok (.invokespecial idx, 3)) (hw : CI M.1.cls idx M' n) (hC : Con M' d' mc' ms' ((2, r) :: avs) X v P) (hr : 0 ≤ r) {st : List AV} (hst2 : st = avs.reverse ++ (2, r) :: rest) (hn : avs.length = n) (hdd : d' + 1 ≤ d) (h1 : mc' ≤ mc) (h2 : ms' ≤ ms) (hrest : (rest.map (fun a => if a.1 = 1 then 2 else 1)).sum ≤ 8)
    (kk : ∀ (X' : XX) (v' : VV), P none X' v' → Wg G M p l e R s m args below meth c Z (pc + 3) ls rest X' v' (mc - mc') (ms - ms')) : Wg G M p l e R s m args below meth c Z pc ls st X v mc ms := by
  subst hst2
  intro H locs cells slots cls hH hS hL hO hcX hsX
  obtain ⟨w1, w2, w3, w8, w4, w5, w6, w7⟩ := hw
  obtain ⟨y, cc, nL, ret⟩ := M'
  dsimp only at w1 w2 w3 w8 w4 w5 w6 w7
  subst w8
  have hts := hX.2.2.2.2.2.1
  have hE := hX.2.2.2.2.2.2.2.2.1
  have hD1 := hX.2.2.2.2.2.2.2.2.2.1
  have hD2 := hX.2.2.2.2.2.2.2.2.2.2
  have hp : PreS s H (PcA G X v ((2, r) :: avs)) (.ref (gsz G + r.toNat) :: avs.map (conc G)) := ⟨PcA.blind, fun U hU hW => ⟨by
    show _ = ((conc G (2, r)) :: _).toArray
    rw [show conc G (2, r) = .ref (gsz G + r.toNat) from cref_nn G hr], fun a ha => by
    rcases List.mem_cons.mp ha with rfl | ha
    · exact okv_r
    · exact hO a (List.mem_append_left _ (List.mem_reverse.mpr ha)), hE.warm hW hU hS, by rw [hU]; exact hH⟩⟩
  have e1 : (avs.reverse ++ (2, r) :: rest).map (conc G) = (avs.map (conc G)).reverse ++ .ref (gsz G + r.toNat) :: rest.map (conc G) := by rw [List.map_append, List.map_reverse, List.map_cons, show conc G (2, r) = .ref (gsz G + r.toNat) from cref_nn G hr]
  have e2 : 2 * 0 + ((rest.map (conc G)).map fun v => v.category).sum ≤ 8 := by rw [sum_cat]; omega
  have hR2 : (RM d' mc' ms').frames + 1 ≤ R.frames ∧ 8 + (nL + 11) + (RM d' mc' ms').locals ≤ R.locals := ⟨by show d' + 1 ≤ _; omega, by show 8 + (nL + 11) + 40 * d' ≤ _; omega⟩
  have fin_ : ∀ (o : Option AV) (X' : XX) (v' : VV) (H1 : Heap) (locs1 : List Loc), tagOK none o → (∀ a ∈ o.toList, okv a) → P o X' v' → HR G X' v' H1 → va_S (gF G) s.heap H1 locs1 → W p l e R s m args below meth c H1 locs1 (cells + mc') (slots + ms') Z (F0 m (pc + 3) cls ((o.map (conc G)).toList ++ rest.map (conc G))) := by
    intro o X' v' H1 locs1 f1 f0 f2 f3 f4
    have f1 : o = none := f1
    subst f1
    exact kk X' v' f2 H1 locs1 (cells + mc') (slots + ms') cls f3 f4 hL (fun a ha => hO a (List.mem_append_right _ (List.mem_cons_of_mem _ ha))) (by omega) (by omega)
  rcases w1 with w1 | ⟨host, w1⟩
  · exact x_back (va_runI (b := gsz G + r.toNat) (As := avs.map (conc G)) (rest := rest.map (conc G)) ⟨hX.1, hX.2.1, hX.2.2.1, hX.2.2.2.2.1, hts⟩ (hC l G) ⟨callB_of n hts (goodTB w4) rfl rfl rfl (hts _ w5) (hts _ w1) w6 hR2, w3, hts _ w2⟩ hp rfl (by rw [List.length_map]; exact hn) hL.1 e1 e2 hd ⟨by omega, by omega⟩) hS fin_
  · exact x_back (va_runIN (b := gsz G + r.toNat) (As := avs.map (conc G)) (rest := rest.map (conc G)) ⟨hX.1, hX.2.1, hX.2.2.1, hX.2.2.2.2.1, hts⟩ (hC l G) ⟨va_cnB n hts (goodTB w4) rfl rfl rfl (hE.2.1 _ w1) (hts _ w5) w6 hR2, w3, hts _ w2⟩ hp rfl (by rw [List.length_map]; exact hn) hL.1 e1 e2 hd ⟨by omega, by omega⟩) hS fin_
theorem w_widen {G : GG} {p : Program} {l : Launch} {e : Env} {R : Room} {s : State} {m : MethodId} {args : Array Value} {below : List Frame} {meth : Method} {c : Code} {Z : State → Prop} {M : MM} {pc : Nat} {ls st : List AV} {X : XX} {v : VV} {mc ms mc' ms' : Nat} (h1 : mc' ≤ mc) (h2 : ms' ≤ ms) (k : Wg G M p l e R s m args below meth c Z pc ls st X v mc' ms') : Wg G M p l e R s m args below meth c Z pc ls st X v mc ms := by
  intro H locs cells slots cls hH hS hL hO hc hs
  exact k H locs cells slots cls hH hS hL hO (by omega) (by omega)
/-- the script's length -/
theorem w_slen {G : GG} {p : Program} {l : Launch} {e : Env} {R : Room} {s : State} {m : MethodId} {args : Array Value} {below : List Frame} {meth : Method} {c : Code} {Z : State → Prop} {M : MM} {d pc : Nat} {ls rest : List AV} {X : XX} {v : VV} {mc ms : Nat} (hX : XC M d G p R s m args meth c) (hl : gL G < 2147483648) (hd : decode M.2.1 pc = .ok (.arraylength, 1)) (k : Wg G M p l e R s m args below meth c Z (pc + 1) ls ((0, (gL G : Int)) :: rest) X v mc ms) : Wg G M p l e R s m args below meth c Z pc ls ((2, -2) :: rest) X v mc ms := by
  intro H locs cells slots cls hH hS hL hO hc hs
  have hE := hX.2.2.2.2.2.2.2.2.1
  have k2 := k H locs cells slots cls hH hS hL (List.forall_mem_cons.mpr ⟨okv_i ⟨by omega, by omega⟩, (List.forall_mem_cons.mp hO).2⟩) hc hs
  simp only [List.map_cons] at k2 ⊢
  have h8 := hE.2.2.2.2.2.1
  have h9 := hE.2.2.2.2.2.2
  have hb : gb G < s.heap.size := by omega
  exact va_slen hX.1 hX.2.1 hE.2.2.2.2.1 hb (by show ¬ gsz G ≤ gb G; omega) hS hd k2
/-- an int of the script -/
def sx (G : GG) (i : Int) : Int := (gxs G i.toNat).toInt
theorem w_sald {G : GG} {p : Program} {l : Launch} {e : Env} {R : Room} {s : State} {m : MethodId} {args : Array Value} {below : List Frame} {meth : Method} {c : Code} {Z : State → Prop} {M : MM} {d pc : Nat} {ls rest : List AV} {X : XX} {v : VV} {mc ms : Nat} {i : Int} (hX : XC M d G p R s m args meth c) (hl : gL G < 2147483648) (hi : 0 ≤ i ∧ i < gL G) (hd : decode M.2.1 pc = .ok (.iaload, 1)) (k : Wg G M p l e R s m args below meth c Z (pc + 1) ls ((0, sx G i) :: rest) X v mc ms) : Wg G M p l e R s m args below meth c Z pc ls ((0, i) :: (2, -2) :: rest) X v mc ms := by
  intro H locs cells slots cls hH hS hL hO hc hs
  have hE := hX.2.2.2.2.2.2.2.2.1
  have hok : i32 (sx G i) := by
    have h1 := Int32.le_toInt (gxs G i.toNat)
    have h2 := Int32.toInt_lt (gxs G i.toNat)
    unfold sx i32
    omega
  have k2 := k H locs cells slots cls hH hS hL (List.forall_mem_cons.mpr ⟨okv_i hok, (List.forall_mem_cons.mp (List.forall_mem_cons.mp hO).2).2⟩) hc hs
  simp only [List.map_cons] at k2 ⊢
  rw [show conc G (0, sx G i) = .int (gxs G (Int32.ofInt i).toNatClampNeg) from by
    rw [i32_clamp hi.1 (by omega)]
    exact congrArg Value.int (Int32.ofInt_toInt _)] at k2
  have h8 := hE.2.2.2.2.2.1
  have h9 := hE.2.2.2.2.2.2
  have hb : gb G < s.heap.size := by omega
  exact va_sld hX.1 hX.2.1 hE.2.2.2.2.1 hb (by show ¬ gsz G ≤ gb G; omega) hS (i32_ix hl hi) hd k2
/-- the law's way to an int of the script: 5 instructions -/
theorem w_arg {G : GG} {p : Program} {l : Launch} {e : Env} {R : Room} {s : State} {m : MethodId} {args : Array Value} {below : List Frame} {meth : Method} {c : Code} {Z : State → Prop} {M : MM} {d pc : Nat} {ls rest : List AV} {X : XX} {v : VV} {mc ms : Nat} {i : Int} (hX : XC M d G p R s m args meth c) (hl : gL G < 2147483648) (n : Int) (hi : 0 ≤ i ∧ i + 5 < gL G) (hn : 0 ≤ n ∧ n ≤ 5) (d0 : decode M.2.1 pc = .ok (.aload_n 0, 1)) (d1 : decode M.2.1 (pc + 1) = .ok (.iload_n 3, 1)) (d2 : decode M.2.1 (pc + 2) = .ok (.iconst n, 1)) (d3 : decode M.2.1 (pc + 3) = .ok (.iadd, 1)) (d4 : decode M.2.1 (pc + 4) = .ok (.iaload, 1)) (h0 : ls[0]? = some (2, -2)) (h3 : ls[3]? = some (0, i)) (k : Wg G M p l e R s m args below meth c Z (pc + 5) ls ((0, sx G (i + n)) :: rest) X v mc ms) : Wg G M p l e R s m args below meth c Z pc ls rest X v mc ms := by
  refine w_aload_n hX d0 h0 ?_
  refine w_iload_n hX d1 h3 ?_
  refine w_iconst hX d2 rfl ⟨by omega, by omega⟩ ?_
  refine w_iadd hX d3 ⟨by omega, by omega⟩ ?_
  exact w_sald hX hl ⟨by omega, by omega⟩ d4 k
