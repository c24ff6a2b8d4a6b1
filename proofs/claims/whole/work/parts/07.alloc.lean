/-! ===== new cells ===== -/
def nX (X : XX) (kind len : Nat) : XX := ((X.1.1 + 1, fun a => if a = X.1.1 then (kind, len) else X.1.2 a), fun a b => if a = X.1.1 then -1 else X.2 a b)
def nV (X : XX) (v : VV) : VV := fun a b => if a = X.1.1 then 0 else v a b
theorem HR.push {G : GG} {X : XX} {v : VV} {H H' : Heap} {kind len : Nat} (h : HR G X v H) (hsz : H'.size = H.size + 1) (oq : ∀ q : Nat, q < H.size → H'[q]? = H[q]?) (hc : cok G (nX X kind len) (nV X v) X.1.1 H') : HR G (nX X kind len) (nV X v) H' := by
  refine ⟨by rw [hsz, h.1]; rfl, fun k hk => ?_⟩
  by_cases hk2 : k = X.1.1
  · rw [hk2]; exact hc
  · have hk3 : k < X.1.1 := by
      have : k < X.1.1 + 1 := hk
      omega
    have hne : ¬ (k : Int) = (X.1.1 : Int) := by omega
    exact (h.2 k hk3).keep (by simp [nX, hne]) (fun j => ⟨by simp [nX, hne], by simp [nV, hne]⟩) (oq _ (by rw [h.1]; omega))
theorem slotv_new {G : GG} {X : XX} {v : VV} {kind len : Nat} (j : Nat) : slotv G (nX X kind len) (nV X v) kind X.1.1 j = conc G (tgk kind j, if tgk kind j = 2 then -1 else 0) := by
  unfold slotv nX nV
  simp
theorem okv_new {X : XX} {v : VV} {kind len : Nat} (j : Nat) : okv (tgk ((nX X kind len).1.2 (X.1.1 : Int)).1 j, nV X v (X.1.1 : Int) j) := by
  have e : nV X v (X.1.1 : Int) j = 0 := by simp [nV]
  rw [e]
  exact ⟨fun _ => i32_0, fun _ => (⟨by decide, by decide⟩ : i64 0)⟩
theorem va_S.push2 {G : GG} {H0 H H' : Heap} {locs : List Loc} (hS : va_S (gF G) H0 H locs) (z : H'.size = H.size + 1) (oq : ∀ q : Nat, q < H.size → H'[q]? = H[q]?) : va_S (gF G) H0 H' locs :=
  ⟨by rw [z]; exact Nat.le_succ_of_le hS.1, fun q h1 h2 => (oq q (Nat.lt_of_lt_of_le h1 hS.1)).trans (hS.2.1 q h1 h2), hS.2.2⟩
/-- a class that is made: own class, pool index, class number, fields -/
def NL (own : String) (idx ci n : Nat) : Prop := ∃ (C : String) (T : u_T) (ty0 : Nat → FieldType), vwCl[ci]? = some (C, T, n) ∧ (∀ w ∈ u_ws C T n, w ∈ TB) ∧ (∀ k, k < n → parseFieldDescriptor (T k).2.2.1 = some (ty0 k)) ∧ Cond.classLink own idx C ∈ TB ∧ Cond.instantiable C n ∈ TB ∧ Cond.initialized C ∈ TB ∧ ∀ j, j < n → ∀ G, defaultValue (ty0 j) = conc G (tgk ci j, if tgk ci j = 2 then -1 else 0)
theorem x_new {M : MM} {d pc : Nat} {ls : List AV} {X : XX} {v : VV} {mc ms : Nat} {Q : QQ} {rest : List AV} {idx ci n : Nat} (hf : NL M.1.cls idx ci n) (hd : decode M.2.1 pc = .ok (.new idx, 3)) (hc : ci < 100) (h1 : 1 ≤ mc) (h2 : n ≤ ms) (kk : Ex M d (pc + 3) ls ((2, (X.1.1 : Int)) :: rest) (nX X ci 0) (nV X v) (mc - 1) (ms - n) Q) : Ex M d pc ls rest X v mc ms Q := by
  intro G p l e R s m args below meth c Z hX hR H locs cells slots cls hH hS hL hO hcX hsX
  obtain ⟨C, T, ty0, hcl, hin, hty, hlink, hins, hini, hdef⟩ := hf
  have hts := hX.2.2.2.2.2.1
  refine W.newc hX.1 hX.2.1 hX.2.2.2.2.1 (hts _ hlink) (hts _ hins) (hts _ hini) rfl hd (by omega) (by omega) fun cC kC f1 f2 f3 f4 => ?_
  generalize hH1 : H.push ({ cls := cC, slots := kC.instanceTypes.map defaultValue, vm := .none } : Cell) = H1
  have z1 : H1.size = H.size + 1 := by rw [← hH1, Array.size_push]
  have o1 : ∀ q : Nat, q < H.size → H1[q]? = H[q]? := fun q hq => by rw [← hH1, Array.getElem?_push, if_neg (Nat.ne_of_lt hq)]
  have e1 : H1[H.size]? = some (blank cC kC) := by rw [← hH1, Array.getElem?_push_size]; rfl
  have hK := hX.2.2.2.2.2.2.2.2.1.1.1 ci _ hcl
  have hcc : cC = (gD G).1 ci := Option.some.inj (f1.symm.trans hK.2.1)
  subst hcc
  have hb := u_born ty0 hts hin hK f2 e1 hty
  have k2 := kk G p l e R s m args below meth c Z hX hR H1 locs (cells + 1) (slots + n) cls (hH.push z1 o1 ?_) (hS.push2 z1 o1) hL (List.forall_mem_cons.mpr ⟨okv_r, hO⟩) (by omega) (by omega)
  · simp only [List.map_cons] at k2
    rw [show conc G (2, (X.1.1 : Int)) = .ref H.size by rw [hH.1]; exact cref_nn G (by omega)] at k2
    exact k2
  · unfold cok
    refine ⟨okv_new, ?_⟩
    have hsh : (nX X ci 0).1.2 (X.1.1 : Int) = (ci, 0) := by simp [nX]
    rw [hsh, if_pos hc]
    refine ⟨_, hcl, ?_⟩
    rw [← hH.1]
    exact hb.to (fun j hj => by rw [slotv_new]; exact hdef j hj G)
/-- a primitive array -/
theorem x_newarr {M : MM} {d pc : Nat} {ls : List AV} {X : XX} {v : VV} {mc ms : Nat} {Q : QQ} {rest : List AV} {x : Int} {at_ : ArrayType} {ki : Nat} (N : Nat) (hd : decode M.2.1 pc = .ok (.newarray at_, 2)) (hk : (at_ = .int ∧ ki = 100) ∨ (at_ = .long ∧ ki = 101) ∨ (at_ = .boolean ∧ ki = 102)) (hw : Cond.arrayClass (newarray.typeOf at_) ∈ TB) (hx : x = (N : Int)) (hN : N ≤ 60000000) (h1 : 1 ≤ mc) (h2 : N ≤ ms) (kk : Ex M d (pc + 2) ls ((2, (X.1.1 : Int)) :: rest) (nX X ki N) (nV X v) (mc - 1) (ms - N) Q) : Ex M d pc ls ((0, x) :: rest) X v mc ms Q := by
  intro G p l e R s m args below meth c Z hX hR H locs cells slots cls hH hS hL hO hcX hsX
  have hts := hX.2.2.2.2.2.1
  have hx0 : ¬ Int32.ofInt x < 0 := fun q => absurd ((i32_lt ⟨by omega, by omega⟩ i32_0).mp q) (by omega)
  have hcl : (Int32.ofInt x).toNatClampNeg = N := by rw [i32_clamp (by omega) (by omega), hx]; rfl
  have hT := hX.2.2.2.2.2.2.2.2.1.1.2
  have hk9 : ¬ ki < 100 := by rcases hk with ⟨_, rfl⟩ | ⟨_, rfl⟩ | ⟨_, rfl⟩ <;> decide
  have hbytes : N * componentBytes (newarray.typeOf at_) ≤ 536870912 := by
    rcases hk with ⟨rfl, _⟩ | ⟨rfl, _⟩ | ⟨rfl, _⟩
    · show N * 4 ≤ _; omega
    · show N * 8 ≤ _; omega
    · show N * 1 ≤ _; omega
  simp only [List.map_cons]
  refine va_newaK hX.1 hX.2.1 (hts _ hw) rfl hd rfl hx0 hcl hbytes (by omega) (by omega) hH.1 fun H' cA e1 z1 o1 f1 f2 => ?_
  rw [← hH.1] at z1 o1
  have hgA : cA = gA G (ki - 100) := by
    rcases hk with ⟨rfl, rfl⟩ | ⟨rfl, rfl⟩ | ⟨rfl, rfl⟩
    · exact Option.some.inj (f2.symm.trans (hT 0 _ rfl).2)
    · exact Option.some.inj (f2.symm.trans (hT 1 _ rfl).2)
    · exact Option.some.inj (f2.symm.trans (hT 2 _ rfl).2)
  have k2 := kk G p l e R s m args below meth c Z hX hR H' locs (cells + 1) (slots + N) cls (hH.push z1 o1 ?_) (hS.push2 z1 o1) hL (List.forall_mem_cons.mpr ⟨okv_r, (List.forall_mem_cons.mp hO).2⟩) (by omega) (by omega)
  · simp only [List.map_cons] at k2
    rw [show conc G (2, (X.1.1 : Int)) = .ref (gsz G + X.1.1) from cref_nn G (by omega)] at k2
    exact k2
  · unfold cok
    refine ⟨okv_new, ?_⟩
    have hsh : (nX X ki N).1.2 (X.1.1 : Int) = (ki, N) := by simp [nX]
    rw [hsh, if_neg hk9]
    refine ⟨by show N < _; omega, e1.trans ?_⟩
    rw [hgA]
    congr 2
    funext j
    rw [slotv_new]
    rcases hk with ⟨rfl, rfl⟩ | ⟨rfl, rfl⟩ | ⟨rfl, rfl⟩ <;> rfl
/-- an array of references -/
theorem x_anew {M : MM} {d pc : Nat} {ls : List AV} {X : XX} {v : VV} {mc ms : Nat} {Q : QQ} {rest : List AV} {x : Int} {idx ki : Nat} (N : Nat) (C : String) (hd : decode M.2.1 pc = .ok (.anewarray idx, 3)) (hk : (C = RX7 ∧ ki = 103) ∨ (C = RX0 ∧ ki = 104)) (hw : Cond.classLink M.1.cls idx C ∈ TB) (hx : x = (N : Int)) (hN : N ≤ 60000000) (h1 : 1 ≤ mc) (h2 : N ≤ ms) (kk : Ex M d (pc + 3) ls ((2, (X.1.1 : Int)) :: rest) (nX X ki N) (nV X v) (mc - 1) (ms - N) Q) : Ex M d pc ls ((0, x) :: rest) X v mc ms Q := by
  intro G p l e R s m args below meth c Z hX hR H locs cells slots cls hH hS hL hO hcX hsX
  have hts := hX.2.2.2.2.2.1
  have hx0 : ¬ Int32.ofInt x < 0 := fun q => absurd ((i32_lt ⟨by omega, by omega⟩ i32_0).mp q) (by omega)
  have hcl : (Int32.ofInt x).toNatClampNeg = N := by rw [i32_clamp (by omega) (by omega), hx]; rfl
  have hT := hX.2.2.2.2.2.2.2.2.1.1.2
  have hAO := hX.2.2.2.2.2.2.2.2.1.2.2.1
  have hk9 : ¬ ki < 100 := by rcases hk with ⟨_, rfl⟩ | ⟨_, rfl⟩ <;> decide
  have hao : va_AO C s := by
    rcases hk with ⟨rfl, _⟩ | ⟨rfl, _⟩
    · exact hAO.1
    · exact hAO.2
  simp only [List.map_cons]
  refine W.anew hX.1 hX.2.1 hX.2.2.2.2.1 (hts _ hw) (va_AO.use hao) rfl hd rfl hx0 (by rw [hcl]; omega) (by omega) (by rw [hcl]; omega) fun cA kA comp f1 f2 f3 f4 => ?_
  rw [hcl]
  generalize hH1 : H.push ({ cls := cA, slots := Array.replicate N .null, vm := .none } : Cell) = H1
  have z1 : H1.size = H.size + 1 := by rw [← hH1, Array.size_push]
  have o1 : ∀ q : Nat, q < H.size → H1[q]? = H[q]? := fun q hq => by rw [← hH1, Array.getElem?_push, if_neg (Nat.ne_of_lt hq)]
  have e1 : H1[H.size]? = some (arrV cA N (fun _ => .null)) := by rw [← hH1, Array.getElem?_push_size, ← arrV_new]
  have hgA : cA = gA G (ki - 100) := by
    rcases hk with ⟨rfl, rfl⟩ | ⟨rfl, rfl⟩
    · obtain ⟨_, _, _, _, _, g4⟩ := (hT 3 _ rfl).2
      exact Option.some.inj (f1.symm.trans g4)
    · obtain ⟨_, _, _, _, _, g4⟩ := (hT 4 _ rfl).2
      exact Option.some.inj (f1.symm.trans g4)
  have k2 := kk G p l e R s m args below meth c Z hX hR H1 locs (cells + 1) (slots + N) cls (hH.push z1 o1 ?_) (hS.push2 z1 o1) hL (List.forall_mem_cons.mpr ⟨okv_r, (List.forall_mem_cons.mp hO).2⟩) (by omega) (by omega)
  · simp only [List.map_cons] at k2
    rw [show conc G (2, (X.1.1 : Int)) = .ref H.size by rw [hH.1]; exact cref_nn G (by omega)] at k2
    exact k2
  · unfold cok
    refine ⟨okv_new, ?_⟩
    have hsh : (nX X ki N).1.2 (X.1.1 : Int) = (ki, N) := by simp [nX]
    rw [hsh, if_neg hk9, ← hH.1]
    refine ⟨by show N < _; omega, e1.trans ?_⟩
    rw [hgA]
    congr 2
    funext j
    rw [slotv_new]
    rcases hk with ⟨rfl, rfl⟩ | ⟨rfl, rfl⟩ <;> rfl
/-- int arrays' copy -/
def cpy2 (v : VV) (src sp dst dp n : Int) : VV := fun a b => if a = dst ∧ dp ≤ b ∧ b < dp + n then v src (sp + (b - dp)) else v a b
theorem x_copy {M : MM} {d pc : Nat} {ls : List AV} {X : XX} {v : VV} {mc ms : Nat} {Q : QQ} {rest : List AV} {src dst sp dp n : Int} {idx ls1 ls2 : Nat} (hd : decode M.2.1 pc = .ok (.invokestatic idx, 3)) (hw : Cond.methodLink M.1.cls idx arraycopyName ∈ TB ∧ Cond.native arraycopyName ∈ TB ∧ Cond.static arraycopyName ∈ TB ∧ Cond.initialized "java/lang/System" ∈ TB) (hs1 : X.1.2 src = (100, ls1)) (hs2 : X.1.2 dst = (100, ls2)) (hr1 : 0 ≤ src ∧ src < X.1.1) (hr2 : 0 ≤ dst ∧ dst < X.1.1)
    (h1 : 0 ≤ sp) (h2 : 0 ≤ dp) (h3 : 0 ≤ n) (h4 : sp + n ≤ ls1) (h5 : dp + n ≤ ls2) (hdd : 2 ≤ d) (hrs : rest = []) (kk : Ex M d (pc + 3) ls rest X (cpy2 v src sp dst dp n) mc ms Q) : Ex M d pc ls ((0, n) :: (0, dp) :: (2, dst) :: (0, sp) :: (2, src) :: rest) X v mc ms Q := by
  subst hrs
  intro G p l e R s m args below meth c Z hX hR H locs cells slots cls hH hS hL hO hcX hsX
  obtain ⟨hl1, hc0⟩ := hH.arr hs1 (by decide) hr1
  obtain ⟨hl2, hc1⟩ := hH.arr hs2 (by decide) hr2
  have hts := hX.2.2.2.2.2.1
  have hT := hX.2.2.2.2.2.2.2.2.1.1.2
  obtain ⟨w1, w2, w3, w4⟩ := hw
  intro T hT0 X0
  obtain ⟨-, k0, hk0, cm0, hkk0⟩ := (hT 0 _ rfl).1 ls1 (slotv G X v 100 src)
  obtain ⟨-, k1, hk1, cm1, hkk1⟩ := (hT 0 _ rfl).1 ls2 (slotv G X v 100 dst)
  have hloc : nativeFrameWords "java/lang/System" "arraycopy" 5 + 11 ≤ R.locals := by
    have e8 := hX.2.2.2.2.2.2.2.2.2.2
    have e9 : nativeFrameWords "java/lang/System" "arraycopy" 5 ≤ 60 := by decide +kernel
    omega
  have nn : ∀ z : Int, 0 ≤ z → z < 2147483648 → ¬ Int32.ofInt z < 0 := fun z g1 g2 q => absurd ((i32_lt ⟨by omega, by omega⟩ i32_0).mp q) (by omega)
  have ti : ∀ z : Int, 0 ≤ z → z < 2147483648 → (Int32.ofInt z).toInt = z := fun z g1 g2 => i32_toInt ⟨by omega, by omega⟩
  have hsp := i32_clamp h1 (by omega)
  have hdp := i32_clamp h2 (by omega)
  have hn := i32_clamp h3 (by omega)
  obtain ⟨vm', X', step⟩ := X0.arraycopy hX.1 hX.2.2.2.2.1 (hts _ w1) (hts _ w2) (hts _ w3) (hts _ w4) (src := gsz G + src.toNat) (dst := gsz G + dst.toNat) (cs := arrV (gA G 0) ls1 (slotv G X v 100 src)) (cd := arrV (gA G 0) ls2 (slotv G X v 100 dst)) (srcPos := Int32.ofInt sp) (destPos := Int32.ofInt dp) (n := Int32.ofInt n) (by rw [hT0]; exact hc0) (by rw [hT0]; exact hc1)
    (fun _ h => by cases h) (fun _ h => by cases h) (fun h => by cases h) (fun h => by cases h) hk0 hk1 hkk0 hkk1 (by simp [refKind]) (nn _ h1 (by omega)) (nn _ h2 (by omega)) (nn _ h3 (by omega))
    (by rw [ti _ h1 (by omega), ti _ h3 (by omega), arrV_size]; omega)
    (by rw [ti _ h2 (by omega), ti _ h3 (by omega), arrV_size]; omega)
    (fun vm₁ _ i hi => by
      have e : (arrV (gA G 0) ls1 (slotv G X v 100 src)).slots.getD ((Int32.ofInt sp).toNatClampNeg + i) .null = slotv G X v 100 src ((Int32.ofInt sp).toNatClampNeg + i) := by
        rw [Array.getD_eq_getD_getElem?, arrV_read _ _ (by rw [hsp]; rw [hn] at hi; omega)]
        rfl
      refine ⟨?_, ?_⟩
      · rw [e]
        rfl
      · rw [e]
        exact trivial)
    (g := F0 m pc cls (.int (Int32.ofInt n) :: .int (Int32.ofInt dp) :: .ref (gsz G + dst.toNat) :: .int (Int32.ofInt sp) :: .ref (gsz G + src.toNat) :: [])) rfl (by rw [hX.2.2.1]; exact hL.1) (rest := []) rfl (by rw [hX.2.1]; exact hd) (by have := hX.2.2.2.2.2.2.2.2.2.1; omega) (by simpa [JFrame.monitorRoom] using hloc)
  have e1 : copied (arrV (gA G 0) ls1 (slotv G X v 100 src)) (arrV (gA G 0) ls2 (slotv G X v 100 dst)) (Int32.ofInt sp) (Int32.ofInt dp) (Int32.ofInt n) = arrV (gA G 0) ls2 (slotv G X (cpy2 v src sp dst dp n) 100 dst) := by
    have q1 := va_copied (fun z => Value.int z) (gA G 0) (gA G 0) (n0 := ls1) (n1 := ls2) (sp := (Int32.ofInt sp).toNatClampNeg) (dp := (Int32.ofInt dp).toNatClampNeg) (n := (Int32.ofInt n).toNatClampNeg) (fun j => Int32.ofInt (v src j)) (fun j => Int32.ofInt (v dst j)) (by rw [hsp, hn]; omega)
    refine Eq.trans q1 ?_
    congr 1
    funext j
    rw [hsp, hdp, hn]
    show Value.int _ = Value.int _
    congr 1
    unfold va_cpy
    show _ = Int32.ofInt (cpy2 v src sp dst dp n dst j)
    unfold cpy2
    by_cases hj : dp.toNat ≤ j ∧ j < dp.toNat + n.toNat
    · rw [if_pos hj, if_pos ⟨rfl, by omega, by omega⟩]
      show Int32.ofInt (v src ((sp.toNat + (j - dp.toNat) : Nat) : Int)) = _
      rw [show ((sp.toNat + (j - dp.toNat) : Nat) : Int) = sp + ((j : Int) - dp) by omega]
    · rw [if_neg hj, if_neg (by omega)]
  rw [e1] at X' step
  have hl : gsz G + dst.toNat < H.size := (Array.getElem?_eq_some_iff.mp hc1).1
  generalize hcell : arrV (gA G 0) ls2 (slotv G X (cpy2 v src sp dst dp n) 100 dst) = cellN at X' step
  have hheap : ((T.setVm vm').setCell (gsz G + dst.toNat) cellN).heap = H.setIfInBounds (gsz G + dst.toNat) cellN := by rw [← hT0]; rfl
  have oq : ∀ q : Nat, q ≠ gsz G + dst.toNat → (H.setIfInBounds (gsz G + dst.toNat) cellN)[q]? = H[q]? := fun q hq => by simp [Array.getElem?_setIfInBounds, Ne.symm hq]
  have z1 : (H.setIfInBounds (gsz G + dst.toNat) cellN).size = H.size := by simp
  obtain ⟨t, a1, b1⟩ := kk G p l e R s m args below meth c Z hX hR (H.setIfInBounds (gsz G + dst.toNat) cellN) _ cells slots cls (hH.put hr2 rfl z1 oq (fun b j hb => ⟨rfl, by simp [cpy2, hb]⟩) (by
      unfold cok
      refine ⟨fun j => by
        rw [Int.toNat_of_nonneg hr2.1, hs2]
        unfold cpy2
        split
        · exact okv_elem hH hs1 hr1 (by omega) (t := 0) (fun _ => rfl)
        · exact hH.ok hs2 hr2 j, ?_⟩
      rw [Int.toNat_of_nonneg hr2.1, hs2, if_neg (show ¬ (100, ls2).1 < 100 from by show ¬ (100 : Nat) < 100; decide)]
      exact ⟨hl2, by rw [← hcell]; simp [Array.getElem?_setIfInBounds, hl]⟩)) ⟨by rw [z1]; exact hS.1, fun q g1 g2 => by
      rw [oq q (fun e => g2 (by rw [e]; show gsz G ≤ _; omega))]
      exact hS.2.1 q g1 g2, fun q hq => by
      rcases List.mem_append.mp hq with h | h
      · exact hS.2.2 q h
      · obtain ⟨z, -, hz⟩ := List.mem_map.mp h
        rw [← hz]
        show gsz G ≤ gsz G + dst.toNat; omega⟩ hL (List.forall_mem_cons.mp (List.forall_mem_cons.mp (List.forall_mem_cons.mp (List.forall_mem_cons.mp (List.forall_mem_cons.mp hO).2).2).2).2).2 hcX hsX _ hheap X'
  refine ⟨t, ?_, b1⟩
  have := step t a1
  simp only [List.map_cons, List.map_nil]
  rw [show conc G (2, dst) = .ref (gsz G + dst.toNat) from cref_nn G hr2.1, show conc G (2, src) = .ref (gsz G + src.toNat) from cref_nn G hr1.1]
  exact this

theorem x_max {M : MM} {d pc : Nat} {ls : List AV} {X : XX} {v : VV} {mc ms : Nat} {Q : QQ} {rest : List AV} {x y : Int} {idx : Nat} (hd : decode M.2.1 pc = .ok (.invokestatic idx, 3)) (hw : Cond.methodLink M.1.cls idx Lib.Math.max.name ∈ TB ∧ Cond.static Lib.Math.max.name ∈ TB ∧ Cond.initialized "java/lang/Math" ∈ TB ∧ Cond.code Lib.Math.max.name Lib.Math.max.code 2 (some .int) ∈ TB) (hdd : 1 ≤ d) (hrest : (rest.map (fun a => if a.1 = 1 then 2 else 1)).sum ≤ 8) (kk : Ex M d (pc + 3) ls ((0, if x < y then y else x) :: rest) X v mc ms Q) : Ex M d pc ls ((0, y) :: (0, x) :: rest) X v mc ms Q := by
  intro G p l e R s m args below meth c Z hX hR H locs cells slots cls hH hS hL hO hcX hsX
  obtain ⟨w1, w2, w3, w4⟩ := hw
  have hts := hX.2.2.2.2.2.1
  have hy : i32 y := (List.forall_mem_cons.mp hO).1.1 rfl
  have hx : i32 x := (List.forall_mem_cons.mp (List.forall_mem_cons.mp hO).2).1.1 rfl
  have k2 := kk G p l e R s m args below meth c Z hX hR H locs cells slots cls hH hS hL (List.forall_mem_cons.mpr ⟨okv_i (by split; assumption; assumption), (List.forall_mem_cons.mp (List.forall_mem_cons.mp hO).2).2⟩) hcX hsX
  simp only [List.map_cons] at k2
  have e1 : conc G (0, if x < y then y else x) = .int (if Int32.ofInt x < Int32.ofInt y then Int32.ofInt y else Int32.ofInt x) := by
    by_cases h : x < y
    · rw [if_pos h, if_pos ((i32_lt hx hy).mpr h)]; rfl
    · rw [if_neg h, if_neg (fun q => h ((i32_lt hx hy).mp q))]; rfl
  rw [e1] at k2
  have hsum : ((rest.map (conc G)).map fun v => v.category).sum ≤ 8 := by
    rw [List.map_map, show ((fun v : Value => v.category) ∘ conc G) = (fun a => if a.1 = 1 then 2 else 1) from funext (fun a => conc_cat G a)]; exact hrest
  exact va_mmax hX.1 hX.2.1 (by rw [hX.2.2.1]; exact hL.1.symm) hX.2.2.2.2.1 (hts _ w1) (hts _ w2) (hts _ w3) (hts _ w4) (by have := hX.2.2.2.2.2.2.2.2.2.1; omega) (by have := hX.2.2.2.2.2.2.2.2.2.2; omega) (by omega) (by omega) hd k2

theorem x_min {M : MM} {d pc : Nat} {ls : List AV} {X : XX} {v : VV} {mc ms : Nat} {Q : QQ} {rest : List AV} {x y : Int} {idx : Nat} (hd : decode M.2.1 pc = .ok (.invokestatic idx, 3)) (hw : Cond.methodLink M.1.cls idx Lib.Math.min.name ∈ TB ∧ Cond.static Lib.Math.min.name ∈ TB ∧ Cond.initialized "java/lang/Math" ∈ TB ∧ Cond.code Lib.Math.min.name Lib.Math.min.code 2 (some .int) ∈ TB) (hdd : 1 ≤ d) (hrest : (rest.map (fun a => if a.1 = 1 then 2 else 1)).sum ≤ 8) (kk : Ex M d (pc + 3) ls ((0, if y < x then y else x) :: rest) X v mc ms Q) : Ex M d pc ls ((0, y) :: (0, x) :: rest) X v mc ms Q := by
  intro G p l e R s m args below meth c Z hX hR H locs cells slots cls hH hS hL hO hcX hsX
  obtain ⟨w1, w2, w3, w4⟩ := hw
  have hts := hX.2.2.2.2.2.1
  have hy : i32 y := (List.forall_mem_cons.mp hO).1.1 rfl
  have hx : i32 x := (List.forall_mem_cons.mp (List.forall_mem_cons.mp hO).2).1.1 rfl
  have k2 := kk G p l e R s m args below meth c Z hX hR H locs cells slots cls hH hS hL (List.forall_mem_cons.mpr ⟨okv_i (by split; assumption; assumption), (List.forall_mem_cons.mp (List.forall_mem_cons.mp hO).2).2⟩) hcX hsX
  simp only [List.map_cons] at k2
  have e1 : conc G (0, if y < x then y else x) = .int (if Int32.ofInt y < Int32.ofInt x then Int32.ofInt y else Int32.ofInt x) := by
    by_cases h : y < x
    · rw [if_pos h, if_pos ((i32_lt hy hx).mpr h)]; rfl
    · rw [if_neg h, if_neg (fun q => h ((i32_lt hy hx).mp q))]; rfl
  rw [e1] at k2
  have hsum : ((rest.map (conc G)).map fun v => v.category).sum ≤ 8 := by
    rw [List.map_map, show ((fun v : Value => v.category) ∘ conc G) = (fun a => if a.1 = 1 then 2 else 1) from funext (fun a => conc_cat G a)]; exact hrest
  exact va_mmin hX.1 hX.2.1 (by rw [hX.2.2.1]; exact hL.1.symm) hX.2.2.2.2.1 (hts _ w1) (hts _ w2) (hts _ w3) (hts _ w4) (by have := hX.2.2.2.2.2.2.2.2.2.1; omega) (by have := hX.2.2.2.2.2.2.2.2.2.2; omega) (by omega) (by omega) hd k2
