/-! ===== the cells that constructors make, one by one ===== -/
def putR (o k x : Int) (R : List (Int × Int × Int)) : List (Int × Int × Int) := (o, k, x) :: R.filter (fun q => !(q.1 == o && q.2.1 == k))
def St (X : XX) (n : Nat) (R : List (Int × Int × Int)) : Prop := X.1.1 = n ∧ (∀ (k : Nat) (c : Nat × Nat), k < n → stab[k]? = some c → X.1.2 (k : Int) = c) ∧ (∀ q ∈ R, q.1 < n ∧ X.2 q.1 q.2.1 = q.2.2) ∧ ∀ j, (37 < n → X.2 37 j = -1) ∧ (40 < n → X.2 40 j = -1)
theorem St.new {X : XX} {n : Nat} {R : List (Int × Int × Int)} (h : St X n R) {ki m : Nat} (hs : stab[n]? = some (ki, m)) : St (nX X ki m) (n + 1) R := by
  obtain ⟨h1, h2, h3, h4⟩ := h
  have hc : ∀ a : Int, ¬ a = n → (nX X ki m).1.2 a = X.1.2 a ∧ ∀ j, (nX X ki m).2 a j = X.2 a j := fun a ha => by
    have hne : ¬ a = (X.1.1 : Int) := by rw [h1]; exact ha
    exact ⟨if_neg hne, fun j => if_neg hne⟩
  have hn : ∀ j, (nX X ki m).2 (n : Int) j = -1 := fun j => if_pos (by rw [h1])
  refine ⟨by show X.1.1 + 1 = n + 1; rw [h1], fun k c hk hs' => ?_, fun q hq => ?_, fun j => ⟨fun z => ?_, fun z => ?_⟩⟩
  · by_cases e : k = n
    · rw [e] at hs' ⊢
      rw [hs] at hs'
      show (if ((n : Nat) : Int) = (X.1.1 : Int) then (ki, m) else _) = c
      rw [h1, if_pos rfl]
      exact Option.some.inj hs'
    · rw [(hc k (by omega)).1]
      exact h2 k c (by omega) hs'
  · obtain ⟨a1, a2⟩ := h3 q hq
    exact ⟨by omega, ((hc q.1 (by omega)).2 _).trans a2⟩
  · by_cases e : 37 = n
    · have hh := hn j
      rw [← e] at hh; exact hh
    · exact ((hc 37 (by omega)).2 j).trans ((h4 j).1 (by omega))
  · by_cases e : 40 = n
    · have hh := hn j
      rw [← e] at hh; exact hh
    · exact ((hc 40 (by omega)).2 j).trans ((h4 j).2 (by omega))
theorem St.put {X : XX} {n : Nat} {R : List (Int × Int × Int)} (h : St X n R) (o k x : Int) (ho : ¬ o = 37 ∧ ¬ o = 40) (hn : o < n) : St (X.1, upd2 X.2 o k x) n (putR o k x R) := by
  obtain ⟨h1, h2, h3, h4⟩ := h
  refine ⟨h1, h2, fun q hq => ?_, fun j => ⟨fun z => ?_, fun z => ?_⟩⟩
  · rcases List.mem_cons.mp hq with rfl | hq
    · exact ⟨hn, upd2_s _ _ _ _⟩
    · obtain ⟨hq1, hq2⟩ := List.mem_filter.mp hq
      obtain ⟨a1, a2⟩ := h3 q hq1
      refine ⟨a1, (upd2_n _ (fun z => ?_)).trans a2⟩
      rw [z.1, z.2] at hq2
      simp at hq2
  · exact (upd2_n _ (fun q => ho.1 q.1.symm)).trans ((h4 j).1 z)
  · exact (upd2_n _ (fun q => ho.2 q.1.symm)).trans ((h4 j).2 z)
theorem nV_z {X : XX} {v : VV} (h : ∀ r j : Int, (X.1.1 : Int) ≤ r → v r j = 0) : nV X v = v := funext fun r => funext fun j => by
  by_cases e : r = (X.1.1 : Int)
  · rw [e, nV_s, h _ j (Int.le_refl _)]
  · exact nV_n X v e j
/-- a new row, put into field k of o -/
theorem i_row {M : MM} {d pc L : Nat} {ls : List AV} {X : XX} {v : VV} {mc ms : Nat} {Q : QQ} {n : Nat} {R : List (Int × Int × Int)} {ci ln nn idN idI idF k : Nat} {ty : FieldType} {fin : Bool} (o : Nat) (h : St X n R) (hz : ∀ r j : Int, (n : Int) ≤ r → v r j = 0) (ho : o < n) (d0 : decode M.2.1 pc = .ok (.aload_n 0, 1)) (d1 : decode M.2.1 (pc + 1) = .ok (.new idN, 3)) (d2 : decode M.2.1 (pc + 4) = .ok (.dup, 1)) (d4 : decode M.2.1 (pc + 5 + L) = .ok (.invokespecial idI, 3)) (d5 : decode M.2.1 (pc + 5 + L + 3) = .ok (.putfield idF, 3)) (hl : ls[0]? = some (2, (o : Int))) (hpush : ∀ (st : List AV) (X : XX) (mc ms : Nat), Ex M d (pc + 5 + L) ls ((0, (nn : Int)) :: st) X v mc ms Q → Ex M d (pc + 5) ls st X v mc ms Q) (hN : NL M.1.cls idN 6 2) (hI : CI M.1.cls idI mX6_init 1) (hF : FW M.1.cls idF ci k ty fin) (hci : stab[o]? = some (ci, ln)) (hinit : M.1.name = "<init>") (hc : ci < 100) (ht : tgk ci k = 2) (hty : (∃ n, ty = .object n) ∨ ∃ t, ty = .array t) (ho37 : ¬ (o : Int) = 37 ∧ ¬ (o : Int) = 40) (hs1 : stab[n]? = some (6, 0)) (hs2 : stab[n + 1]? = some (100, nn)) (hn37 : ¬ n = 37 ∧ ¬ n = 40) (hnn : nn ≤ 60000000) (hd : 2 ≤ d) (hm : 2 ≤ mc) (hs : 2 + nn ≤ ms)
    (kk : ∀ X' : XX, St X' (n + 2) (putR (o : Int) (k : Int) (n : Int) (putR (n : Int) 0 ((n + 1 : Nat) : Int) R)) → Ex M d (pc + 5 + L + 3 + 3) ls [] X' v (mc - 2) (ms - (2 + nn)) Q) : Ex M d pc ls [] X v mc ms Q := by
  have e := h.1
  subst e
  have h2 := (h.new hs1).new hs2
  have h3 : St (rowX (nX X 6 0) X.1.1 nn) (X.1.1 + 2) (putR (X.1.1 : Int) 0 ((X.1.1 + 1 : Nat) : Int) R) := h2.put (X.1.1 : Int) 0 ((X.1.1 + 1 : Nat) : Int) ⟨by omega, by omega⟩ (by omega)
  have h4 := h3.put (o : Int) (k : Int) (X.1.1 : Int) ho37 (by omega)
  refine x_aload_n d0 hl ?_
  refine x_new hN d1 (by decide) (by omega) (by omega) ?_
  rw [nV_z hz]
  refine x_dup d2 (tag1 rfl) ?_
  refine hpush _ _ _ _ ?_
  refine x_init d4 hI (k_rowInit (X := nX X 6 0) (v := v) (o := (X.1.1 : Int)) (n := nn) (nX_me X 6 0) (nX_in X 6 0) hnn) (by omega) (st := _) rfl rfl (by omega) (by omega) (by omega) (Nat.le_of_ble_eq_true rfl) (fun Y2 w2 hP => ?_)
  obtain ⟨rfl, rfl⟩ := hP
  rw [nV_z (X := nX X 6 0) (fun r j hr => hz r j (by have hr' : ((X.1.1 + 1 : Nat) : Int) ≤ r := hr; omega))]
  refine x_putr hF d5 (r := (o : Int)) (len := ln) (h3.2.1 o _ (by omega) hci) ⟨by omega, by show (o : Int) < ((X.1.1 + 1 + 1 : Nat) : Int); omega⟩ (fun _ => hinit) hc ht hty ?_
  exact x_widen (by omega) (by omega) (kk _ h4)
/-- a new array of numbers, put into field k of o -/
theorem i_arr {M : MM} {d pc L : Nat} {ls : List AV} {X : XX} {v : VV} {mc ms : Nat} {Q : QQ} {n : Nat} {R : List (Int × Int × Int)} {ci ln nn ki idF k : Nat} {at_ : ArrayType} {ty : FieldType} {fin : Bool} (o : Nat) (h : St X n R) (hz : ∀ r j : Int, (n : Int) ≤ r → v r j = 0) (ho : o < n) (d0 : decode M.2.1 pc = .ok (.aload_n 0, 1)) (d1 : decode M.2.1 (pc + 1 + L) = .ok (.newarray at_, 2)) (d2 : decode M.2.1 (pc + 1 + L + 2) = .ok (.putfield idF, 3)) (hl : ls[0]? = some (2, (o : Int))) (hpush : ∀ (st : List AV) (X : XX) (mc ms : Nat), Ex M d (pc + 1 + L) ls ((0, (nn : Int)) :: st) X v mc ms Q → Ex M d (pc + 1) ls st X v mc ms Q) (hk : (at_ = .int ∧ ki = 100) ∨ (at_ = .long ∧ ki = 101) ∨ (at_ = .boolean ∧ ki = 102)) (hac : Cond.arrayClass (newarray.typeOf at_) ∈ TB) (hF : FW M.1.cls idF ci k ty fin) (hci : stab[o]? = some (ci, ln)) (hinit : M.1.name = "<init>") (hc : ci < 100) (ht : tgk ci k = 2) (hty : (∃ n, ty = .object n) ∨ ∃ t, ty = .array t) (ho37 : ¬ (o : Int) = 37 ∧ ¬ (o : Int) = 40) (hs1 : stab[n]? = some (ki, nn)) (hnn : nn ≤ 60000000) (hm : 1 ≤ mc) (hs : nn ≤ ms)
    (kk : ∀ X' : XX, St X' (n + 1) (putR (o : Int) (k : Int) (n : Int) R) → Ex M d (pc + 1 + L + 2 + 3) ls [] X' v (mc - 1) (ms - nn) Q) : Ex M d pc ls [] X v mc ms Q := by
  have e := h.1
  subst e
  have h3 := h.new hs1
  have h4 := h3.put (o : Int) (k : Int) (X.1.1 : Int) ho37 (by omega)
  refine x_aload_n d0 hl ?_
  refine hpush _ _ _ _ ?_
  refine x_newarr nn d1 hk hac rfl hnn hm hs ?_
  rw [nV_z hz]
  refine x_putr hF d2 (r := (o : Int)) (len := ln) (h3.2.1 o _ (by omega) hci) ⟨by omega, by show (o : Int) < ((X.1.1 + 1 : Nat) : Int); omega⟩ (fun _ => hinit) hc ht hty ?_
  exact kk _ h4
/-- a new array of references, put into field k of o -/
theorem i_ref {M : MM} {d pc L : Nat} {ls : List AV} {X : XX} {v : VV} {mc ms : Nat} {Q : QQ} {n : Nat} {R : List (Int × Int × Int)} {ci ln nn ki idA idF k : Nat} {C : String} {ty : FieldType} {fin : Bool} (o : Nat) (h : St X n R) (hz : ∀ r j : Int, (n : Int) ≤ r → v r j = 0) (ho : o < n) (d0 : decode M.2.1 pc = .ok (.aload_n 0, 1)) (d1 : decode M.2.1 (pc + 1 + L) = .ok (.anewarray idA, 3)) (d2 : decode M.2.1 (pc + 1 + L + 3) = .ok (.putfield idF, 3)) (hl : ls[0]? = some (2, (o : Int))) (hpush : ∀ (st : List AV) (X : XX) (mc ms : Nat), Ex M d (pc + 1 + L) ls ((0, (nn : Int)) :: st) X v mc ms Q → Ex M d (pc + 1) ls st X v mc ms Q) (hk : (C = RX7 ∧ ki = 103) ∨ (C = RX0 ∧ ki = 104)) (hac : Cond.classLink M.1.cls idA C ∈ TB) (hF : FW M.1.cls idF ci k ty fin) (hci : stab[o]? = some (ci, ln)) (hinit : M.1.name = "<init>") (hc : ci < 100) (ht : tgk ci k = 2) (hty : (∃ n, ty = .object n) ∨ ∃ t, ty = .array t) (ho37 : ¬ (o : Int) = 37 ∧ ¬ (o : Int) = 40) (hs1 : stab[n]? = some (ki, nn)) (hnn : nn ≤ 60000000) (hm : 1 ≤ mc) (hs : nn ≤ ms)
    (kk : ∀ X' : XX, St X' (n + 1) (putR (o : Int) (k : Int) (n : Int) R) → Ex M d (pc + 1 + L + 3 + 3) ls [] X' v (mc - 1) (ms - nn) Q) : Ex M d pc ls [] X v mc ms Q := by
  have e := h.1
  subst e
  have h3 := h.new hs1
  have h4 := h3.put (o : Int) (k : Int) (X.1.1 : Int) ho37 (by omega)
  refine x_aload_n d0 hl ?_
  refine hpush _ _ _ _ ?_
  refine x_anew nn C d1 hk hac rfl hnn hm hs ?_
  rw [nV_z hz]
  refine x_putr hF d2 (r := (o : Int)) (len := ln) (h3.2.1 o _ (by omega) hci) ⟨by omega, by show (o : Int) < ((X.1.1 + 1 : Nat) : Int); omega⟩ (fun _ => hinit) hc ht hty ?_
  exact kk _ h4
/-- a new object made by its constructor, put into field k of o -/
theorem i_obj {M Mi : MM} {d di pc n' mci msi : Nat} {ls : List AV} {X : XX} {v : VV} {mc ms : Nat} {Q : QQ} {n : Nat} {R R' : List (Int × Int × Int)} {ci ln cn cs idN idI idF k : Nat} {ty : FieldType} {fin : Bool} (o : Nat) (h : St X n R) (hz : ∀ r j : Int, (n : Int) ≤ r → v r j = 0) (ho : o < n) (d0 : decode M.2.1 pc = .ok (.aload_n 0, 1)) (d1 : decode M.2.1 (pc + 1) = .ok (.new idN, 3)) (d2 : decode M.2.1 (pc + 4) = .ok (.dup, 1)) (d4 : decode M.2.1 (pc + 5) = .ok (.invokespecial idI, 3)) (d5 : decode M.2.1 (pc + 8) = .ok (.putfield idF, 3)) (hl : ls[0]? = some (2, (o : Int))) (hN : NL M.1.cls idN cn cs) (hcn : cn < 100) (hI : CI M.1.cls idI Mi 0) (hF : FW M.1.cls idF ci k ty fin) (hci : stab[o]? = some (ci, ln)) (hinit : M.1.name = "<init>") (hc : ci < 100) (ht : tgk ci k = 2) (hty : (∃ n, ty = .object n) ∨ ∃ t, ty = .array t) (ho37 : ¬ (o : Int) = 37 ∧ ¬ (o : Int) = 40) (hs1 : stab[n]? = some (cn, 0)) (hC : ∀ Y : XX, St Y (n + 1) R → Con Mi di mci msi [(2, (n : Int))] Y v (fun _ Y' w => St Y' n' R' ∧ w = v)) (hn' : n ≤ n') (hd : di + 1 ≤ d) (hm : 1 + mci ≤ mc) (hs : cs + msi ≤ ms)
    (kk : ∀ X' : XX, St X' n' (putR (o : Int) (k : Int) (n : Int) R') → Ex M d (pc + 11) ls [] X' v (mc - (1 + mci)) (ms - (cs + msi)) Q) : Ex M d pc ls [] X v mc ms Q := by
  have e := h.1
  subst e
  have h3 := h.new hs1
  refine x_aload_n d0 hl ?_
  refine x_new hN d1 hcn (by omega) (by omega) ?_
  rw [nV_z hz]
  refine x_dup d2 (tag1 rfl) ?_
  refine x_init d4 hI (hC _ h3) (by omega) (st := _) rfl rfl hd (by omega) (by omega) (Nat.le_of_ble_eq_true rfl) (fun Y2 w2 hP => ?_)
  obtain ⟨h5, rfl⟩ := hP
  have h6 := h5.put (o : Int) (k : Int) (X.1.1 : Int) ho37 (by omega)
  refine x_putr hF d5 (r := (o : Int)) (len := ln) (h5.2.1 o _ (by omega) hci) ⟨by omega, by rw [h5.1]; omega⟩ (fun _ => hinit) hc ht hty ?_
  exact x_widen (by omega) (by omega) (kk _ h6)
/-- a new program made by its constructor, put into field k of o -/
theorem i_prg {M Mi : MM} {d di pc L n' mci msi nn : Nat} {ls : List AV} {X : XX} {v : VV} {mc ms : Nat} {Q : QQ} {n : Nat} {R R' : List (Int × Int × Int)} {ci ln cn cs idN idI idF k : Nat} {ty : FieldType} {fin : Bool} (o : Nat) (h : St X n R) (hz : ∀ r j : Int, (n : Int) ≤ r → v r j = 0) (ho : o < n) (d0 : decode M.2.1 pc = .ok (.aload_n 0, 1)) (d1 : decode M.2.1 (pc + 1) = .ok (.new idN, 3)) (d2 : decode M.2.1 (pc + 4) = .ok (.dup, 1)) (d4 : decode M.2.1 (pc + 5 + L) = .ok (.invokespecial idI, 3)) (d5 : decode M.2.1 (pc + 5 + L + 3) = .ok (.putfield idF, 3)) (hl : ls[0]? = some (2, (o : Int))) (hpush : ∀ (st : List AV) (X : XX) (mc ms : Nat), Ex M d (pc + 5 + L) ls ((0, (nn : Int)) :: st) X v mc ms Q → Ex M d (pc + 5) ls st X v mc ms Q) (hN : NL M.1.cls idN cn cs) (hI : CI M.1.cls idI Mi 1) (hF : FW M.1.cls idF ci k ty fin) (hci : stab[o]? = some (ci, ln)) (hinit : M.1.name = "<init>") (hc : ci < 100) (ht : tgk ci k = 2) (hty : (∃ n, ty = .object n) ∨ ∃ t, ty = .array t) (ho37 : ¬ (o : Int) = 37 ∧ ¬ (o : Int) = 40) (hs1 : stab[n]? = some (cn, 0)) (hC : ∀ Y : XX, St Y (n + 1) R → Con Mi di mci msi [(2, (n : Int)), (0, (nn : Int))] Y v (fun _ Y' w => St Y' n' R' ∧ w = v)) (hcn : cn < 100 ∧ n ≤ n') (hd : di + 1 ≤ d) (hm : 1 + mci ≤ mc) (hs : cs + msi ≤ ms)
    (kk : ∀ X' : XX, St X' n' (putR (o : Int) (k : Int) (n : Int) R') → Ex M d (pc + 5 + L + 3 + 3) ls [] X' v (mc - (1 + mci)) (ms - (cs + msi)) Q) : Ex M d pc ls [] X v mc ms Q := by
  have e := h.1
  subst e
  have h3 := h.new hs1
  refine x_aload_n d0 hl ?_
  refine x_new hN d1 hcn.1 (by omega) (by omega) ?_
  rw [nV_z hz]
  refine x_dup d2 (tag1 rfl) ?_
  refine hpush _ _ _ _ ?_
  refine x_init d4 hI (hC _ h3) (by omega) (st := _) rfl rfl hd (by omega) (by omega) (Nat.le_of_ble_eq_true rfl) (fun Y2 w2 hP => ?_)
  obtain ⟨h5, rfl⟩ := hP
  have h6 := h5.put (o : Int) (k : Int) (X.1.1 : Int) ho37 (by omega)
  refine x_putr hF d5 (r := (o : Int)) (len := ln) (h5.2.1 o _ (by omega) hci) ⟨by omega, by rw [h5.1]; omega⟩ (fun _ => hinit) hc ht hty ?_
  exact x_widen (by omega) (by omega) (kk _ h6)
theorem ks_401 : (Int16.ofInt (401)).toInt32 = Int32.ofInt (401) := by decide +kernel
set_option maxRecDepth 100000 in
set_option maxHeartbeats 4000000 in
theorem iX8_5 {X : XX} {v : VV} {R : List (Int × Int × Int)} (h : St X 6 R) (hz : ∀ r j : Int, 6 ≤ r → v r j = 0) : Con mX8_init 2 11 2414 [(2, 5)] X v (fun _ Y w => St Y 17 (putR 5 5 15 (putR 15 0 16 (putR 5 4 13 (putR 13 0 14 (putR 5 3 12 (putR 5 2 10 (putR 10 0 11 (putR 5 1 8 (putR 8 0 9 (putR 5 0 6 (putR 6 0 7 R))))))))))) ∧ w = v) := by
  refine Con.of (by decide +kernel) (fun a ha => ?_) (Nat.le_of_ble_eq_true rfl) ?_
  · rw [List.mem_singleton.mp ha]; exact Nat.le_of_ble_eq_true rfl
  show Ex mX8_init 2 0 [(2, 5)] [] X v 11 2414 _
  refine x_aload_n dX8_init_0 rfl ?_
  refine x_objInit dX8_init_1 mlX8_3 (by decide) (by decide) (Nat.le_of_ble_eq_true rfl) ?_
  refine i_row (pc := 4) (L := 3) (nn := 401) (n := 6) 5 h (fun r j hr => hz r j (by omega)) (by decide) dX8_init_4 dX8_init_5 dX8_init_8 dX8_init_12 dX8_init_15 rfl (fun _ _ _ _ q => x_sipush dX8_init_9 ks_401 (i32_of rfl) q) nlX8_9 mlX8_11 fwX8_14 (ln := 0) rfl rfl (Nat.le_of_ble_eq_true rfl) rfl (Or.inl ⟨_, rfl⟩) (by decide) rfl rfl (by decide) (by decide) (by omega) (by omega) (by omega) (fun X0 h0 => ?_)
  refine i_row (pc := 18) (L := 3) (nn := 401) (n := 8) 5 h0 (fun r j hr => hz r j (by omega)) (by decide) dX8_init_18 dX8_init_19 dX8_init_22 dX8_init_26 dX8_init_29 rfl (fun _ _ _ _ q => x_sipush dX8_init_23 ks_401 (i32_of rfl) q) nlX8_9 mlX8_11 fwX8_20 (ln := 0) rfl rfl (Nat.le_of_ble_eq_true rfl) rfl (Or.inl ⟨_, rfl⟩) (by decide) rfl rfl (by decide) (by decide) (by omega) (by omega) (by omega) (fun X1 h1 => ?_)
  refine i_row (pc := 32) (L := 3) (nn := 401) (n := 10) 5 h1 (fun r j hr => hz r j (by omega)) (by decide) dX8_init_32 dX8_init_33 dX8_init_36 dX8_init_40 dX8_init_43 rfl (fun _ _ _ _ q => x_sipush dX8_init_37 ks_401 (i32_of rfl) q) nlX8_9 mlX8_11 fwX8_23 (ln := 0) rfl rfl (Nat.le_of_ble_eq_true rfl) rfl (Or.inl ⟨_, rfl⟩) (by decide) rfl rfl (by decide) (by decide) (by omega) (by omega) (by omega) (fun X2 h2 => ?_)
  refine i_arr (pc := 46) (L := 3) (nn := 401) (ki := 101) (n := 12) 5 h2 (fun r j hr => hz r j (by omega)) (by decide) dX8_init_46 dX8_init_50 dX8_init_52 rfl (fun _ _ _ _ q => x_sipush dX8_init_47 ks_401 (i32_of rfl) q) (Or.inr (Or.inl ⟨rfl, rfl⟩)) ac_long fwX8_26 (ln := 0) rfl rfl (Nat.le_of_ble_eq_true rfl) rfl (Or.inr ⟨_, rfl⟩) (by decide) rfl (by decide) (by omega) (by omega) (fun X3 h3 => ?_)
  refine i_row (pc := 55) (L := 3) (nn := 400) (n := 13) 5 h3 (fun r j hr => hz r j (by omega)) (by decide) dX8_init_55 dX8_init_56 dX8_init_59 dX8_init_63 dX8_init_66 rfl (fun _ _ _ _ q => x_sipush dX8_init_60 ks_400 (i32_of rfl) q) nlX8_9 mlX8_11 fwX8_30 (ln := 0) rfl rfl (Nat.le_of_ble_eq_true rfl) rfl (Or.inl ⟨_, rfl⟩) (by decide) rfl rfl (by decide) (by decide) (by omega) (by omega) (by omega) (fun X4 h4 => ?_)
  refine i_row (pc := 69) (L := 3) (nn := 400) (n := 15) 5 h4 (fun r j hr => hz r j (by omega)) (by decide) dX8_init_69 dX8_init_70 dX8_init_73 dX8_init_77 dX8_init_80 rfl (fun _ _ _ _ q => x_sipush dX8_init_74 ks_400 (i32_of rfl) q) nlX8_9 mlX8_11 fwX8_33 (ln := 0) rfl rfl (Nat.le_of_ble_eq_true rfl) rfl (Or.inl ⟨_, rfl⟩) (by decide) rfl rfl (by decide) (by decide) (by omega) (by omega) (by omega) (fun X5 h5 => ?_)
  exact x_ret none rfl ⟨dX8_init_83, rfl⟩ ⟨h5, rfl⟩

set_option maxRecDepth 100000 in
set_option maxHeartbeats 4000000 in
theorem iX5_25 {X : XX} {v : VV} {R : List (Int × Int × Int)} (h : St X 26 R) (hz : ∀ r j : Int, 26 ≤ r → v r j = 0) : Con mX5_init 2 6 818 [(2, 25), (0, 400)] X v (fun _ Y w => St Y 32 (putR 25 1 30 (putR 30 0 31 (putR 25 0 28 (putR 28 0 29 (putR 25 3 27 (putR 25 2 26 R)))))) ∧ w = v) := by
  refine Con.of (by decide +kernel) (fun a ha => ?_) (Nat.le_of_ble_eq_true rfl) ?_
  · rcases List.mem_cons.mp ha with rfl | ha
    · exact Nat.le_of_ble_eq_true rfl
    · rw [List.mem_singleton.mp ha]; exact Nat.le_of_ble_eq_true rfl
  show Ex mX5_init 2 0 [(2, 25), (0, 400)] [] X v 6 818 _
  refine x_aload_n dX5_init_0 rfl ?_
  refine x_objInit dX5_init_1 mlX5_3 (by decide) (by decide) (Nat.le_of_ble_eq_true rfl) ?_
  refine i_arr (pc := 4) (L := 2) (nn := 7) (ki := 100) (n := 26) 25 h (fun r j hr => hz r j (by omega)) (by decide) dX5_init_4 dX5_init_7 dX5_init_9 rfl (fun _ _ _ _ q => x_bipush dX5_init_5 kb_7 (i32_of rfl) q) (Or.inl ⟨rfl, rfl⟩) ac_int fwX5_9 (ln := 0) rfl rfl (Nat.le_of_ble_eq_true rfl) rfl (Or.inr ⟨_, rfl⟩) (by decide) rfl (by decide) (by omega) (by omega) (fun X0 h0 => ?_)
  refine i_arr (pc := 12) (L := 2) (nn := 7) (ki := 100) (n := 27) 25 h0 (fun r j hr => hz r j (by omega)) (by decide) dX5_init_12 dX5_init_15 dX5_init_17 rfl (fun _ _ _ _ q => x_bipush dX5_init_13 kb_7 (i32_of rfl) q) (Or.inl ⟨rfl, rfl⟩) ac_int fwX5_15 (ln := 0) rfl rfl (Nat.le_of_ble_eq_true rfl) rfl (Or.inr ⟨_, rfl⟩) (by decide) rfl (by decide) (by omega) (by omega) (fun X1 h1 => ?_)
  refine i_row (pc := 20) (L := 1) (nn := 400) (n := 28) 25 h1 (fun r j hr => hz r j (by omega)) (by decide) dX5_init_20 dX5_init_21 dX5_init_24 dX5_init_26 dX5_init_29 rfl (fun _ _ _ _ q => x_iload_n dX5_init_25 rfl q) nlX5_18 mlX5_20 fwX5_23 (ln := 0) rfl rfl (Nat.le_of_ble_eq_true rfl) rfl (Or.inl ⟨_, rfl⟩) (by decide) rfl rfl (by decide) (by decide) (by omega) (by omega) (by omega) (fun X2 h2 => ?_)
  refine i_row (pc := 32) (L := 1) (nn := 400) (n := 30) 25 h2 (fun r j hr => hz r j (by omega)) (by decide) dX5_init_32 dX5_init_33 dX5_init_36 dX5_init_38 dX5_init_41 rfl (fun _ _ _ _ q => x_iload_n dX5_init_37 rfl q) nlX5_18 mlX5_20 fwX5_27 (ln := 0) rfl rfl (Nat.le_of_ble_eq_true rfl) rfl (Or.inl ⟨_, rfl⟩) (by decide) rfl rfl (by decide) (by decide) (by omega) (by omega) (by omega) (fun X3 h3 => ?_)
  exact x_ret none rfl ⟨dX5_init_44, rfl⟩ ⟨h3, rfl⟩

set_option maxRecDepth 100000 in
set_option maxHeartbeats 4000000 in
theorem iX3_4 {X : XX} {v : VV} {R : List (Int × Int × Int)} (h : St X 5 R) (hz : ∀ r j : Int, 5 ≤ r → v r j = 0) : Con mX3_init 3 27 3269 [(2, 4)] X v (fun _ Y w => St Y 32 (putR 4 5 25 (putR 25 1 30 (putR 30 0 31 (putR 25 0 28 (putR 28 0 29 (putR 25 3 27 (putR 25 2 26 (putR 4 4 23 (putR 23 0 24 (putR 4 3 21 (putR 21 0 22 (putR 4 2 19 (putR 19 0 20 (putR 4 1 17 (putR 17 0 18 (putR 4 0 5 (putR 5 5 15 (putR 15 0 16 (putR 5 4 13 (putR 13 0 14 (putR 5 3 12 (putR 5 2 10 (putR 10 0 11 (putR 5 1 8 (putR 8 0 9 (putR 5 0 6 (putR 6 0 7 R))))))))))))))))))))))))))) ∧ w = v) := by
  refine Con.of (by decide +kernel) (fun a ha => ?_) (Nat.le_of_ble_eq_true rfl) ?_
  · rw [List.mem_singleton.mp ha]; exact Nat.le_of_ble_eq_true rfl
  show Ex mX3_init 3 0 [(2, 4)] [] X v 27 3269 _
  refine x_aload_n dX3_init_0 rfl ?_
  refine x_objInit dX3_init_1 mlX3_3 (by decide) (by decide) (Nat.le_of_ble_eq_true rfl) ?_
  refine i_obj (pc := 4) (n := 5) (n' := 17) 4 h (fun r j hr => hz r j (by omega)) (by decide) dX3_init_4 dX3_init_5 dX3_init_8 dX3_init_9 dX3_init_12 rfl nlX3_9 (by decide) mlX3_11 fwX3_12 (ln := 0) rfl rfl (Nat.le_of_ble_eq_true rfl) rfl (Or.inl ⟨_, rfl⟩) (by decide) rfl (fun Y hY => iX8_5 hY (fun r j hr => hz r j (by omega))) (by decide) (by omega) (by omega) (by omega) (fun X0 h0 => ?_)
  refine i_row (pc := 15) (L := 2) (nn := 6) (n := 17) 4 h0 (fun r j hr => hz r j (by omega)) (by decide) dX3_init_15 dX3_init_16 dX3_init_19 dX3_init_22 dX3_init_25 rfl (fun _ _ _ _ q => x_bipush dX3_init_20 kb_6 (i32_of rfl) q) nlX3_18 mlX3_20 fwX3_23 (ln := 0) rfl rfl (Nat.le_of_ble_eq_true rfl) rfl (Or.inl ⟨_, rfl⟩) (by decide) rfl rfl (by decide) (by decide) (by omega) (by omega) (by omega) (fun X1 h1 => ?_)
  refine i_row (pc := 28) (L := 2) (nn := 6) (n := 19) 4 h1 (fun r j hr => hz r j (by omega)) (by decide) dX3_init_28 dX3_init_29 dX3_init_32 dX3_init_35 dX3_init_38 rfl (fun _ _ _ _ q => x_bipush dX3_init_33 kb_6 (i32_of rfl) q) nlX3_18 mlX3_20 fwX3_27 (ln := 0) rfl rfl (Nat.le_of_ble_eq_true rfl) rfl (Or.inl ⟨_, rfl⟩) (by decide) rfl rfl (by decide) (by decide) (by omega) (by omega) (by omega) (fun X2 h2 => ?_)
  refine i_row (pc := 41) (L := 1) (nn := 3) (n := 21) 4 h2 (fun r j hr => hz r j (by omega)) (by decide) dX3_init_41 dX3_init_42 dX3_init_45 dX3_init_47 dX3_init_50 rfl (fun _ _ _ _ q => x_iconst dX3_init_46 rfl (i32_of rfl) q) nlX3_18 mlX3_20 fwX3_30 (ln := 0) rfl rfl (Nat.le_of_ble_eq_true rfl) rfl (Or.inl ⟨_, rfl⟩) (by decide) rfl rfl (by decide) (by decide) (by omega) (by omega) (by omega) (fun X3 h3 => ?_)
  refine i_row (pc := 53) (L := 1) (nn := 3) (n := 23) 4 h3 (fun r j hr => hz r j (by omega)) (by decide) dX3_init_53 dX3_init_54 dX3_init_57 dX3_init_59 dX3_init_62 rfl (fun _ _ _ _ q => x_iconst dX3_init_58 rfl (i32_of rfl) q) nlX3_18 mlX3_20 fwX3_33 (ln := 0) rfl rfl (Nat.le_of_ble_eq_true rfl) rfl (Or.inl ⟨_, rfl⟩) (by decide) rfl rfl (by decide) (by decide) (by omega) (by omega) (by omega) (fun X4 h4 => ?_)
  refine i_prg (pc := 65) (L := 3) (nn := 400) (n := 25) (n' := 32) 4 h4 (fun r j hr => hz r j (by omega)) (by decide) dX3_init_65 dX3_init_66 dX3_init_69 dX3_init_73 dX3_init_76 rfl (fun _ _ _ _ q => x_sipush dX3_init_70 ks_400 (i32_of rfl) q) nlX3_36 mlX3_38 fwX3_39 (ln := 0) rfl rfl (Nat.le_of_ble_eq_true rfl) rfl (Or.inl ⟨_, rfl⟩) (by decide) rfl (fun Y hY => iX5_25 hY (fun r j hr => hz r j (by omega))) (by decide) (by omega) (by omega) (by omega) (fun X5 h5 => ?_)
  exact x_ret none rfl ⟨dX3_init_79, rfl⟩ ⟨h5, rfl⟩

set_option maxRecDepth 100000 in
set_option maxHeartbeats 4000000 in
theorem iX4_3 {X : XX} {v : VV} {R : List (Int × Int × Int)} (h : St X 4 R) (hz : ∀ r j : Int, 4 ≤ r → v r j = 0) : Con mX4_init 4 28 3278 [(2, 3)] X v (fun _ Y w => St Y 32 (putR 3 0 4 (putR 4 5 25 (putR 25 1 30 (putR 30 0 31 (putR 25 0 28 (putR 28 0 29 (putR 25 3 27 (putR 25 2 26 (putR 4 4 23 (putR 23 0 24 (putR 4 3 21 (putR 21 0 22 (putR 4 2 19 (putR 19 0 20 (putR 4 1 17 (putR 17 0 18 (putR 4 0 5 (putR 5 5 15 (putR 15 0 16 (putR 5 4 13 (putR 13 0 14 (putR 5 3 12 (putR 5 2 10 (putR 10 0 11 (putR 5 1 8 (putR 8 0 9 (putR 5 0 6 (putR 6 0 7 R)))))))))))))))))))))))))))) ∧ w = v) := by
  refine Con.of (by decide +kernel) (fun a ha => ?_) (Nat.le_of_ble_eq_true rfl) ?_
  · rw [List.mem_singleton.mp ha]; exact Nat.le_of_ble_eq_true rfl
  show Ex mX4_init 4 0 [(2, 3)] [] X v 28 3278 _
  refine x_aload_n dX4_init_0 rfl ?_
  refine x_objInit dX4_init_1 mlX4_3 (by decide) (by decide) (Nat.le_of_ble_eq_true rfl) ?_
  refine i_obj (pc := 4) (n := 4) (n' := 32) 3 h (fun r j hr => hz r j (by omega)) (by decide) dX4_init_4 dX4_init_5 dX4_init_8 dX4_init_9 dX4_init_12 rfl nlX4_9 (by decide) mlX4_11 fwX4_12 (ln := 0) rfl rfl (Nat.le_of_ble_eq_true rfl) rfl (Or.inl ⟨_, rfl⟩) (by decide) rfl (fun Y hY => iX3_4 hY (fun r j hr => hz r j (by omega))) (by decide) (by omega) (by omega) (by omega) (fun X0 h0 => ?_)
  exact x_ret none rfl ⟨dX4_init_15, rfl⟩ ⟨h0, rfl⟩

set_option maxRecDepth 100000 in
set_option maxHeartbeats 4000000 in
theorem iX9_33 {X : XX} {v : VV} {R : List (Int × Int × Int)} (h : St X 34 R) (hz : ∀ r j : Int, 34 ≤ r → v r j = 0) : Con mX9_init 1 1 16 [(2, 33)] X v (fun _ Y w => St Y 35 (putR 33 0 34 R) ∧ w = v) := by
  refine Con.of (by decide +kernel) (fun a ha => ?_) (Nat.le_of_ble_eq_true rfl) ?_
  · rw [List.mem_singleton.mp ha]; exact Nat.le_of_ble_eq_true rfl
  show Ex mX9_init 1 0 [(2, 33)] [] X v 1 16 _
  refine x_aload_n dX9_init_0 rfl ?_
  refine x_objInit dX9_init_1 mlX9_3 (by decide) (by decide) (Nat.le_of_ble_eq_true rfl) ?_
  refine i_arr (pc := 4) (L := 2) (nn := 16) (ki := 100) (n := 34) 33 h (fun r j hr => hz r j (by omega)) (by decide) dX9_init_4 dX9_init_7 dX9_init_9 rfl (fun _ _ _ _ q => x_bipush dX9_init_5 kb_16 (i32_of rfl) q) (Or.inl ⟨rfl, rfl⟩) ac_int fwX9_9 (ln := 0) rfl rfl (Nat.le_of_ble_eq_true rfl) rfl (Or.inr ⟨_, rfl⟩) (by decide) rfl (by decide) (by omega) (by omega) (fun X0 h0 => ?_)
  exact x_ret none rfl ⟨dX9_init_12, rfl⟩ ⟨h0, rfl⟩

set_option maxRecDepth 100000 in
set_option maxHeartbeats 4000000 in
theorem iX1_32 {X : XX} {v : VV} {R : List (Int × Int × Int)} (h : St X 33 R) (hz : ∀ r j : Int, 33 ≤ r → v r j = 0) : Con mX1_init 2 2 19 [(2, 32)] X v (fun _ Y w => St Y 35 (putR 32 0 33 (putR 33 0 34 R)) ∧ w = v) := by
  refine Con.of (by decide +kernel) (fun a ha => ?_) (Nat.le_of_ble_eq_true rfl) ?_
  · rw [List.mem_singleton.mp ha]; exact Nat.le_of_ble_eq_true rfl
  show Ex mX1_init 2 0 [(2, 32)] [] X v 2 19 _
  refine x_aload_n dX1_init_0 rfl ?_
  refine x_objInit dX1_init_1 mlX1_3 (by decide) (by decide) (Nat.le_of_ble_eq_true rfl) ?_
  refine i_obj (pc := 4) (n := 33) (n' := 35) 32 h (fun r j hr => hz r j (by omega)) (by decide) dX1_init_4 dX1_init_5 dX1_init_8 dX1_init_9 dX1_init_12 rfl nlX1_9 (by decide) mlX1_11 fwX1_12 (ln := 0) rfl rfl (Nat.le_of_ble_eq_true rfl) rfl (Or.inl ⟨_, rfl⟩) (by decide) rfl (fun Y hY => iX9_33 hY (fun r j hr => hz r j (by omega))) (by decide) (by omega) (by omega) (by omega) (fun X0 h0 => ?_)
  exact x_ret none rfl ⟨dX1_init_15, rfl⟩ ⟨h0, rfl⟩

set_option maxRecDepth 100000 in
set_option maxHeartbeats 4000000 in
theorem iX9_35 {X : XX} {v : VV} {R : List (Int × Int × Int)} (h : St X 36 R) (hz : ∀ r j : Int, 36 ≤ r → v r j = 0) : Con mX9_init 1 1 16 [(2, 35)] X v (fun _ Y w => St Y 37 (putR 35 0 36 R) ∧ w = v) := by
  refine Con.of (by decide +kernel) (fun a ha => ?_) (Nat.le_of_ble_eq_true rfl) ?_
  · rw [List.mem_singleton.mp ha]; exact Nat.le_of_ble_eq_true rfl
  show Ex mX9_init 1 0 [(2, 35)] [] X v 1 16 _
  refine x_aload_n dX9_init_0 rfl ?_
  refine x_objInit dX9_init_1 mlX9_3 (by decide) (by decide) (Nat.le_of_ble_eq_true rfl) ?_
  refine i_arr (pc := 4) (L := 2) (nn := 16) (ki := 100) (n := 36) 35 h (fun r j hr => hz r j (by omega)) (by decide) dX9_init_4 dX9_init_7 dX9_init_9 rfl (fun _ _ _ _ q => x_bipush dX9_init_5 kb_16 (i32_of rfl) q) (Or.inl ⟨rfl, rfl⟩) ac_int fwX9_9 (ln := 0) rfl rfl (Nat.le_of_ble_eq_true rfl) rfl (Or.inr ⟨_, rfl⟩) (by decide) rfl (by decide) (by omega) (by omega) (fun X0 h0 => ?_)
  exact x_ret none rfl ⟨dX9_init_12, rfl⟩ ⟨h0, rfl⟩

set_option maxRecDepth 100000 in
set_option maxHeartbeats 4000000 in
theorem iX2_41 {X : XX} {v : VV} {R : List (Int × Int × Int)} (h : St X 42 R) (hz : ∀ r j : Int, 42 ≤ r → v r j = 0) : Con mX2_init 1 1 16 [(2, 41)] X v (fun _ Y w => St Y 43 (putR 41 0 42 R) ∧ w = v) := by
  refine Con.of (by decide +kernel) (fun a ha => ?_) (Nat.le_of_ble_eq_true rfl) ?_
  · rw [List.mem_singleton.mp ha]; exact Nat.le_of_ble_eq_true rfl
  show Ex mX2_init 1 0 [(2, 41)] [] X v 1 16 _
  refine x_aload_n dX2_init_0 rfl ?_
  refine x_objInit dX2_init_1 mlX2_3 (by decide) (by decide) (Nat.le_of_ble_eq_true rfl) ?_
  refine i_arr (pc := 4) (L := 2) (nn := 16) (ki := 100) (n := 42) 41 h (fun r j hr => hz r j (by omega)) (by decide) dX2_init_4 dX2_init_7 dX2_init_9 rfl (fun _ _ _ _ q => x_bipush dX2_init_5 kb_16 (i32_of rfl) q) (Or.inl ⟨rfl, rfl⟩) ac_int fwX2_9 (ln := 0) rfl rfl (Nat.le_of_ble_eq_true rfl) rfl (Or.inr ⟨_, rfl⟩) (by decide) rfl (by decide) (by omega) (by omega) (fun X0 h0 => ?_)
  exact x_ret none rfl ⟨dX2_init_12, rfl⟩ ⟨h0, rfl⟩

set_option maxRecDepth 100000 in
set_option maxHeartbeats 4000000 in
theorem iX10_0 {X : XX} {v : VV} {R : List (Int × Int × Int)} (h : St X 1 R) (hz : ∀ r j : Int, 1 ≤ r → v r j = 0) : Con mX10_init 5 46 4313 [(2, 0)] X v (fun _ Y w => St Y 47 (putR 0 10 45 (putR 45 0 46 (putR 0 9 43 (putR 43 0 44 (putR 0 8 41 (putR 41 0 42 (putR 0 7 40 (putR 0 6 39 (putR 0 5 38 (putR 0 4 37 (putR 0 3 35 (putR 35 0 36 (putR 0 2 32 (putR 32 0 33 (putR 33 0 34 (putR 0 1 3 (putR 3 0 4 (putR 4 5 25 (putR 25 1 30 (putR 30 0 31 (putR 25 0 28 (putR 28 0 29 (putR 25 3 27 (putR 25 2 26 (putR 4 4 23 (putR 23 0 24 (putR 4 3 21 (putR 21 0 22 (putR 4 2 19 (putR 19 0 20 (putR 4 1 17 (putR 17 0 18 (putR 4 0 5 (putR 5 5 15 (putR 15 0 16 (putR 5 4 13 (putR 13 0 14 (putR 5 3 12 (putR 5 2 10 (putR 10 0 11 (putR 5 1 8 (putR 8 0 9 (putR 5 0 6 (putR 6 0 7 (putR 0 0 1 (putR 1 0 2 R)))))))))))))))))))))))))))))))))))))))))))))) ∧ w = (upd2 v 0 15 (-1))) := by
  refine Con.of (by decide +kernel) (fun a ha => ?_) (Nat.le_of_ble_eq_true rfl) ?_
  · rw [List.mem_singleton.mp ha]; exact Nat.le_of_ble_eq_true rfl
  show Ex mX10_init 5 0 [(2, 0)] [] X v 46 4313 _
  refine x_aload_n dX10_init_0 rfl ?_
  refine x_objInit dX10_init_1 mlX10_3 (by decide) (by decide) (Nat.le_of_ble_eq_true rfl) ?_
  refine i_row (pc := 4) (L := 3) (nn := 400) (n := 1) 0 h (fun r j hr => hz r j (by omega)) (by decide) dX10_init_4 dX10_init_5 dX10_init_8 dX10_init_12 dX10_init_15 rfl (fun _ _ _ _ q => x_sipush dX10_init_9 ks_400 (i32_of rfl) q) nlX10_9 mlX10_11 fwX10_14 (ln := 0) rfl rfl (Nat.le_of_ble_eq_true rfl) rfl (Or.inl ⟨_, rfl⟩) (by decide) rfl rfl (by decide) (by decide) (by omega) (by omega) (by omega) (fun X0 h0 => ?_)
  refine i_obj (pc := 18) (n := 3) (n' := 32) 0 h0 (fun r j hr => hz r j (by omega)) (by decide) dX10_init_18 dX10_init_19 dX10_init_22 dX10_init_23 dX10_init_26 rfl nlX10_18 (by decide) mlX10_20 fwX10_21 (ln := 0) rfl rfl (Nat.le_of_ble_eq_true rfl) rfl (Or.inl ⟨_, rfl⟩) (by decide) rfl (fun Y hY => iX4_3 hY (fun r j hr => hz r j (by omega))) (by decide) (by omega) (by omega) (by omega) (fun X1 h1 => ?_)
  refine i_obj (pc := 29) (n := 32) (n' := 35) 0 h1 (fun r j hr => hz r j (by omega)) (by decide) dX10_init_29 dX10_init_30 dX10_init_33 dX10_init_34 dX10_init_37 rfl nlX10_25 (by decide) mlX10_27 fwX10_28 (ln := 0) rfl rfl (Nat.le_of_ble_eq_true rfl) rfl (Or.inl ⟨_, rfl⟩) (by decide) rfl (fun Y hY => iX1_32 hY (fun r j hr => hz r j (by omega))) (by decide) (by omega) (by omega) (by omega) (fun X2 h2 => ?_)
  refine i_obj (pc := 40) (n := 35) (n' := 37) 0 h2 (fun r j hr => hz r j (by omega)) (by decide) dX10_init_40 dX10_init_41 dX10_init_44 dX10_init_45 dX10_init_48 rfl nlX10_32 (by decide) mlX10_34 fwX10_35 (ln := 0) rfl rfl (Nat.le_of_ble_eq_true rfl) rfl (Or.inl ⟨_, rfl⟩) (by decide) rfl (fun Y hY => iX9_35 hY (fun r j hr => hz r j (by omega))) (by decide) (by omega) (by omega) (by omega) (fun X3 h3 => ?_)
  refine i_ref (pc := 51) (L := 2) (nn := 16) (ki := 103) (C := RX7) (n := 37) 0 h3 (fun r j hr => hz r j (by omega)) (by decide) dX10_init_51 dX10_init_54 dX10_init_57 rfl (fun _ _ _ _ q => x_bipush dX10_init_52 kb_16 (i32_of rfl) q) (Or.inl ⟨rfl, rfl⟩) (tb_of 217 (by decide +kernel) (by decide +kernel)) fwX10_41 (ln := 0) rfl rfl (Nat.le_of_ble_eq_true rfl) rfl (Or.inr ⟨_, rfl⟩) (by decide) rfl (by decide) (by omega) (by omega) (fun X4 h4 => ?_)
  refine i_arr (pc := 60) (L := 3) (nn := 128) (ki := 100) (n := 38) 0 h4 (fun r j hr => hz r j (by omega)) (by decide) dX10_init_60 dX10_init_64 dX10_init_66 rfl (fun _ _ _ _ q => x_sipush dX10_init_61 ks_128 (i32_of rfl) q) (Or.inl ⟨rfl, rfl⟩) ac_int fwX10_45 (ln := 0) rfl rfl (Nat.le_of_ble_eq_true rfl) rfl (Or.inr ⟨_, rfl⟩) (by decide) rfl (by decide) (by omega) (by omega) (fun X5 h5 => ?_)
  refine i_arr (pc := 69) (L := 3) (nn := 128) (ki := 100) (n := 39) 0 h5 (fun r j hr => hz r j (by omega)) (by decide) dX10_init_69 dX10_init_73 dX10_init_75 rfl (fun _ _ _ _ q => x_sipush dX10_init_70 ks_128 (i32_of rfl) q) (Or.inl ⟨rfl, rfl⟩) ac_int fwX10_49 (ln := 0) rfl rfl (Nat.le_of_ble_eq_true rfl) rfl (Or.inr ⟨_, rfl⟩) (by decide) rfl (by decide) (by omega) (by omega) (fun X6 h6 => ?_)
  refine i_ref (pc := 78) (L := 2) (nn := 40) (ki := 104) (C := RX0) (n := 40) 0 h6 (fun r j hr => hz r j (by omega)) (by decide) dX10_init_78 dX10_init_81 dX10_init_84 rfl (fun _ _ _ _ q => x_bipush dX10_init_79 kb_40 (i32_of rfl) q) (Or.inr ⟨rfl, rfl⟩) (tb_of 219 (by decide +kernel) (by decide +kernel)) fwX10_54 (ln := 0) rfl rfl (Nat.le_of_ble_eq_true rfl) rfl (Or.inr ⟨_, rfl⟩) (by decide) rfl (by decide) (by omega) (by omega) (fun X7 h7 => ?_)
  refine i_obj (pc := 87) (n := 41) (n' := 43) 0 h7 (fun r j hr => hz r j (by omega)) (by decide) dX10_init_87 dX10_init_88 dX10_init_91 dX10_init_92 dX10_init_95 rfl nlX10_58 (by decide) mlX10_60 fwX10_61 (ln := 0) rfl rfl (Nat.le_of_ble_eq_true rfl) rfl (Or.inl ⟨_, rfl⟩) (by decide) rfl (fun Y hY => iX2_41 hY (fun r j hr => hz r j (by omega))) (by decide) (by omega) (by omega) (by omega) (fun X8 h8 => ?_)
  refine i_row (pc := 98) (L := 3) (nn := 128) (n := 43) 0 h8 (fun r j hr => hz r j (by omega)) (by decide) dX10_init_98 dX10_init_99 dX10_init_102 dX10_init_106 dX10_init_109 rfl (fun _ _ _ _ q => x_sipush dX10_init_103 ks_128 (i32_of rfl) q) nlX10_9 mlX10_11 fwX10_65 (ln := 0) rfl rfl (Nat.le_of_ble_eq_true rfl) rfl (Or.inl ⟨_, rfl⟩) (by decide) rfl rfl (by decide) (by decide) (by omega) (by omega) (by omega) (fun X9 h9 => ?_)
  refine i_row (pc := 112) (L := 3) (nn := 128) (n := 45) 0 h9 (fun r j hr => hz r j (by omega)) (by decide) dX10_init_112 dX10_init_113 dX10_init_116 dX10_init_120 dX10_init_123 rfl (fun _ _ _ _ q => x_sipush dX10_init_117 ks_128 (i32_of rfl) q) nlX10_9 mlX10_11 fwX10_68 (ln := 0) rfl rfl (Nat.le_of_ble_eq_true rfl) rfl (Or.inl ⟨_, rfl⟩) (by decide) rfl rfl (by decide) (by decide) (by omega) (by omega) (by omega) (fun X10 h10 => ?_)
  refine x_aload_n dX10_init_126 rfl ?_
  refine x_iconst dX10_init_127 rfl (i32_of rfl) ?_
  refine x_puti 0 fwX10_71 dX10_init_128 (len := 0) (h10.2.1 0 _ (by decide) rfl) ⟨by decide, by rw [h10.1]; decide⟩ (fun h => Bool.noConfusion h) (Nat.le_of_ble_eq_true rfl) rfl (Or.inl ⟨rfl, Or.inl rfl⟩) ?_
  exact x_ret none rfl ⟨dX10_init_131, rfl⟩ ⟨h10, rfl⟩
