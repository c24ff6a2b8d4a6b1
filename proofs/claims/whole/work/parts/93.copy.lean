/-! ===== the class: new rows, copies ===== -/
/-- a new row object of room n at o (an object's cell already there) -/
def rowX (X : XX) (o : Int) (n : Nat) : XX := ((nX X 100 n).1, upd2 (nX X 100 n).2 o 0 X.1.1)
set_option maxRecDepth 100000 in
set_option maxHeartbeats 4000000 in
theorem k_rowInit {X : XX} {v : VV} {o : Int} {n : Nat} (hs : X.1.2 o = (6, 0)) (hr : 0 ≤ o ∧ o < X.1.1) (hn : n ≤ 60000000) : Con mX6_init 1 1 n [(2, o), (0, (n : Int))] X v (fun _ X1 v1 => X1 = rowX X o n ∧ v1 = nV X v) := by
  refine Con.of (by decide +kernel) (fun a ha => ?_) (Nat.le_of_ble_eq_true rfl) ?_
  · rcases List.mem_cons.mp ha with rfl | ha
    · exact Nat.le_of_ble_eq_true rfl
    · rw [List.mem_singleton.mp ha]; exact Nat.le_of_ble_eq_true rfl
  show Ex mX6_init 1 0 [(2, o), (0, (n : Int))] [] X v 1 n _
  have hne : ¬ o = (X.1.1 : Int) := by omega
  have e0 : (if (n : Int) < 0 then (0 : Int) else n) = n := if_neg (by omega)
  refine x_aload_n dX6_init_0 rfl ?_
  refine x_objInit dX6_init_1 mlX6_3 hr.1 (by decide) (Nat.le_of_ble_eq_true rfl) ?_
  refine x_aload_n dX6_init_4 rfl ?_
  refine x_iload_n dX6_init_5 rfl ?_
  refine x_iconst dX6_init_6 rfl (i32_of rfl) ?_
  refine x_max dX6_init_7 mlX6_9 (by decide) (Nat.le_of_ble_eq_true rfl) ?_
  rw [e0]
  refine x_newarr n dX6_init_10 (Or.inl ⟨rfl, rfl⟩) ac_int rfl hn (Nat.le_refl _) (Nat.le_refl _) ?_
  refine x_putr fwX6_15 dX6_init_12 (r := o) (len := 0) ?_ ?_ (fun _ => rfl) (Nat.le_of_ble_eq_true rfl) rfl (Or.inr ⟨_, rfl⟩) ?_
  · show (if o = (X.1.1 : Int) then _ else X.1.2 o) = _
    rw [if_neg hne]; exact hs
  · show 0 ≤ o ∧ o < ((X.1.1 + 1 : Nat) : Int)
    omega
  exact x_ret none rfl ⟨dX6_init_15, rfl⟩ ⟨rfl, rfl⟩
theorem rowX_S {X : XX} {o : Int} {n : Nat} (hs : X.1.2 o = (6, 0)) (hr : 0 ≤ o ∧ o < X.1.1) : RowS (rowX X o n) o X.1.1 n := by
  have hne : ¬ o = (X.1.1 : Int) := by omega
  refine ⟨?_, ?_, upd2_s _ _ _ _, ?_, ?_⟩
  · show (if o = (X.1.1 : Int) then _ else X.1.2 o) = _
    rw [if_neg hne]; exact hs
  · show 0 ≤ o ∧ o < ((X.1.1 + 1 : Nat) : Int)
    omega
  · show (if (X.1.1 : Int) = (X.1.1 : Int) then _ else X.1.2 X.1.1) = _
    rw [if_pos rfl]
  · show 0 ≤ (X.1.1 : Int) ∧ (X.1.1 : Int) < ((X.1.1 + 1 : Nat) : Int)
    omega
/-- what is there stays as it is -/
def ExtX (X Y : XX) : Prop := X.1.1 ≤ Y.1.1 ∧ ∀ k : Int, 0 ≤ k → k < X.1.1 → Y.1.2 k = X.1.2 k ∧ ∀ j, Y.2 k j = X.2 k j
theorem ExtX.rf (X : XX) : ExtX X X := ⟨Nat.le_refl _, fun _ _ _ => ⟨rfl, fun _ => rfl⟩⟩
theorem ExtX.trans {X Y Z : XX} (h : ExtX X Y) (h2 : ExtX Y Z) : ExtX X Z := ⟨Nat.le_trans h.1 h2.1, fun k k0 k1 => by
  have a := h.2 k k0 k1
  have b := h2.2 k k0 (by have := h.1; omega)
  exact ⟨b.1.trans a.1, fun j => (b.2 j).trans (a.2 j)⟩⟩
theorem ExtX.new (X : XX) (ki n : Nat) : ExtX X (nX X ki n) := ⟨by show X.1.1 ≤ X.1.1 + 1; omega, fun k k0 k1 => by
  have hne : ¬ k = (X.1.1 : Int) := by omega
  exact ⟨if_neg hne, fun j => if_neg hne⟩⟩
theorem ExtX.row {X : XX} {o c : Int} {R : Nat} {Y : XX} (h : ExtX X Y) (hr : RowS X o c R) : RowS Y o c R := by
  obtain ⟨a1, a2, a3, a4, a5⟩ := hr
  have h1 := h.1
  obtain ⟨b1, b2⟩ := h.2 o a2.1 a2.2
  obtain ⟨b3, -⟩ := h.2 c a5.1 a5.2
  exact ⟨b1.trans a1, by omega, (b2 0).trans a3, b3.trans a4, by omega⟩
theorem ExtX.rowX {X : XX} {ki : Nat} {n : Nat} : ExtX X (rowX (nX X ki 0) X.1.1 n) := by
  refine ⟨by show X.1.1 ≤ X.1.1 + 1 + 1; omega, fun k k0 k1 => ?_⟩
  have h1 : ¬ k = (X.1.1 : Int) := by omega
  have h2 : ¬ k = ((X.1.1 + 1 : Nat) : Int) := by omega
  refine ⟨?_, fun j => ?_⟩
  · show (if k = ((X.1.1 + 1 : Nat) : Int) then _ else if k = (X.1.1 : Int) then _ else X.1.2 k) = _
    rw [if_neg h2, if_neg h1]
  · show upd2 _ _ _ _ k j = _
    rw [upd2_n _ (fun q => h1 q.1)]
    show (if k = ((X.1.1 + 1 : Nat) : Int) then _ else if k = (X.1.1 : Int) then _ else X.2 k j) = _
    rw [if_neg h2, if_neg h1]
theorem SW.ext {X Y : XX} (h : SW X) (hx : ExtX X Y) : SW Y := by
  obtain ⟨a1, a2, a3⟩ := h
  have hl : ∀ (k : Nat) (c : Nat × Nat), stab[k]? = some c → k < 87 := fun k c hk => (List.getElem?_eq_some_iff.mp hk).1
  have hr : ∀ q ∈ rtab, 0 ≤ q.1 ∧ q.1 < 87 := by decide +kernel
  refine ⟨Nat.le_trans a1 hx.1, fun k c hk => ?_, fun k q hk => ?_⟩
  · rw [(hx.2 k (by omega) (by have := hl k c hk; omega)).1]; exact a2 k c hk
  · have hq := hr q (List.mem_of_getElem? hk)
    rw [(hx.2 q.1 hq.1 (by omega)).2]; exact a3 k q hk
