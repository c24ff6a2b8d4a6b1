/-! ===== the class: a row copied ===== -/
def CpR (X : XX) (v : VV) (o c : Int) (o1 : Option AV) (Y : XX) (w : VV) : Prop := o1 = some (2, (X.1.1 : Int)) ∧ ExtX X Y ∧ Y.1.1 = X.1.1 + 2 ∧ RowS Y X.1.1 ((X.1.1 : Int) + 1) (v o 1).toNat ∧ w X.1.1 1 = v o 1 ∧ (∀ i, 0 ≤ i → i < v o 1 → w ((X.1.1 : Int) + 1) i = v c i) ∧ Fr (fun r _ => (X.1.1 : Int) ≤ r) v w
set_option maxRecDepth 100000 in
set_option maxHeartbeats 4000000 in
theorem k_copy {X : XX} {v : VV} {o c : Int} {R : Nat} (hW : SW X) (hR : RowS X o c R) (hR6 : R ≤ 60000000) (hs : 0 ≤ v o 1 ∧ v o 1 ≤ R) : Con mX6_copy 3 2 (2 + (v o 1).toNat) [(2, o)] X v (fun o1 Y w => CpR X v o c o1 Y w) := by
  obtain ⟨r1, r2, r3, r4, r5⟩ := id hR
  have hne1 : ¬ o = (X.1.1 : Int) := by omega
  have hne2 : ¬ o = (X.1.1 : Int) + 1 := by omega
  have hnc1 : ¬ c = (X.1.1 : Int) := by omega
  have hnc2 : ¬ c = (X.1.1 : Int) + 1 := by omega
  have en : ((v o 1).toNat : Int) = v o 1 := Int.toNat_of_nonneg hs.1
  have eV : nV X v o 1 = v o 1 := if_neg hne1
  refine Con.of (by decide +kernel) (fun a ha => ?_) (Nat.le_of_ble_eq_true rfl) ?_
  · rw [List.mem_singleton.mp ha]; exact Nat.le_of_ble_eq_true rfl
  show Ex mX6_copy 3 0 [(2, o), (3, 0)] [] X v 2 (2 + (v o 1).toNat) _
  have hro : (nX X 6 0).1.2 o = (6, 0) := by
    show (if o = (X.1.1 : Int) then _ else X.1.2 o) = _
    rw [if_neg hne1]; exact r1
  have hnew : (nX X 6 0).1.2 (X.1.1 : Int) = (6, 0) := if_pos rfl
  have hini := k_rowInit (v := nV X v) (n := (v o 1).toNat) hnew ⟨by omega, by show (X.1.1 : Int) < ((X.1.1 + 1 : Nat) : Int); omega⟩ (by omega)
  rw [en] at hini
  refine bX6_copy_0 o (Nat.le_refl _) hW ⟨⟨by omega, by omega⟩, hro, ⟨r2.1, by show o < ((X.1.1 + 1 : Nat) : Int); omega⟩, 1, (v o 1).toNat, by omega, by omega, _, by rw [eV]; exact hini, fun Y7 w6 hP => ?_⟩
  obtain ⟨rfl, rfl⟩ := hP
  have hE : ExtX X (rowX (nX X 6 0) X.1.1 (v o 1).toNat) := ExtX.rowX
  have hS2 : RowS (rowX (nX X 6 0) X.1.1 (v o 1).toNat) X.1.1 ((X.1.1 : Int) + 1) (v o 1).toNat := by
    have h := rowX_S (X := nX X 6 0) (o := (X.1.1 : Int)) (n := (v o 1).toNat) hnew ⟨by omega, by show (X.1.1 : Int) < ((X.1.1 + 1 : Nat) : Int); omega⟩
    exact h
  have w1 : nV (nX X 6 0) (nV X v) X.1.1 1 = 0 := by
    show (if (X.1.1 : Int) = ((X.1.1 + 1 : Nat) : Int) then (0 : Int) else if (X.1.1 : Int) = (X.1.1 : Int) then 0 else v X.1.1 1) = 0
    rw [if_neg (by omega), if_pos rfl]
  have wo : ∀ r j : Int, r < X.1.1 → nV (nX X 6 0) (nV X v) r j = v r j := fun r j hr => by
    show (if r = ((X.1.1 + 1 : Nat) : Int) then (0 : Int) else if r = (X.1.1 : Int) then 0 else v r j) = v r j
    rw [if_neg (by omega), if_neg (by omega)]
  have hWY : SW (rowX (nX X 6 0) X.1.1 (v o 1).toNat) := hW.ext hE
  refine ⟨hWY, hS2.1, hS2.2.1, _, k_addAll hWY hS2 (hE.row hR) (by omega) (by omega) (by rw [wo o 1 r2.2]; exact hs) (by rw [w1, wo o 1 r2.2]; omega), fun w14 hP => ?_⟩
  obtain ⟨p1, p2, p3⟩ := hP
  rw [w1, wo o 1 r2.2] at p1
  refine ⟨rfl, hE, rfl, hS2, by rw [p1]; omega, fun i i0 i1 => ?_, fun r j hn => ?_⟩
  · have z := p2 i i0 (by rw [wo o 1 r2.2]; exact i1)
    rw [w1, wo c i r5.2, show (0 : Int) + i = i by omega] at z
    exact z
  · have hn' : ¬ (X.1.1 : Int) ≤ r := hn
    rw [p3 r j (by omega), wo r j (by omega)]
