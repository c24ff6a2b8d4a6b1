/-! ===== the class: a table's column names ===== -/
theorem nV_f (X : XX) (v : VV) : Fr (fun r _ => (X.1.1 : Int) ≤ r) v (nV X v) := fun r j hn => by
  have hn' : ¬ (X.1.1 : Int) ≤ r := hn
  exact if_neg (by omega)
set_option maxRecDepth 100000 in
set_option maxHeartbeats 4000000 in
theorem k_columnNames {X : XX} {v : VV} {b : Int → Int} {n N : Int} {C : Nat} {ct : Int → Int} (hW : SW X) (hT : TOK b n N v) (h17 : v 17 1 = C) (hC : C ≤ 6) (hct : ∀ i : Int, 0 ≤ i → i < C → v 18 i = ct i) (hN : NmR b n N ct C) : Con mX3_columnNames 1 1 C [(2, 4)] X v (fun o Y w => o = some (2, (X.1.1 : Int)) ∧ Y = nX X 101 C ∧ (∀ i : Int, 0 ≤ i → i < C → w X.1.1 i = nm32 b n (ct i)) ∧ Fr (fun r _ => (X.1.1 : Int) ≤ r) v w) := by
  have h87 : 87 ≤ X.1.1 := hW.1
  have hWY : SW (nX X 101 C) := hW.new
  have hE : ExtX X (nX X 101 C) := ExtX.new X 101 C
  have key : ∀ (x : Int) (V : VV), (0 ≤ x ∧ x ≤ C) → (∀ i : Int, 0 ≤ i → i < x → V X.1.1 i = nm32 b n (ct i)) → Fr (fun r _ => (X.1.1 : Int) ≤ r) v V → Ex mX3_columnNames 1 16 [(2, 4), (2, (X.1.1 : Int)), (0, x)] [] (nX X 101 C) V 0 0 (fun o Y w => o = some (2, (X.1.1 : Int)) ∧ Y = nX X 101 C ∧ (∀ i : Int, 0 ≤ i → i < C → w X.1.1 i = nm32 b n (ct i)) ∧ Fr (fun r _ => (X.1.1 : Int) ≤ r) v w) := by
    refine loop2 (fun (x : Int) (_ : VV) => ((C : Int) - x).toNat) (fun (x : Int) (V : VV) => (0 ≤ x ∧ x ≤ C) → (∀ i : Int, 0 ≤ i → i < x → V X.1.1 i = nm32 b n (ct i)) → Fr (fun r _ => (X.1.1 : Int) ≤ r) v V → Ex mX3_columnNames 1 16 [(2, 4), (2, (X.1.1 : Int)), (0, x)] [] (nX X 101 C) V 0 0 (fun o Y w => o = some (2, (X.1.1 : Int)) ∧ Y = nX X 101 C ∧ (∀ i : Int, 0 ≤ i → i < C → w X.1.1 i = nm32 b n (ct i)) ∧ Fr (fun r _ => (X.1.1 : Int) ≤ r) v w)) (fun x V ih => ?_)
    intro hx hi hf
    have hTV : TOK b n N V := hT.fr hf (fun r j q => by unfold TOs at q; omega)
    have e17 : V 17 1 = C := (hf 17 1 (by omega)).trans h17
    refine bX3_columnNames_16 _ x (by decide) hWY (fun _ => ⟨C, if_pos rfl, ⟨by omega, by show (X.1.1 : Int) < ((X.1.1 + 1 : Nat) : Int); omega⟩, fun g => ⟨rfl, rfl, fun i i0 i1 => hi i i0 (by omega), hf⟩, fun g => ⟨_, k_get hWY (rowS17 hWY) (by omega) x, fun r9 w10 hP => ?_⟩⟩)
    obtain ⟨rfl, hr⟩ := hP
    obtain rfl : r9 = ct x := by
      rw [rGet_in ⟨hx.1, by omega⟩, hf 18 x (by omega), hct x hx.1 g] at hr
      simpa using hr
    obtain ⟨a1, a2⟩ := hN x hx.1 g
    refine ⟨_, k_name hWY hTV a1.1 a1.2 a2, fun r13 w14 hP => ?_⟩
    obtain ⟨rfl, hr13⟩ := hP
    obtain rfl : r13 = nm32 b n (ct x) := by simpa using hr13
    refine ⟨⟨by omega, by omega⟩, ⟨by omega, by omega⟩, ih (x + 1) _ (by omega) ⟨by omega, by omega⟩ (fun i i0 i1 => ?_) (hf.up (Int.le_refl _))⟩
    by_cases h : i = x
    · subst h; exact upd2_s _ _ _ _
    · rw [upd2_n _ (fun q => h q.2)]; exact hi i i0 (by omega)
  refine Con.of (by decide +kernel) (fun a ha => ?_) (Nat.le_of_ble_eq_true rfl) ?_
  · rw [List.mem_singleton.mp ha]; exact Nat.le_of_ble_eq_true rfl
  show Ex mX3_columnNames 1 0 [(2, 4), (3, 0), (3, 0)] [] X v 1 C _
  refine bX3_columnNames_0 (by decide) hW ⟨_, k_size hW (rowS17 hW), fun r2 w3 hP => ?_⟩
  obtain ⟨rfl, hr⟩ := hP
  obtain rfl : r2 = (C : Int) := by rw [h17] at hr; simpa using hr
  refine ⟨C, by rw [if_neg (by omega)], by omega, Nat.le_refl _, Nat.le_refl _, ?_⟩
  have h := key 0 (nV X w3) ⟨Int.le_refl _, by omega⟩ (fun i i0 i1 => by omega) (nV_f X w3)
  rw [show 1 - 1 = 0 from rfl, show C - C = 0 by omega]
  exact h
