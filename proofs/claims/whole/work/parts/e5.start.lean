/-! ===== when both objects are made ===== -/
def Rc : List (Int × Int × Int) := (putR 0 10 45 (putR 45 0 46 (putR 0 9 43 (putR 43 0 44 (putR 0 8 41 (putR 41 0 42 (putR 0 7 40 (putR 0 6 39 (putR 0 5 38 (putR 0 4 37 (putR 0 3 35 (putR 35 0 36 (putR 0 2 32 (putR 32 0 33 (putR 33 0 34 (putR 0 1 3 (putR 3 0 4 (putR 4 5 25 (putR 25 1 30 (putR 30 0 31 (putR 25 0 28 (putR 28 0 29 (putR 25 3 27 (putR 25 2 26 (putR 4 4 23 (putR 23 0 24 (putR 4 3 21 (putR 21 0 22 (putR 4 2 19 (putR 19 0 20 (putR 4 1 17 (putR 17 0 18 (putR 4 0 5 (putR 5 5 15 (putR 15 0 16 (putR 5 4 13 (putR 13 0 14 (putR 5 3 12 (putR 5 2 10 (putR 10 0 11 (putR 5 1 8 (putR 8 0 9 (putR 5 0 6 (putR 6 0 7 (putR 0 0 1 (putR 1 0 2 []))))))))))))))))))))))))))))))))))))))))))))))
def Rm : List (Int × Int × Int) := (putR 47 66 86 (putR 47 63 85 (putR 47 62 84 (putR 47 61 83 (putR 47 60 82 (putR 47 58 81 (putR 47 56 80 (putR 47 55 79 (putR 47 54 78 (putR 47 53 77 (putR 47 49 76 (putR 47 48 75 (putR 47 47 74 (putR 47 46 73 (putR 47 45 72 (putR 47 44 71 (putR 47 43 70 (putR 47 40 69 (putR 47 21 68 (putR 47 20 67 (putR 47 19 66 (putR 47 18 65 (putR 47 17 64 (putR 47 16 63 (putR 47 15 62 (putR 47 14 61 (putR 47 13 60 (putR 47 12 59 (putR 47 11 58 (putR 47 10 57 (putR 47 9 56 (putR 47 8 55 (putR 47 7 54 (putR 47 6 53 (putR 47 5 52 (putR 47 4 51 (putR 47 3 50 (putR 47 2 49 (putR 47 1 48 Rc)))))))))))))))))))))))))))))))))))))))
def vS1 : VV := upd2 (fun _ _ => 0) 0 15 (-1)
def vS : VV := (upd2 (upd2 (upd2 (upd2 (upd2 (upd2 (upd2 (upd2 vS1 47 28 (-1)) 47 33 439745) 47 34 70441) 47 35 10650290) 47 36 131638) 47 37 12384743) 47 38 8897) 47 39 14409)
theorem sw_start {X : XX} (h : St X 87 Rm) : SW X := by
  have hm : ∀ q ∈ rtab, q ∈ Rm := by decide +kernel
  refine ⟨by rw [h.1]; exact Nat.le_refl _, fun k c hk => ?_, fun k q hk => ?_⟩
  · have hl : k < 87 := (List.getElem?_eq_some_iff.mp hk).1
    exact h.2.1 k c hl hk
  · exact (h.2.2.1 q (hm q (List.mem_of_getElem? hk))).2
theorem vS_0 (r j : Int) (h1 : ¬ (r = 0 ∧ j = 15)) (h2 : ¬ (r = 47 ∧ (j = 28 ∨ (33 ≤ j ∧ j ≤ 39)))) : vS r j = 0 := by
  unfold vS vS1
  rw [upd2_n _ (by omega), upd2_n _ (by omega), upd2_n _ (by omega), upd2_n _ (by omega), upd2_n _ (by omega), upd2_n _ (by omega), upd2_n _ (by omega), upd2_n _ (by omega), upd2_n _ (by omega)]
set_option maxRecDepth 100000 in
theorem I2_start {X : XX} (h : St X 87 Rm) : I2 (fun _ => (fun _ => 0, 0)) (fun _ => 0) 0 X vS (mp vS) := by
  have n37 : ∀ j, X.2 37 j = -1 := fun j => (h.2.2.2 j).1 (by decide)
  have n40 : ∀ j, X.2 40 j = -1 := fun j => (h.2.2.2 j).2 (by decide)
  have z : ∀ r j : Int, ¬ (r = 0 ∧ j = 15) → ¬ (r = 47 ∧ (j = 28 ∨ (33 ≤ j ∧ j ≤ 39))) → vS r j = 0 := vS_0
  have e0 : vS 47 0 = 0 := z 47 0 (by omega) (by omega)
  have e22 : vS 47 22 = 0 := z 47 22 (by omega) (by omega)
  have e57 : vS 47 57 = 0 := z 47 57 (by omega) (by omega)
  have e59 : vS 47 59 = 0 := z 47 59 (by omega) (by omega)
  have e64 : vS 47 64 = 0 := z 47 64 (by omega) (by omega)
  have m : ∀ j, mp vS 47 j = vS 47 j := fun j => mp_in vS j ⟨by decide, by decide⟩
  have hT : ∀ t, ¬ isT vS t := fun t ht => by
    obtain ⟨t0, t1, -⟩ := ht
    rw [e0] at t1; omega
  have hM : MIn (fun _ => (fun _ => 0, 0)) 0 vS := by
    refine ⟨⟨⟨?_, ?_, ?_, ?_, ?_⟩, fun t t0 t1 => ?_, fun t ht => absurd ht.1 (hT t)⟩, ⟨?_, ?_, ?_, ?_, ?_, ?_, ?_⟩, ⟨z 47 52 (by omega) (by omega), z 47 65 (by omega) (by omega), ?_, ?_⟩, fun a a0 a1 => ?_, ⟨⟨?_, ?_⟩, fun i i0 i1 => ?_⟩, ⟨fun t c hc => absurd hc.1 (hT t), fun t ht => absurd ht.1 (hT t)⟩, fun t ht => absurd ht.1 (hT t)⟩
    · rw [e0]; omega
    · rw [e22]; omega
    · rw [e57]; omega
    · rw [e59]; omega
    · rw [e64]; omega
    · rw [e0] at t1; omega
    · unfold vS; rw [upd2_n _ (by omega), upd2_n _ (by omega), upd2_n _ (by omega), upd2_n _ (by omega), upd2_n _ (by omega), upd2_n _ (by omega), upd2_s]
    · unfold vS; rw [upd2_n _ (by omega), upd2_n _ (by omega), upd2_n _ (by omega), upd2_n _ (by omega), upd2_n _ (by omega), upd2_s]
    · unfold vS; rw [upd2_n _ (by omega), upd2_n _ (by omega), upd2_n _ (by omega), upd2_n _ (by omega), upd2_s]
    · unfold vS; rw [upd2_n _ (by omega), upd2_n _ (by omega), upd2_n _ (by omega), upd2_s]
    · unfold vS; rw [upd2_n _ (by omega), upd2_n _ (by omega), upd2_s]
    · unfold vS; rw [upd2_n _ (by omega), upd2_s]
    · unfold vS; rw [upd2_s]
    · rw [z 47 50 (by omega) (by omega)]; omega
    · rw [z 47 50 (by omega) (by omega)]; omega
    · rw [e59] at a1; omega
    · rw [e22]; omega
    · rw [e22]; omega
    · rw [e22] at i1; omega
  have e15 : vS 0 15 = -1 := by unfold vS vS1; rw [upd2_n _ (by omega), upd2_n _ (by omega), upd2_n _ (by omega), upd2_n _ (by omega), upd2_n _ (by omega), upd2_n _ (by omega), upd2_n _ (by omega), upd2_n _ (by omega), upd2_s]
  have e28 : vS 47 28 = -1 := by unfold vS; rw [upd2_n _ (by omega), upd2_n _ (by omega), upd2_n _ (by omega), upd2_n _ (by omega), upd2_n _ (by omega), upd2_n _ (by omega), upd2_n _ (by omega), upd2_s]
  have nn : ∀ r j : Int, ¬ (r = 0 ∧ j = 15) → ¬ (r = 47 ∧ (j = 28 ∨ (33 ≤ j ∧ j ≤ 39))) → 0 ≤ vS r j := fun r j h1 h2 => by rw [z r j h1 h2]; exact Int.le_refl 0
  refine ⟨⟨sw_start h, (by rw [mp_MIn]; exact hM), ⟨⟨?_, ?_⟩, fun t t0 t1 => ⟨⟨fun q => ?_, fun q => absurd (n37 t) q⟩, fun q => absurd (n37 t) q⟩⟩, ⟨fun t t0 t1 q => absurd (n37 t) q, fun s t _ _ _ q => absurd (n37 s) q⟩, fun a a0 a1 => Or.inl ⟨n40 a, fun q => ?_⟩⟩, ⟨⟨?_, ?_, ?_, ?_, ?_⟩, ⟨?_, fun i i0 i1 => ?_⟩, ⟨?_, ?_, fun i i0 i1 => ?_⟩, ⟨nn 6 1 (by omega) (by omega), nn 8 1 (by omega) (by omega), nn 10 1 (by omega) (by omega), nn 13 1 (by omega) (by omega), nn 15 1 (by omega) (by omega), nn 45 1 (by omega) (by omega)⟩, ⟨nn 17 1 (by omega) (by omega), nn 19 1 (by omega) (by omega), nn 21 1 (by omega) (by omega), nn 23 1 (by omega) (by omega), nn 28 1 (by omega) (by omega), nn 30 1 (by omega) (by omega)⟩, fun j j0 j1 => Or.inl (z 38 j (by omega) (by omega))⟩⟩
  · rw [m, e0]; omega
  · rw [m, e0]; omega
  · have q1 := q.1
    rw [m, e0] at q1; omega
  · have q1 := q.1
    rw [m, e59] at q1; omega
  · rw [m, e0]; exact z 0 11 (by omega) (by omega)
  · rw [m, e59]; exact z 0 12 (by omega) (by omega)
  · rw [m, e64]; exact z 0 13 (by omega) (by omega)
  · rw [m, z 47 27 (by omega) (by omega)]; exact z 0 14 (by omega) (by omega)
  · rw [m, e28]; exact e15
  · rw [m, e22]; exact z 1 1 (by omega) (by omega)
  · rw [m, e22] at i1; omega
  · rw [m, e57]; exact z 43 1 (by omega) (by omega)
  · rw [z 43 1 (by omega) (by omega)]; omega
  · rw [m, e57] at i1; omega
