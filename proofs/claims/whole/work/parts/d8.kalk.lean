/-! ===== the class: alike ===== -/
set_option maxRecDepth 100000 in
set_option maxHeartbeats 4000000 in
theorem k_alike {G : GT} {cC : Int → Nat} {E : Int} {X : XX} {vc v : VV} (h : I1 G cC E X vc v) (a1 a2 : Int) : CX mX10_alike 2 [(2, 0), (0, a1), (0, a2)] X vc (fun o w => w = vc ∧ (((isS v a1 ∧ isS v a2 ∧ ¬ a1 = a2) ∧ o = some (0, bI (rSame vc (X.2 37 a1 + 11) (X.2 37 a1 + 12) (X.2 37 a2 + 11) (X.2 37 a2 + 12)))) ∨ (¬ (isS v a1 ∧ isS v a2 ∧ ¬ a1 = a2) ∧ o = some (0, -1)))) := by
  have hat : ∀ a : Int, (if 0 ≤ a ∧ a < 16 then X.2 37 a else -1) = -1 → ¬ isT v a := fun a e z => by
    obtain ⟨l0, l1, l2⟩ := (h.live a).mp z
    rw [if_pos ⟨l0, l1⟩] at e
    exact l2 e
  have hin : ∀ a : Int, ¬ (if 0 ≤ a ∧ a < 16 then X.2 37 a else -1) = -1 → isT v a ∧ (if 0 ≤ a ∧ a < 16 then X.2 37 a else -1) = X.2 37 a := fun a e => by
    by_cases z : 0 ≤ a ∧ a < 16
    · rw [if_pos z] at e ⊢
      exact ⟨(h.live a).mpr ⟨z.1, z.2, e⟩, rfl⟩
    · rw [if_neg z] at e; exact absurd rfl e
  refine CX.of (by decide +kernel) rfl rfl rfl (bX10_alike_0 a1 a2 (Nat.le_refl _) h.1 (fun _ _ => ⟨_, k_tableAt h.1 a1, fun r2 w3 hP => ?_⟩))
  obtain ⟨rfl, hr2⟩ := hP
  obtain rfl : r2 = (if 0 ≤ a1 ∧ a1 < 16 then X.2 37 a1 else -1) := by simpa using hr2
  refine ⟨_, k_tableAt h.1 a2, fun r6 w7 hP => ?_⟩
  obtain ⟨rfl, hr6⟩ := hP
  obtain rfl : r6 = (if 0 ≤ a2 ∧ a2 < 16 then X.2 37 a2 else -1) := by simpa using hr6
  refine ⟨fun g => ⟨rfl, rfl, Or.inr ⟨fun z => z.2.2 g, rfl⟩⟩, fun g => ⟨fun g2 => ⟨rfl, rfl, Or.inr ⟨fun z => hat a1 g2 z.1.1, rfl⟩⟩, fun g2 => ⟨fun g3 => ⟨rfl, rfl, Or.inr ⟨fun z => hat a2 g3 z.2.1.1, rfl⟩⟩, fun g3 => ?_⟩⟩⟩
  obtain ⟨t1, e1⟩ := hin a1 g2
  obtain ⟨t2, e2⟩ := hin a2 g3
  rw [e1, e2]
  have h1 := h.hi t1
  have h2 := h.hi t2
  obtain ⟨⟨B, I, W, ⟨⟨⟨s1, s2⟩, -, -, -, -, ⟨s3, s4⟩⟩, -, -, -, hW4⟩, ⟨p5, -⟩, -, -, p11, -⟩, -⟩ := h.tab t1
  obtain ⟨⟨B', I', W', ⟨⟨⟨s1', s2'⟩, -, -, -, -, ⟨s3', s4'⟩⟩, -, -, -, hW4'⟩, ⟨p5', -⟩, -, -, p11', -⟩, -⟩ := h.tab t2
  refine ⟨h1.2.1, ⟨by omega, h1.2.2⟩, _, k_hasSelect h.1 ⟨h1.2.1, by omega, h1.2.2⟩, fun r11 w12 hP => ?_⟩
  obtain ⟨rfl, hr11⟩ := hP
  rw [p5] at hr11
  obtain rfl : r11 = bI (v 50 a1 = 1 ∨ v 50 a1 = 2) := by simpa using hr11
  refine ⟨fun g4 => ⟨rfl, rfl, Or.inr ⟨fun z => bI_0.mp g4 z.1.2, rfl⟩⟩, fun g4 => ⟨h2.2.1, ⟨by omega, h2.2.2⟩, _, k_hasSelect h.1 ⟨h2.2.1, by omega, h2.2.2⟩, fun r16 w17 hP => ?_⟩⟩
  obtain ⟨rfl, hr16⟩ := hP
  rw [p5'] at hr16
  obtain rfl : r16 = bI (v 50 a2 = 1 ∨ v 50 a2 = 2) := by simpa using hr16
  refine ⟨fun g5 => ?_, fun g5 => ⟨rfl, rfl, Or.inr ⟨fun z => bI_0.mp g5 z.2.1.2, rfl⟩⟩⟩
  have hOK : isS v a1 ∧ isS v a2 ∧ ¬ a1 = a2 := ⟨⟨t1, bI_n0.mp g4⟩, ⟨t2, bI_n0.mp g5⟩, g⟩
  rw [s3, s3']
  refine ⟨s4.1, s4.2.1, _, k_same h.1 s4 s4' (by omega) ⟨by omega, by omega⟩ (by omega), fun r21 w22 hP => ?_⟩
  obtain ⟨rfl, hr21⟩ := hP
  obtain rfl : r21 = bI (rSame w22 (X.2 37 a1 + 11) (X.2 37 a1 + 12) (X.2 37 a2 + 11) (X.2 37 a2 + 12)) := by simpa using hr21
  refine ⟨fun g6 => ⟨rfl, rfl, Or.inl ⟨hOK, ?_⟩⟩, fun g6 => ⟨rfl, rfl, Or.inl ⟨hOK, ?_⟩⟩⟩
  · rw [g6]
  · rw [bI_t (bI_n0.mp g6)]
