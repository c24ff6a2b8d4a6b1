set_option maxRecDepth 100000 in
set_option maxHeartbeats 4000000 in
theorem k_putBytes {X : XX} {v : VV} (hW : SW X) (h0 : 0 ≤ v 1 1 ∧ v 1 1 ≤ 396) (a : Int) : CX mX10_putBytes 1 [(2, 0), (0, a)] X v (fun o w => o = none ∧ Fr (fun r j => r = 2 ∨ (r = 1 ∧ j = 1)) v w ∧ w 1 1 = v 1 1 + 4 ∧ ∀ i, w 2 i = if v 1 1 ≤ i ∧ i < v 1 1 + 4 then byt a (i - v 1 1) else v 2 i) := by
  have key : ∀ (m : Int) (V : VV), (0 ≤ m ∧ m ≤ 4) → Fr (fun r j => r = 2 ∨ (r = 1 ∧ j = 1)) v V → V 1 1 = v 1 1 + m → (∀ i, V 2 i = if v 1 1 ≤ i ∧ i < v 1 1 + m then byt a (i - v 1 1) else v 2 i) → Ex mX10_putBytes 1 3 [(2, 0), (0, a), (0, 24 - 8 * m)] [] X V 0 0 (fun o X1 w => X1 = X ∧ o = none ∧ Fr (fun r j => r = 2 ∨ (r = 1 ∧ j = 1)) v w ∧ w 1 1 = v 1 1 + 4 ∧ ∀ i, w 2 i = if v 1 1 ≤ i ∧ i < v 1 1 + 4 then byt a (i - v 1 1) else v 2 i) := by
    refine loop2 (fun (m : Int) (_ : VV) => (4 - m).toNat) (fun (m : Int) (V : VV) => (0 ≤ m ∧ m ≤ 4) → Fr (fun r j => r = 2 ∨ (r = 1 ∧ j = 1)) v V → V 1 1 = v 1 1 + m → (∀ i, V 2 i = if v 1 1 ≤ i ∧ i < v 1 1 + m then byt a (i - v 1 1) else v 2 i) → Ex mX10_putBytes 1 3 [(2, 0), (0, a), (0, 24 - 8 * m)] [] X V 0 0 (fun o X1 w => X1 = X ∧ o = none ∧ Fr (fun r j => r = 2 ∨ (r = 1 ∧ j = 1)) v w ∧ w 1 1 = v 1 1 + 4 ∧ ∀ i, w 2 i = if v 1 1 ≤ i ∧ i < v 1 1 + 4 then byt a (i - v 1 1) else v 2 i)) (fun m V ih => ?_)
    intro hm hf h1 h2
    refine bX10_putBytes_3 a (24 - 8 * m) (Nat.le_refl _) hW (fun _ _ => ⟨fun g => ?_, fun g z1 e1 _ z2 e2 i2 => ⟨_, k_add hW (rowS1 hW) (by decide) ⟨by omega, by omega⟩ z2, fun w5 hP => ?_⟩⟩)
    · obtain rfl : m = 4 := by omega
      exact ⟨rfl, rfl, hf, h1, h2⟩
    · have e5 : w5 = rAdd V 1 2 z2 := hP
      have hz := bytC ⟨hm.1, by omega⟩ e1 e2 i2
      refine ⟨⟨by omega, by omega⟩, ?_⟩
      rw [show 24 - 8 * m + -8 = 24 - 8 * (m + 1) by omega]
      refine ih (m + 1) w5 (by omega) ⟨by omega, by omega⟩ (fun r j q => ?_) ?_ (fun i => ?_)
      · by_cases z : r = 1
        · rw [e5, z, rAdd_f (by decide) (fun y => q (Or.inr ⟨z, y⟩))]
          have hq := hf r j q
          rw [z] at hq
          exact hq
        · rw [e5, rAdd_n z (fun y => q (Or.inl y))]; exact hf r j q
      · rw [e5, rAdd_1]; omega
      · rw [e5, rAdd_c (by decide), h1, h2 i]
        by_cases y : i = v 1 1 + m
        · rw [if_pos y, if_pos (by omega), hz, y, show v 1 1 + m - v 1 1 = m by omega]
        · rw [if_neg y]
          by_cases x : v 1 1 ≤ i ∧ i < v 1 1 + m
          · rw [if_pos x, if_pos (by omega)]
          · rw [if_neg x, if_neg (by omega)]
  refine CX.of (by decide +kernel) rfl rfl rfl (bX10_putBytes_0 a (Nat.le_refl _) hW (fun _ => ?_))
  have hk := key 0 v ⟨by decide, by decide⟩ Fr.rf (by omega) (fun i => by rw [if_neg (by omega)])
  rwa [show (24 : Int) - 8 * 0 = 24 by decide] at hk
