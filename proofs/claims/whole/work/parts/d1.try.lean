/-! ===== the class: the types as they would be ===== -/
theorem tau_ok {G : GT} {v : VV} {τ0 : Int → Int} (hI : MS G v) (hT : ∀ j, 0 ≤ j → j < 128 → okT (τ0 j)) (hN : ∀ s c, isC v s c → okN (τ0 (8 * s + c))) : ∀ q : Nat, (∀ j, 0 ≤ j → j < 128 → okT (tau G v τ0 q j)) ∧ ∀ s c, isC v s c → okN (tau G v τ0 q (8 * s + c))
  | 0 => ⟨hT, hN⟩
  | q + 1 => by
    obtain ⟨h1, h2⟩ := tau_ok hI hT hN q
    have one : ∀ j, ((isS v q ∧ 8 * (q : Int) ≤ j ∧ j < 8 * q + v 51 q) ∧ ¬ ErC G v (tau G v τ0 q) q (j - 8 * q)) → okN (TyC G v (tau G v τ0 q) q (j - 8 * q)) := fun j ⟨⟨z1, z2, z3⟩, z4⟩ => by
      have hp : PF v q (j - 8 * q) := Or.inl ⟨by omega, by omega⟩
      obtain ⟨-, -, -, -, f5⟩ := (hI.2.2 q z1).2 _ hp
      refine tyF_okN (fun r hr => ?_) (fun p hp => z4 ⟨p, hp⟩)
      obtain ⟨⟨a1, a2, a3⟩, a4, a5⟩ := f5 r hr
      exact h2 _ _ ⟨⟨a1, by have := z1.1.2.1; omega, a3⟩, a4, a5⟩
    refine ⟨fun j j0 j1 => ?_, fun s c hc => ?_⟩
    · show okT (@ite Int _ (Classical.propDecidable _) _ _)
      by_cases z : (isS v q ∧ 8 * (q : Int) ≤ j ∧ j < 8 * q + v 51 q) ∧ ¬ ErC G v (tau G v τ0 q) q (j - 8 * q)
      · rw [if_pos z]; exact Or.inr (one j z)
      · rw [if_neg z]; exact h1 j j0 j1
    · show okN (@ite Int _ (Classical.propDecidable _) _ _)
      by_cases z : (isS v q ∧ 8 * (q : Int) ≤ 8 * s + c ∧ 8 * s + c < 8 * q + v 51 q) ∧ ¬ ErC G v (tau G v τ0 q) q (8 * s + c - 8 * q)
      · rw [if_pos z]; exact one _ z
      · rw [if_neg z]; exact h2 s c hc
theorem LLs_lim {b : Int → Int} {n w : Int} {C : Nat} {τ U : Int → Int} (hF : FmSel b n C w) (hU : okU τ U) {f : Int} (f0 : 0 ≤ f) : ∀ q ∈ LLs b n C w U f, -1 ≤ q.1 ∧ q.1 ≤ 1000000 := by
  have one : ∀ q0 : Int × Int, ((0 ≤ q0.1 ∧ q0.1 < 1000) ∨ 2000 ≤ q0.1) → -1 ≤ (rs U q0).1 ∧ (rs U q0).1 ≤ 1000000 := fun q0 h => by
    have := (rs_lim (fun k => (hU k).1) h).1
    omega
  have em : ∀ a, 0 ≤ a → (rForm b n 3 a).1 = true → ∀ q ∈ emF b n 3 a, (0 ≤ q.1 ∧ q.1 < 1000) ∨ 2000 ≤ q.1 := fun a a0 hr q m => ((EmS_F a0 hr).1 q m).imp id (fun z => z.1)
  intro q hq
  unfold LLs at hq
  by_cases h1 : f < C
  · rw [if_pos h1] at hq
    obtain ⟨q0, m, rfl⟩ := List.mem_map.mp hq
    obtain ⟨z1, z2⟩ := hF.1 f.toNat (by omega)
    exact one q0 (em _ z1 z2 q0 m)
  · rw [if_neg h1] at hq
    by_cases h2 : f = 6 ∧ tK b n w = 265
    · rw [if_pos h2] at hq
      obtain ⟨q0, m, rfl⟩ := List.mem_map.mp hq
      obtain ⟨w1, w2, w3⟩ := hF.2.2 h2.2
      have w0 := hF.2.1
      have hlt := rForm_lt w1
      refine one q0 ?_
      unfold emW at m
      rcases List.mem_append.mp m with m | m
      · exact em _ (by omega) w1 q0 m
      · rcases List.mem_append.mp m with m | m
        · exact em _ (by omega) w3 q0 m
        · rw [List.mem_singleton.mp m]
          exact Or.inl (by show 0 ≤ tK b n (rForm b n 3 (w + 1)).2 ∧ tK b n (rForm b n 3 (w + 1)).2 < 1000; omega)
    · rw [if_neg h2] at hq; exact absurd hq List.not_mem_nil
