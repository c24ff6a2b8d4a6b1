/-! ===== the same tokens give the same wording ===== -/
theorem gB_tok {b b' : Int → Int} {n n' i i' : Int} (hX : TX b n) (hX' : TX b' n') (hl : tL b n i = tL b' n' i') (hb : ∀ k : Int, 0 ≤ k → k < tL b n i → b (tS b n i + k) = b' (tS b' n' i' + k)) : gB b n (tS b n i) = gB b' n' (tS b' n' i') := by
  obtain ⟨t1, t2, t3⟩ := tL_pos hX i
  obtain ⟨u1, u2, u3⟩ := tL_pos hX' i'
  have s1 := (tS_bd b hX.1.1 i).1
  have s2 := (tS_bd b' hX'.1.1 i').1
  by_cases z : tS b n i < n
  · have hp := t3 z
    have z' : tS b' n' i' < n' := by omega
    have := hb 0 (Int.le_refl 0) hp
    rw [gB_in ⟨s1, z⟩, gB_in ⟨s2, z'⟩]
    rwa [show tS b n i + 0 = tS b n i by omega, show tS b' n' i' + 0 = tS b' n' i' by omega] at this
  · have z' : ¬ tS b' n' i' < n' := fun y => by have := u3 y; omega
    rw [gB_out (fun y => z y.2), gB_out (fun y => z' y.2)]
theorem wd_eq {b b' : Int → Int} {n n' a : Int} (hX : TX b n) (hX' : TX b' n') {M : Nat} (h : ∀ i : Nat, i < M → tL b n (a + i) = tL b' n' (a + i) ∧ ∀ k : Int, 0 ≤ k → k < tL b n (a + i) → b (tS b n (a + i) + k) = b' (tS b' n' (a + i) + k)) : ∀ m : Nat, m ≤ M → wdN b n a m = wdN b' n' a m
  | 0, _ => rfl
  | m + 1, hm => by
    obtain ⟨h1, h2⟩ := h m (by omega)
    have ih := wd_eq hX hX' h m (by omega)
    show wdS b n (a + m) m (wdN b n a m) ++ tkBk b n (a + m) (tL b n (a + m)).toNat = wdS b' n' (a + m) m (wdN b' n' a m) ++ tkBk b' n' (a + m) (tL b' n' (a + m)).toNat
    have e1 : wdS b n (a + m) m (wdN b n a m) = wdS b' n' (a + m) m (wdN b' n' a m) := by
      unfold wdS
      rw [ih, gB_tok hX hX' h1 h2]
    have e2 : tkBk b n (a + m) (tL b n (a + m)).toNat = tkBk b' n' (a + m) (tL b' n' (a + m)).toNat := by
      unfold tkBk
      rw [← h1]
      refine List.map_congr_left (fun j hj => ?_)
      have := List.mem_range.mp hj
      exact h2 j (by omega) (by omega)
    rw [e1, e2]
