/-! ===== retype: either side's troubles and changes ===== -/
theorem trb_live {G : GT} {v : VV} {τ0 τ1 : Int → Int} (hI : MS G v) (h : ∀ s c, isC v s c → τ0 (8 * s + c) = τ1 (8 * s + c)) (j : Int) : trb G v τ0 j ↔ trb G v τ1 j := by
  unfold trb
  by_cases hS : isS v (j / 8)
  · have hl : ∀ s c, isC v s c → s < j / 8 → tauF G v τ0 (8 * s + c) = tauF G v τ1 (8 * s + c) := fun s c hc _ => tau_live hI h _ s c hc
    refine and_congr Iff.rfl (or_congr ?_ (and_congr Iff.rfl (badW_live hI hS hl)))
    by_cases z : j % 8 < v 51 (j / 8)
    · exact and_congr Iff.rfl (ErC_live hI hS (Or.inl ⟨by omega, z⟩) hl)
    · exact ⟨fun y => absurd y.1 z, fun y => absurd y.1 z⟩
  · exact ⟨fun y => absurd y.1 hS, fun y => absurd y.1 hS⟩
theorem tau_fix {G : GT} {v : VV} {τ0 : Int → Int} {j : Int} (hM : MT v) (h : ¬ (isS v (j / 8) ∧ j % 8 < v 51 (j / 8))) : ∀ q : Nat, tau G v τ0 q j = τ0 j
  | 0 => rfl
  | q + 1 => by
    show @ite Int _ (Classical.propDecidable _) _ _ = _
    rw [if_neg]
    · exact tau_fix hM h q
    · rintro ⟨⟨z1, z2, z3⟩, -⟩
      obtain ⟨-, -, m3, -⟩ := hM q z1.1.1 z1.1.2.1
      have e : j / 8 = (q : Int) := by omega
      exact h ⟨by rw [e]; exact z1, by rw [e]; omega⟩
theorem tau_16 {G : GT} {v : VV} {τ0 : Int → Int} (hM : MT v) (hb : 0 ≤ v 47 0 ∧ v 47 0 ≤ 16) (j : Int) : tau G v τ0 16 j = tauF G v τ0 j := by
  have key : ∀ d : Nat, tau G v τ0 ((v 47 0).toNat + d) j = tauF G v τ0 j := by
    intro d
    induction d with
    | zero => rfl
    | succ d ih =>
      have e : tau G v τ0 ((v 47 0).toNat + (d + 1)) j = tau G v τ0 ((v 47 0).toNat + d + 1) j := rfl
      rw [e, tau_out hM (Or.inr (Or.inr (fun z => by have := z.1.2.1; omega)))]
      exact ih
  have := key (16 - (v 47 0).toNat)
  rw [show (v 47 0).toNat + (16 - (v 47 0).toNat) = 16 by omega] at this
  exact this
theorem cnt_oth {G : GT} {v vc : VV} {a1 a2 a3 : Int} (hI : MS G v) (hC : isC v a1 a2) (h0 : v 50 a1 = 0) (h38 : ∀ s c, isC v s c → vc 38 (8 * s + c) = v 53 (8 * s + c)) : cnt (fun j => ¬ j = 8 * a1 + a2 ∧ ¬ tau G v (tyc vc a1 a2 a3) 16 j = vc 38 j) 128 = cnt (oth G v (ty1 v a1 a2 a3)) 136 := by
  have hM := hI.2.1
  have hb := hI.1.1
  have hl : ∀ s c, isC v s c → tyc vc a1 a2 a3 (8 * s + c) = ty1 v a1 a2 a3 (8 * s + c) := fun s c hc => by
    unfold tyc ty1
    rw [h38 s c hc]
  have e1 : cnt (oth G v (ty1 v a1 a2 a3)) 136 = cnt (oth G v (ty1 v a1 a2 a3)) 128 := by
    have := cnt_to (p := oth G v (ty1 v a1 a2 a3)) (x := 128) (by decide) 8 (fun j j0 j1 z => by have h1 := z.1.1.2.1; omega)
    exact this
  rw [e1]
  refine cnt_congr 128 (fun j j0 j1 => ?_)
  have ha2 : 0 ≤ a2 ∧ a2 < 6 := by
    obtain ⟨-, -, m3, -⟩ := hM a1 hC.1.1 hC.1.2.1
    exact ⟨hC.2.1, by have := hC.2.2; omega⟩
  have hsl : ∀ x : Int, x = 8 * a1 + a2 → x / 8 = a1 := fun x hx => by omega
  by_cases z : isS v (j / 8) ∧ j % 8 < v 51 (j / 8)
  · have hc : isC v (j / 8) (j % 8) := ⟨z.1.1, by omega, z.2⟩
    have ej : 8 * (j / 8) + j % 8 = j := by omega
    have t1 := tau_live hI hl 16 (j / 8) (j % 8) hc
    have t2 := h38 (j / 8) (j % 8) hc
    rw [ej] at t1 t2
    have hne : ¬ j = 8 * a1 + a2 := fun y => by
      have hz := z.1.2
      rw [hsl j y, h0] at hz
      omega
    rw [t1, tau_16 hM hb, t2]
    exact ⟨fun y => ⟨z.1, z.2, y.2⟩, fun y => ⟨hne, y.2.2⟩⟩
  · refine ⟨fun y => ?_, fun y => absurd ⟨y.1, y.2.1⟩ z⟩
    refine absurd ?_ y.2
    rw [tau_fix hM z]
    exact if_neg y.1
