/-! ===== typing on either side ===== -/
theorem sel_link {G : GT} {cC : Int → Nat} {E : Int} {X : XX} {vc v : VV} {t : Int} {τ : Int → Int} (h : I1 G cC E X vc v) (ht : isS v t) (hτ : ∀ j, 0 ≤ j → j < 128 → okT (τ j)) : ∃ (q : Int) (U : Int → Int), FmSel (G t).1 (G t).2 (cC t) q ∧ SelW (G t).1 (G t).2 v (cC t) t q ∧ (∀ f : Int, 0 ≤ f → f ≤ 6 → PartR vc (X.2 37 t + 5) (X.2 37 t + 6) (X.2 37 t + 7) (X.2 37 t + 8) (X.2 37 t + 9) (X.2 37 t + 10) f (LLs (G t).1 (G t).2 (cC t) q U f)) ∧ okU τ U ∧ (∀ k, rfL (G t).1 (G t).2 (cC t) q k → tyU τ U k = Rt G v τ t k) ∧ (0 < v 66 (8 * t + 7) ↔ tK (G t).1 (G t).2 q = 265) ∧ (∀ k, rfL (G t).1 (G t).2 (cC t) q k → ∃ s c, isC v s c ∧ uAt (G t).1 (G t).2 v t k = 8 * s + c) := by
  obtain ⟨l0, l1, l2⟩ := (h.live t).mp ht.1
  obtain ⟨⟨B, I, W, ⟨hS, ⟨hC1, hC6⟩, -⟩, -, -, ⟨-, -, hPV⟩, -⟩, -⟩ := h.tab ht.1
  obtain ⟨q, ⟨s1, s2, s3⟩, sp⟩ := hPV.2 ht.2
  have h51 : v 51 t = cC t := ((h.2.2.1.2 t l0 l1).2 l2).2.1
  obtain ⟨⟨-, hM, hTT⟩, -⟩ := h.2.1
  have hF2 := (hTT t ht).2
  have h66 : tK (G t).1 (G t).2 q = 265 → 0 < v 66 (8 * t + 7) := fun hk => by
    obtain ⟨-, -, y3, -, -, y6, y7⟩ := s3.2 hk
    have l1 := rForm_lt y3
    have l2 := rForm_lt y7
    omega
  have hF : FmSel (G t).1 (G t).2 (cC t) q := by
    refine ⟨fun c hc => ?_, s2, fun hk => ?_⟩
    · obtain ⟨f1, f2, -⟩ := hF2 c (Or.inl ⟨by omega, by omega⟩)
      rw [s1 c hc] at f1 f2
      exact ⟨f1, f2⟩
    · obtain ⟨-, -, y3, y4, -, -, y7⟩ := s3.2 hk
      exact ⟨y3, y4, y7⟩
  have hrf : ∀ k, rfL (G t).1 (G t).2 (cC t) q k → ∃ f, PF v t f ∧ rfF (G t).1 (G t).2 3 (v 65 (8 * t + f)) k := fun k hk => by
    rcases hk with ⟨c, hc, hr⟩ | ⟨hk5, hr | hr⟩
    · exact ⟨c, Or.inl ⟨by omega, by omega⟩, by rw [s1 c hc]; exact hr⟩
    · exact ⟨6, Or.inr ⟨Or.inl rfl, h66 hk5⟩, by rw [(s3.2 hk5).1]; exact hr⟩
    · exact ⟨7, Or.inr ⟨Or.inr rfl, h66 hk5⟩, by rw [(s3.2 hk5).2.2.2.2.1]; exact hr⟩
  have hrg : ∀ k, rfL (G t).1 (G t).2 (cC t) q k → refU (G t).1 (G t).2 v t k = 1000 + uAt (G t).1 (G t).2 v t k ∧ 0 ≤ uAt (G t).1 (G t).2 v t k ∧ uAt (G t).1 (G t).2 v t k < 128 := fun k hk => by
    obtain ⟨f, hp, hr⟩ := hrf k hk
    obtain ⟨-, -, -, -, f5⟩ := hF2 f hp
    obtain ⟨⟨a1, a2, a3⟩, a4, a5⟩ := f5 k hr
    obtain ⟨-, -, m3, -⟩ := hM _ a1 (by have := ht.1.2.1; omega)
    refine ⟨if_neg (by omega), ?_⟩
    unfold uAt
    omega
  obtain ⟨U, hUy, hUn⟩ : ∃ U : Int → Int, (∀ k, (1000 ≤ refU (G t).1 (G t).2 v t k ∧ refU (G t).1 (G t).2 v t k < 1128) → U k = refU (G t).1 (G t).2 v t k) ∧ (∀ k, ¬ (1000 ≤ refU (G t).1 (G t).2 v t k ∧ refU (G t).1 (G t).2 v t k < 1128) → U k = 0) := ⟨fun k => if 1000 ≤ refU (G t).1 (G t).2 v t k ∧ refU (G t).1 (G t).2 v t k < 1128 then refU (G t).1 (G t).2 v t k else 0, fun k z => if_pos z, fun k z => if_neg z⟩
  refine ⟨q, U, hF, ⟨s1, s2, s3⟩, fun f f0 f6 => ?_, fun k => ?_, fun k hk => ?_, ⟨fun z => ?_, h66⟩, fun k hk => ?_⟩
  · rw [← LLs_cg hF (fun r hr => ?_) f0]
    · exact sp f f0 f6
    · obtain ⟨e, u0, u1⟩ := hrg r hr
      exact (hUy r (by omega)).symm
  · by_cases z : 1000 ≤ refU (G t).1 (G t).2 v t k ∧ refU (G t).1 (G t).2 v t k < 1128
    · have e := hUy k z
      refine ⟨Or.inr (by rw [e]; exact z), ?_⟩
      unfold tyU
      rw [e, if_pos z]
      exact hτ _ (by omega) (by omega)
    · have e := hUn k z
      refine ⟨Or.inl e, ?_⟩
      unfold tyU
      rw [e, if_neg (by omega)]
      exact Or.inl rfl
  · obtain ⟨e, u0, u1⟩ := hrg k hk
    have z : 1000 ≤ refU (G t).1 (G t).2 v t k ∧ refU (G t).1 (G t).2 v t k < 1128 := by omega
    unfold tyU Rt
    rw [hUy k z, if_pos z, e, show 1000 + uAt (G t).1 (G t).2 v t k - 1000 = uAt (G t).1 (G t).2 v t k by omega]
  · by_cases hk : tK (G t).1 (G t).2 q = 265
    · exact hk
    · have := (s3.1 hk).2.2.2; omega
  · obtain ⟨f, hp, hr⟩ := hrf k hk
    obtain ⟨-, -, -, -, f5⟩ := hF2 f hp
    obtain ⟨⟨a1, a2, a3⟩, a4, a5⟩ := f5 k hr
    exact ⟨_, _, ⟨⟨a1, by have := ht.1.2.1; omega, a3⟩, a4, a5⟩, rfl⟩
theorem typ_col {G : GT} {cC : Int → Nat} {E : Int} {X : XX} {vc v : VV} {t q f : Int} {τ U : Int → Int} (h : I1 G cC E X vc v) (ht : isS v t) (hF : FmSel (G t).1 (G t).2 (cC t) q) (hS : SelW (G t).1 (G t).2 v (cC t) t q) (hU : okU τ U) (hR : ∀ k, rfL (G t).1 (G t).2 (cC t) q k → tyU τ U k = Rt G v τ t k) (f0 : 0 ≤ f) (fl : f < cC t) : tyOf τ (LLs (G t).1 (G t).2 (cC t) q U f) = TyC G v τ t f ∧ (bdOf τ (LLs (G t).1 (G t).2 (cC t) q U f) = -1 ↔ ¬ ErC G v τ t f) := by
  have hX : TX (G t).1 (G t).2 := (h.2.1.1.2.2 t ht).1.2.2.1
  have e : LLs (G t).1 (G t).2 (cC t) q U f = (emF (G t).1 (G t).2 3 (qN (G t).1 (G t).2 3 f.toNat + 2)).map (rs U) := if_pos fl
  obtain ⟨z1, z2⟩ := hF.1 f.toNat (by omega)
  have h65 := hS.1 f.toNat (by omega)
  rw [Int.toNat_of_nonneg f0] at h65
  obtain ⟨a1, a2⟩ := ty_part hX hU z1 z2
  have hr : ∀ k, rfF (G t).1 (G t).2 3 (qN (G t).1 (G t).2 3 f.toNat + 2) k → tyU τ U k = Rt G v τ t k := fun k hk => hR k (Or.inl ⟨f.toNat, by omega, hk⟩)
  rw [e, a1]
  unfold TyC ErC
  rw [h65]
  refine ⟨tyF_cg hr, ?_⟩
  have a3 := a2.cg (fun p => erF_cg hr)
  rcases a3 with ⟨b1, b2⟩ | ⟨b1, b2, -⟩
  · exact ⟨fun _ ⟨p, hp⟩ => b2 p hp, fun _ => b1⟩
  · exact ⟨fun z => absurd z b1, fun z => absurd ⟨_, b2⟩ z⟩
theorem typ_where {G : GT} {cC : Int → Nat} {E : Int} {X : XX} {vc v : VV} {t q : Int} {τ U : Int → Int} (h : I1 G cC E X vc v) (ht : isS v t) (hF : FmSel (G t).1 (G t).2 (cC t) q) (hS : SelW (G t).1 (G t).2 v (cC t) t q) (hU : okU τ U) (hR : ∀ k, rfL (G t).1 (G t).2 (cC t) q k → tyU τ U k = Rt G v τ t k) (hC6 : cC t ≤ 6) (h66 : 0 < v 66 (8 * t + 7) ↔ tK (G t).1 (G t).2 q = 265) (hN : ∀ k, rfL (G t).1 (G t).2 (cC t) q k → okN (Rt G v τ t k)) : bdOf τ (LLs (G t).1 (G t).2 (cC t) q U 6) = -1 ↔ ¬ badW G v τ t := by
  have hX : TX (G t).1 (G t).2 := (h.2.1.1.2.2 t ht).1.2.2.1
  by_cases hk : tK (G t).1 (G t).2 q = 265
  · have e : LLs (G t).1 (G t).2 (cC t) q U 6 = (emW (G t).1 (G t).2 q).map (rs U) := by
      unfold LLs; rw [if_neg (by omega), if_pos ⟨rfl, hk⟩]
    obtain ⟨w1, w2, w3⟩ := hF.2.2 hk
    obtain ⟨y1, -, -, -, y5, -, -⟩ := hS.2.2.2 hk
    have hr6 : ∀ k, rfF (G t).1 (G t).2 3 (q + 1) k → tyU τ U k = Rt G v τ t k := fun k hk2 => hR k (Or.inr ⟨hk, Or.inl hk2⟩)
    have hr7 : ∀ k, rfF (G t).1 (G t).2 3 ((rForm (G t).1 (G t).2 3 (q + 1)).2 + 1) k → tyU τ U k = Rt G v τ t k := fun k hk2 => hR k (Or.inr ⟨hk, Or.inr hk2⟩)
    have a2 := ty_where hX hU hF.2.1 w1 w2 w3
    rw [e]
    unfold badW ErC TyC
    rw [y1, y5, ← tyF_cg hr6, ← tyF_cg hr7]
    have e6 : ∀ p, erF (G t).1 (G t).2 (Rt G v τ t) 3 (q + 1) p ↔ erF (G t).1 (G t).2 (tyU τ U) 3 (q + 1) p := fun p => (erF_cg hr6).symm
    have e7 : ∀ p, erF (G t).1 (G t).2 (Rt G v τ t) 3 ((rForm (G t).1 (G t).2 3 (q + 1)).2 + 1) p ↔ erF (G t).1 (G t).2 (tyU τ U) 3 ((rForm (G t).1 (G t).2 3 (q + 1)).2 + 1) p := fun p => (erF_cg hr7).symm
    have n6 : (∀ p, ¬ erF (G t).1 (G t).2 (tyU τ U) 3 (q + 1) p) → ¬ tyF (G t).1 (G t).2 (tyU τ U) 3 (q + 1) = 0 := fun z y => by
      have hh : okN (tyF (G t).1 (G t).2 (tyU τ U) 3 (q + 1)) := tyF_okN (fun k hk2 => by rw [hr6 k hk2]; exact hN k (Or.inr ⟨hk, Or.inl hk2⟩)) z
      rw [y] at hh
      unfold okN at hh; omega
    have n7 : (∀ p, ¬ erF (G t).1 (G t).2 (tyU τ U) 3 ((rForm (G t).1 (G t).2 3 (q + 1)).2 + 1) p) → ¬ tyF (G t).1 (G t).2 (tyU τ U) 3 ((rForm (G t).1 (G t).2 3 (q + 1)).2 + 1) = 0 := fun z y => by
      have hh : okN (tyF (G t).1 (G t).2 (tyU τ U) 3 ((rForm (G t).1 (G t).2 3 (q + 1)).2 + 1)) := tyF_okN (fun k hk2 => by rw [hr7 k hk2]; exact hN k (Or.inr ⟨hk, Or.inr hk2⟩)) z
      rw [y] at hh
      unfold okN at hh; omega
    simp only [e6, e7]
    rcases a2 with ⟨b1, b2⟩ | ⟨b1, b2, -⟩
    · refine ⟨fun _ z => ?_, fun _ => b1⟩
      obtain ⟨-, ⟨p, z⟩ | ⟨p, z⟩ | z⟩ := z
      · exact b2 p (Or.inl (Or.inl z))
      · exact b2 p (Or.inl (Or.inr z))
      · exact b2 _ (Or.inr ⟨⟨n6 (fun p hp => b2 p (Or.inl (Or.inl hp))), n7 (fun p hp => b2 p (Or.inl (Or.inr hp))), z⟩, rfl⟩)
    · refine ⟨fun z => absurd z b1, fun z => absurd ⟨h66.mpr hk, ?_⟩ z⟩
      rcases b2 with (x | x) | x
      · exact Or.inl ⟨_, x⟩
      · exact Or.inr (Or.inl ⟨_, x⟩)
      · exact Or.inr (Or.inr x.1.2.2)
  · have e : LLs (G t).1 (G t).2 (cC t) q U 6 = [] := by
      unfold LLs; rw [if_neg (by omega), if_neg (fun z => hk z.2)]
    rw [e]
    exact ⟨fun _ z => hk (h66.mp z.1), fun _ => rfl⟩
