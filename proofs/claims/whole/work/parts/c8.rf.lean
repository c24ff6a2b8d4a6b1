/-! ===== the reference's rows behind its last table ===== -/
theorem I1.lo {G : GT} {cC : Int → Nat} {E : Int} {X : XX} {vc w vm : VV} (h : I1 G cC E X vc vm) (hf : ∀ r j : Int, (87 ≤ r ∨ r = 38) → w r j = vc r j) : I1 G cC E X w vm := by
  obtain ⟨h1, h2, h3, h4, h5⟩ := h
  have hO := h4.obj
  have hK := h4.col
  refine ⟨h1, h2, h3.cw (fun t t0 t1 hl => ?_), h4.c (fun r j r0 => hf r j (Or.inl r0)), h5.c (fun a j _ _ r0 _ => hf _ j (Or.inl r0))⟩
  have o1 := (hO t t0 t1).elim (fun z => absurd z hl) (fun z => z.2)
  have o2 := (hK t t0 t1).elim (fun z => absurd z hl) (fun z => z.1.2)
  exact ⟨hf _ _ (Or.inl o1.1), fun c _ _ => ⟨hf _ _ (Or.inl o2.1), hf _ _ (Or.inr rfl)⟩⟩
theorem I1.mpw {G : GT} {cC : Int → Nat} {E : Int} {X : XX} {vc w : VV} (h : I1 G cC E X vc (mp w)) : I1 G cC E X vc w :=
  ⟨h.1, h.2.1, h.2.2.1, ⟨fun t t0 t1 hl => by
    obtain ⟨a, b, c⟩ := h.2.2.2.1.1 t t0 t1 hl
    rw [ag_mp] at b c
    exact ⟨a, b, c⟩, h.2.2.2.1.2⟩, h.2.2.2.2⟩
theorem I1.wmp {G : GT} {cC : Int → Nat} {E : Int} {X : XX} {vc w : VV} (h : I1 G cC E X vc w) : I1 G cC E X vc (mp w) :=
  ⟨h.1, h.2.1, h.2.2.1, ⟨fun t t0 t1 hl => by
    obtain ⟨a, b, c⟩ := h.2.2.2.1.1 t t0 t1 hl
    rw [← ag_mp] at b c
    exact ⟨a, b, c⟩, h.2.2.2.1.2⟩, h.2.2.2.2⟩
/-- nothing new came of it -/
theorem I1.rf {G : GT} {cC : Int → Nat} {E : Int} {X : XX} {vc vm P : VV} {T : Int} (h : I1 G cC E X vc vm) (e0 : vm 47 0 = T) (fP : Fr (AcS T) vm P) (v22 : P 47 22 = 0) (v52 : P 47 52 = 0) (v50 : vm 47 50 ≤ P 47 50 ∧ P 47 50 ≤ vm 47 50 + 8000) : I1 G cC (E + 10000) X vc P := by
  obtain ⟨h1, h2, h3, h4, h5⟩ := id h
  obtain ⟨⟨⟨b1, b2, b3, b4, b5⟩, hM, hTT⟩, hMW, ⟨c1, c2, c3, c4⟩, hAK, hTX, ⟨hokN, -⟩, h7⟩ := id h2
  have gP : ∀ r j : Int, ¬ AcS T r j → P r j = vm r j := fP
  have x0 : P 47 0 = vm 47 0 := gP 47 0 (by unfold AcS; omega)
  have gO : ∀ r t : Int, ¬ t = T → (r = 49 ∨ r = 50 ∨ r = 51 ∨ r = 54 ∨ r = 60 ∨ r = 67) → P r t = vm r t := fun r t ht hr => gP r t (by unfold AcS; omega)
  have gA : ∀ r t : Int, (r = 48 ∨ (56 ≤ r ∧ r ≤ 59) ∨ (82 ≤ r ∧ r ≤ 85)) → P r t = vm r t := fun r t hr => gP r t (by unfold AcS; omega)
  have gF : ∀ r t c : Int, 0 ≤ t → t < T → 0 ≤ c → c < 8 → (r = 52 ∨ r = 53 ∨ r = 65 ∨ r = 66) → P r (8 * t + c) = vm r (8 * t + c) := fun r t c t0 t1 z0 z1 hr => gP r _ (by unfold AcS; omega)
  have gB : ∀ t k : Int, 0 ≤ t → t < T → 0 ≤ k → k < 3 → P 55 (3 * t + k) = vm 55 (3 * t + k) := fun t k t0 t1 z0 z1 => gP 55 _ (by unfold AcS; omega)
  have hSm : SmT (vm 47 0) vm P := fun s s0 s1 => by
    rw [e0] at s1
    exact ⟨⟨gO 49 s (by omega) (by omega), gO 51 s (by omega) (by omega), gO 60 s (by omega) (by omega), gO 67 s (by omega) (by omega)⟩, fun c z0 z1 => ⟨gF 52 s c s0 s1 z0 z1 (by omega), gF 65 s c s0 s1 z0 z1 (by omega), gF 66 s c s0 s1 z0 z1 (by omega)⟩, fun k z0 z1 => gB s k s0 s1 z0 z1, fun i z0 z1 => ⟨gP 61 _ (by unfold AcS; omega), gP 62 _ (by unfold AcS; omega), gP 63 _ (by unfold AcS; omega), gP 64 _ (by unfold AcS; omega)⟩⟩
  have hMP : MT P := fun t t0 t1 => by
    rw [x0] at t1
    unfold MTt
    have ht : t < T := by omega
    have hm := hM t t0 t1
    unfold MTt at hm
    rw [gA 48 t (by omega), gO 50 t (by omega) (by omega), gO 51 t (by omega) (by omega), gO 54 t (by omega) (by omega), gA 56 t (by omega), gA 57 t (by omega), gA 58 t (by omega), gA 59 t (by omega)]
    obtain ⟨m1, m2, m3, m4, m5, m6⟩ := hm
    refine ⟨m1, m2, m3, m4, fun k k0 k1 => ?_, m6⟩
    rw [gB t k t0 ht k0 (by omega), gA 48 _ (by omega)]
    exact m5 k k0 k1
  have hage : ∀ t, 0 ≤ t → t < T → ag P t = ag vm t := fun t t0 t1 => by
    refine ag_cg (T := T) b1.2 hM (by omega) hMP (by omega) (by omega) (fun s s0 s1 => ?_) 17 t t0 t1 (by omega)
    obtain ⟨-, -, -, m4, -⟩ := hM s s0 (by omega)
    exact ⟨⟨gO 50 s (by omega) (by omega), gO 54 s (by omega) (by omega), gA 58 s (by omega), gA 59 s (by omega)⟩, fun k k0 k1 => gB s k s0 s1 k0 (by omega)⟩
  have h51 : ∀ s, 0 ≤ s → s < vm 47 0 → 0 ≤ vm 51 s ∧ vm 51 s ≤ 6 := fun s s0 s1 => by
    obtain ⟨-, -, m3, -⟩ := hM s s0 (by omega)
    exact ⟨by omega, m3.2⟩
  have hTt : ∀ t, isT P t ↔ isT vm t := fun t => by
    unfold isT; rw [x0, gA 48 t (by omega)]
  refine ⟨h1, ?_, h3.m h4.obj h4.col x0 (fun t => gA 48 t (by omega)) hSm (fun t c t0 t1 z0 z1 => gF 53 t c t0 (by omega) z0 z1 (by omega)), ⟨fun t t0 t1 hl => ?_, h4.2⟩, h5.m (gP 47 59 (by unfold AcS; omega)) (fun a _ _ => ⟨gA 83 a (by omega), gA 84 a (by omega), gA 85 a (by omega)⟩)⟩
  · refine h2.sm ⟨by omega, ?_, ?_, ?_, ?_⟩ hMP x0 hSm (fun t ht => ?_) ?_ ⟨v52, ?_, by omega, by omega⟩ ?_ ?_ (fun t c hc => ?_)
    · rw [v22]; decide
    · rw [gP 47 57 (by unfold AcS; omega)]; exact b3
    · rw [gP 47 59 (by unfold AcS; omega)]; exact b4
    · rw [gP 47 64 (by unfold AcS; omega)]; exact b5
    · have htv := (hTt t).mp ht.1
      have hne : ¬ t = T := by have := htv.2.1; omega
      exact ⟨⟨htv, by rw [← gO 50 t hne (by omega)]; exact ht.2⟩, gO 54 t hne (by omega)⟩
    · exact hMW.fr fP (fun j j0 j1 => by unfold AcS; omega)
    · rw [gP 47 65 (by unfold AcS; omega)]; exact c2
    · intro a a0 a1
      rw [gP 47 59 (by unfold AcS; omega)] at a1
      rw [gA 83 a (by omega), gA 84 a (by omega), gA 85 a (by omega), x0]
      exact hAK a a0 a1
    · rw [v22]
      exact ⟨⟨by decide, by decide⟩, fun i i0 i1 => by omega⟩
    · have htv := (hTt t).mp hc.1
      have hne : ¬ t = T := by have := htv.2.1; omega
      have z1 := hc.2.2
      rw [gO 51 t hne (by omega)] at z1
      have := h51 t htv.1 htv.2.1
      exact ⟨⟨htv, hc.2.1, z1⟩, gF 53 t c htv.1 (by have := htv.2.1; omega) hc.2.1 (by omega) (by omega)⟩
  · obtain ⟨k1, k2, k3⟩ := h4.1 t t0 t1 hl
    have htv := (h3.2 t t0 t1).1.mpr hl
    have htT : t < T := by omega
    refine ⟨k1.m hSm ⟨t0, htv.1⟩ (gO 50 t (by omega) (by omega)) (gO 54 t (by omega) (by omega)) (gA 56 t (by omega)) (gA 57 t (by omega)) (hM t t0 htv.1).bh h51, ?_, ?_⟩
    · rw [hage t t0 htT]; exact k2
    · rw [hage t t0 htT]; exact k3
