/-! ===== the class: retype ===== -/
def tyc (vc : VV) (a1 a2 a3 j : Int) : Int := if j = 8 * a1 + a2 then a3 else vc 38 j
def ReC (G : GT) (vc v : VV) (a1 a2 a3 : Int) (o : Option AV) (w : VV) : Prop := Fr (fun r j => S39 r j ∨ r = 38 ∨ (r = 43 ∧ j = 1) ∨ r = 44) vc w ∧ 0 ≤ w 45 1 ∧ ((0 < cnt (trb G v (tyc vc a1 a2 a3)) 128 ∧ o = some (0, -2) ∧ FLs (trb G v (tyc vc a1 a2 a3)) 128 (w 43 1) (w 44) ∧ w 43 1 ≤ 128 ∧ ∀ j, w 38 j = vc 38 j) ∨ (cnt (trb G v (tyc vc a1 a2 a3)) 128 = 0 ∧ o = some (0, cnt (fun j => ¬ j = 8 * a1 + a2 ∧ ¬ tau G v (tyc vc a1 a2 a3) 16 j = vc 38 j) 128) ∧ (∀ j, 0 ≤ j → j < 128 → w 38 j = tau G v (tyc vc a1 a2 a3) 16 j) ∧ ∀ r j, (r = 43 ∨ r = 44) → w r j = vc r j))
set_option maxRecDepth 100000 in
set_option maxHeartbeats 4000000 in
theorem k_retype {G : GT} {cC : Int → Nat} {E : Int} {X : XX} {vc v : VV} (h : I1 G cC E X vc v) (hτ : ∀ j, 0 ≤ j → j < 128 → okT (vc 38 j)) (h43 : 0 ≤ vc 43 1) (h45 : 0 ≤ vc 45 1) (a1 a2 a3 : Int) : CX mX10_retype 5 [(2, 0), (0, a1), (0, a2), (0, a3)] X vc (fun o w => (¬ reArg v a1 a2 a3 ∧ w = vc ∧ o = some (0, -1)) ∨ (reArg v a1 a2 a3 ∧ ReC G vc v a1 a2 a3 o w)) := by
  have hI := h.2.1.1
  have hM := hI.2.1
  have hTy := h.2.1.2.2.2.2.2.1.2
  have hb0 := hI.1.1
  have hokN := h.2.1.2.2.2.2.2.1.1
  have hL := h.live a1
  have hCl := h.cols a1 a2
  refine CX.of (by decide +kernel) rfl rfl rfl (bX10_retype_0 a1 a2 a3 (Nat.le_refl _) h.1 (fun _ _ _ => ⟨_, k_tableAt h.1 a1, fun r2 w3 hP => ?_⟩))
  obtain ⟨rfl, hr⟩ := hP
  by_cases hl : 0 ≤ a1 ∧ a1 < 16 ∧ ¬ X.2 37 a1 = -1
  case neg =>
    have hr2 : r2 = -1 := by
      by_cases z : 0 ≤ a1 ∧ a1 < 16
      · rw [if_pos z] at hr
        have e : X.2 37 a1 = -1 := Classical.byContradiction (fun y => hl ⟨z.1, z.2, y⟩)
        rw [e] at hr; simpa using hr
      · rw [if_neg z] at hr; simpa using hr
    exact ⟨fun _ => ⟨rfl, Or.inl ⟨fun z => hl (hL.mp z.1.1), rfl, rfl⟩⟩, fun g => absurd hr2 g⟩
  obtain rfl : r2 = X.2 37 a1 := by rw [if_pos ⟨hl.1, hl.2.1⟩] at hr; simpa using hr
  have hTv := hL.mpr hl
  have hh := h.hi hTv
  obtain ⟨⟨B, I, W', ⟨-, ⟨hC1, hC6⟩, -⟩, ⟨p5, -⟩, -⟩, -⟩ := h.tab hTv
  rw [p5]
  refine ⟨fun g => absurd g hl.2.2, fun _ => ⟨hh.2.1, ⟨by omega, hh.2.2⟩, fun g => ⟨rfl, Or.inl ⟨fun z => g z.2.1, rfl, rfl⟩⟩, fun g50 => ⟨_, k_hasColumn h.1 h.2.2.2.1.obj h.2.2.2.1.col a1 a2, fun r7 w8 hP => ?_⟩⟩⟩
  obtain ⟨rfl, hr7⟩ := hP
  obtain rfl : r7 = bI (hasC X cC a1 a2) := by simpa using hr7
  refine ⟨fun g => ⟨rfl, Or.inl ⟨fun z => bI_0.mp g (hCl.mp z.1), rfl, rfl⟩⟩, fun g => ⟨_, k_isType h.1 a3, fun r11 w12 hP => ?_⟩⟩
  have hC := hCl.mpr (bI_n0.mp g)
  obtain ⟨rfl, hr11⟩ := hP
  obtain rfl : r11 = bI (a3 = 110 ∨ a3 = 116 ∨ a3 = 100) := by simpa using hr11
  refine ⟨fun g3 => ?_, fun g3 => ⟨rfl, Or.inl ⟨fun z => bI_0.mp g3 z.2.2, rfl, rfl⟩⟩⟩
  have h3 := bI_n0.mp g3
  have hRe : reArg v a1 a2 a3 := ⟨hC, g50, h3⟩
  have h51 : v 51 a1 = cC a1 := ((h.2.2.1.2 a1 hl.1 hl.2.1).2 hl.2.2).2.1
  have hc6 : 0 ≤ a2 ∧ a2 < 6 := ⟨hC.2.1, by have := hC.2.2; omega⟩
  have es : a1 * 8 + a2 = 8 * a1 + a2 := by omega
  rw [es]
  have e38 : ∀ s c, isC v s c → w12 38 (8 * s + c) = v 53 (8 * s + c) := fun s c hc => by
    have hls := (h.live s).mp hc.1
    obtain ⟨-, k2, k3⟩ := (h.2.2.1.2 s hls.1 hls.2.1).2 hls.2.2
    exact (k3 c hc.2.1 (by rw [← k2]; exact hc.2.2)).2
  have hcb : ∀ s c, isC v s c → 0 ≤ s ∧ s < 16 ∧ 0 ≤ c ∧ c < 6 := fun s c hc => by
    obtain ⟨-, -, m3, -⟩ := hM s hc.1.1 hc.1.2.1
    have h1 := hc.1.1
    have h2 := hc.1.2.1
    have h4 := hc.2.1
    have h5 := hc.2.2
    omega
  have hτc : ∀ j, 0 ≤ j → j < 128 → okT (tyc w12 a1 a2 a3 j) := fun j j0 j1 => by
    unfold tyc
    split
    · unfold okT; omega
    · exact hτ j j0 j1
  have hNc : ∀ s c, isC v s c → okN (tyc w12 a1 a2 a3 (8 * s + c)) := fun s c hc => by
    unfold tyc
    split
    · unfold okN; omega
    · rw [e38 s c hc]; exact hokN s c hc
  have hold : ∀ s c, isC v s c → s < a1 → tyc w12 a1 a2 a3 (8 * s + c) = v 53 (8 * s + c) := fun s c hc hs => by
    have := hcb s c hc
    unfold tyc
    rw [if_neg (by omega)]; exact e38 s c hc
  have ht1 : ∀ j, tau G v (tyc w12 a1 a2 a3) (a1.toNat + 1) j = tyc w12 a1 a2 a3 j := fun j => by
    rw [tau_out hM (Or.inr (Or.inr (fun z => by have := z.2; rw [Int.toNat_of_nonneg hl.1, g50] at this; omega)))]
    exact tau_old (T := a1) hI hTy hold a1.toNat (by omega) j
  have hntr : ∀ j, 0 ≤ j → j < 8 * (a1 + 1) → ¬ trb G v (tyc w12 a1 a2 a3) j := fun j j0 j1 => by
    refine trb_old (T := a1) hI hTy hold (fun s c hc hs => ?_) (by omega)
    have := hcb s c hc
    have e := tau_le (G := G) (τ0 := tyc w12 a1 a2 a3) hM (j := 8 * s + c) (q := a1.toNat) (q' := (v 47 0).toNat) (by have := hTv.2.1; omega) (by omega)
    show tau G v (tyc w12 a1 a2 a3) (v 47 0).toNat (8 * s + c) = _
    rw [e, tau_old (T := a1) hI hTy hold a1.toNat (by omega)]
    exact hold s c hc hs
  refine ⟨⟨by omega, by omega⟩, fun _ => ⟨by omega, by omega⟩, ⟨by decide, by decide, by decide, by decide, by decide⟩, ⟨by omega, by omega⟩, _, k_cut h.1 (rowS45 h.1) 0, fun w16 hP => ?_⟩
  have e16 : w16 = rCut (upd2 (cpy2 w12 38 0 39 0 128) 39 (8 * a1 + a2) a3) 45 0 := hP
  have gc : ∀ r j : Int, ¬ r = 39 → upd2 (cpy2 w12 38 0 39 0 128) 39 (8 * a1 + a2) a3 r j = w12 r j := fun r j hr => by
    rw [upd2_n _ (fun z => hr z.1)]
    unfold cpy2
    rw [if_neg (fun z => hr z.1)]
  have g16 : ∀ r j : Int, ¬ r = 39 → ¬ (r = 45 ∧ j = 1) → w16 r j = w12 r j := fun r j y1 y2 => by rw [e16, rCut_n y2]; exact gc r j y1
  have z16 : w16 45 1 = 0 := by rw [e16]; exact rCut_0 (by rw [gc 45 1 (by decide)]; exact h45)
  have h39 : ∀ j : Int, 0 ≤ j → j < 128 → w16 39 j = tyc w12 a1 a2 a3 j := fun j j0 j1 => by
    rw [e16, rCut_n (by omega)]
    unfold tyc
    by_cases y : j = 8 * a1 + a2
    · rw [if_pos y, y, upd2_s]
    · rw [if_neg y, upd2_n _ (fun z => y z.2)]
      unfold cpy2
      rw [if_pos ⟨rfl, j0, by omega⟩]
      congr 1; omega
  have f16 : Fr S39 w12 w16 := fun r j q => g16 r j (fun z => q (by unfold S39; omega)) (fun z => q (by unfold S39; omega))
  refine ⟨⟨by omega, by omega⟩, ?_⟩
  have key : ∀ (m : Nat) (W : VV), (a1 + 1 ≤ m ∧ m ≤ 16) → Fr S39 w12 W → (∀ j : Int, 0 ≤ j → j < 128 → W 39 j = tau G v (tyc w12 a1 a2 a3) m j) → FLx (trb G v (tyc w12 a1 a2 a3)) (8 * (m : Int)) (W 45 1) (W 46) → Ex mX10_retype 5 83 [(2, 0), (0, a1), (0, a2), (0, a3), (2, X.2 37 a1), (0, 8 * a1 + a2), (0, (m : Int))] [] X W 0 0 (fun o X1 w => X1 = X ∧ ((¬ reArg v a1 a2 a3 ∧ w = w12 ∧ o = some (0, -1)) ∨ (reArg v a1 a2 a3 ∧ ReC G w12 v a1 a2 a3 o w))) := by
    refine loop2 (fun (m : Nat) (_ : VV) => 16 - m) (fun (m : Nat) (W : VV) => (a1 + 1 ≤ m ∧ m ≤ 16) → Fr S39 w12 W → (∀ j : Int, 0 ≤ j → j < 128 → W 39 j = tau G v (tyc w12 a1 a2 a3) m j) → FLx (trb G v (tyc w12 a1 a2 a3)) (8 * (m : Int)) (W 45 1) (W 46) → Ex mX10_retype 5 83 [(2, 0), (0, a1), (0, a2), (0, a3), (2, X.2 37 a1), (0, 8 * a1 + a2), (0, (m : Int))] [] X W 0 0 (fun o X1 w => X1 = X ∧ ((¬ reArg v a1 a2 a3 ∧ w = w12 ∧ o = some (0, -1)) ∨ (reArg v a1 a2 a3 ∧ ReC G w12 v a1 a2 a3 o w)))) (fun m W ih => ?_)
    intro hm hf hW hF
    refine bX10_retype_83 a1 a2 a3 (X.2 37 a1) (8 * a1 + a2) (m : Int) (Nat.le_refl _) h.1 (fun _ _ _ _ _ => ⟨fun g16' => ⟨_, k_size h.1 (rowS45 h.1), fun r19 w20 hP => ?_⟩, fun g16' => ⟨_, k_tryTypes h m (by omega) hτc hNc hf hW hF, fun w36 hP => ?_⟩⟩)
    · obtain ⟨rfl, hr19⟩ := hP
      obtain rfl : r19 = w20 45 1 := by simpa using hr19
      obtain rfl : m = 16 := by omega
      have hcn : w20 45 1 = cnt (trb G v (tyc w12 a1 a2 a3)) 128 := hF.1
      have hcb := cnt_bd (trb G v (tyc w12 a1 a2 a3)) 128
      refine ⟨fun g => ⟨_, k_countBeside h.1 _, fun r23 w24 hP => ?_⟩, fun g => ⟨_, k_cut h.1 (rowS43 h.1) 0, fun w28 hP => ?_⟩⟩
      · obtain ⟨rfl, hr23⟩ := hP
        obtain rfl : r23 = cnt (fun j => ¬ j = 8 * a1 + a2 ∧ ¬ w24 39 j = w24 38 j) 128 := by simpa using hr23
        have ec : cnt (fun j => ¬ j = 8 * a1 + a2 ∧ ¬ w24 39 j = w24 38 j) 128 = cnt (fun j => ¬ j = 8 * a1 + a2 ∧ ¬ tau G v (tyc w12 a1 a2 a3) 16 j = w12 38 j) 128 := cnt_congr 128 (fun i i0 i1 => by rw [hW i i0 i1, hf 38 i (by unfold S39; omega)])
        refine ⟨⟨by decide, by decide, by decide, by decide, by decide⟩, rfl, Or.inr ⟨hRe, fun r j q => ?_, ?_, Or.inr ⟨by omega, by rw [ec], fun j j0 j1 => ?_, fun r j hr => ?_⟩⟩⟩
        · have q' : ¬ (S39 r j ∨ r = 38 ∨ (r = 43 ∧ j = 1) ∨ r = 44) := q
          unfold cpy2
          rw [if_neg (fun z => q' (Or.inr (Or.inl z.1)))]
          exact hf r j (fun z => q' (Or.inl z))
        · unfold cpy2
          rw [if_neg (by omega)]; omega
        · unfold cpy2
          rw [if_pos ⟨rfl, j0, by omega⟩, show 0 + (j - 0) = j by omega]
          exact hW j j0 j1
        · unfold cpy2
          rw [if_neg (by omega)]
          exact hf r j (by unfold S39; omega)
      · have e28 : w28 = rCut w20 43 0 := hP
        have g28 : ∀ r j : Int, ¬ (r = 43 ∧ j = 1) → w28 r j = w20 r j := fun r j q => by rw [e28, rCut_n q]
        have z28 : w28 43 1 = 0 := by rw [e28]; exact rCut_0 (by rw [hf 43 1 (by unfold S39; omega)]; exact h43)
        have s28 : w28 45 1 = w20 45 1 := g28 45 1 (by omega)
        refine ⟨_, k_addAll h.1 (rowS43 h.1) (rowS45 h.1) (by decide) (by omega) ⟨by omega, by show w28 45 1 ≤ (128 : Int); omega⟩ (by show w28 43 1 + w28 45 1 ≤ (128 : Int); omega), fun w32 hP => ?_⟩
        obtain ⟨k1, k2, k3⟩ : rAll w28 43 44 45 46 w32 := hP
        have g32 : ∀ r j : Int, ¬ (r = 43 ∧ j = 1) → ¬ r = 44 → w32 r j = w20 r j := fun r j y1 y2 => by rw [k3 r j (by omega)]; exact g28 r j y1
        refine ⟨rfl, Or.inr ⟨hRe, fun r j q => ?_, by rw [g32 45 1 (by omega) (by omega)]; omega, Or.inl ⟨by omega, rfl, ⟨by rw [k1, z28, s28, hcn]; omega, fun x hx hp => ?_⟩, by rw [k1]; omega, fun j => ?_⟩⟩⟩
        · have q' : ¬ (S39 r j ∨ r = 38 ∨ (r = 43 ∧ j = 1) ∨ r = 44) := q
          rw [g32 r j (fun z => q' (Or.inr (Or.inr (Or.inl z)))) (fun z => q' (Or.inr (Or.inr (Or.inr z))))]
          exact hf r j (fun z => q' (Or.inl z))
        · have hx2 := hF.2 x (by omega) hp
          have hc1 : cnt (trb G v (tyc w12 a1 a2 a3)) (x + 1) ≤ cnt (trb G v (tyc w12 a1 a2 a3)) 128 := cnt_mono _ (by omega)
          have hc2 : cnt (trb G v (tyc w12 a1 a2 a3)) (x + 1) = cnt (trb G v (tyc w12 a1 a2 a3)) x + 1 := by
            show cnt _ x + bI (trb G v (tyc w12 a1 a2 a3) (x : Int)) = _
            rw [bI_t hp]
          have hc3 := cnt_bd (trb G v (tyc w12 a1 a2 a3)) x
          have hk := k2 (cnt (trb G v (tyc w12 a1 a2 a3)) x) hc3.1 (by omega)
          rw [z28, Int.zero_add] at hk
          rw [hk, g28 46 _ (by omega)]
          exact hx2
        · rw [g32 38 j (by omega) (by omega)]; exact hf 38 j (by unfold S39; omega)
    · obtain ⟨y1, y2, y3⟩ := hP
      refine ⟨⟨by omega, by omega⟩, ?_⟩
      have := ih (m + 1) w36 (by omega) ⟨by omega, by omega⟩ y1 y2 (by rw [show ((m + 1 : Nat) : Int) = (m : Int) + 1 by omega]; exact y3)
      rw [show ((m + 1 : Nat) : Int) = (m : Int) + 1 by omega] at this
      exact this
  have hk := key (a1.toNat + 1) w16 ⟨by omega, by omega⟩ f16 (fun j j0 j1 => by rw [h39 j j0 j1, ht1 j]) (by
    rw [z16]
    have := FLx.to (p := trb G v (tyc w12 a1 a2 a3)) (Int.le_refl 0) (8 * (a1.toNat + 1)) (FLx.zero _ (w16 46)) (fun j j0 j1 => hntr j j0 (by omega))
    rw [show (0 : Int) + ((8 * (a1.toNat + 1) : Nat) : Int) = 8 * ((a1.toNat + 1 : Nat) : Int) by omega] at this
    exact this)
  rw [show ((a1.toNat + 1 : Nat) : Int) = a1 + 1 by omega] at hk
  exact hk
