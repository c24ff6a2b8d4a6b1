/-! ===== the class: one table's types tried ===== -/
set_option maxRecDepth 100000 in
set_option maxHeartbeats 4000000 in
theorem k_hasSelect {X : XX} {v : VV} {o : Int} (hW : SW X) (hs : X.1.2 o = (7, 0) ∧ (0 ≤ o ∧ o < X.1.1)) : CX mX7_hasSelect 0 [(2, o)] X v (fun o1 v1 => v1 = v ∧ o1 = some (0, bI (v o 5 = 1 ∨ v o 5 = 2))) := by
  refine CX.of (by decide +kernel) rfl rfl rfl (bX7_hasSelect_0 o (Nat.le_refl _) hW ⟨hs.1, hs.2, fun g => ⟨rfl, rfl, ?_⟩, fun g => ⟨fun g2 => ⟨rfl, rfl, ?_⟩, fun g2 => ⟨rfl, rfl, ?_⟩⟩⟩)
  · rw [bI_t (Or.inl g)]
  · rw [bI_f (fun z => z.elim g g2)]
  · rw [bI_t (Or.inr g2)]
def S39 (r j : Int) : Prop := (35 ≤ r ∧ r ≤ 36) ∨ r = 39 ∨ (r = 45 ∧ j = 1) ∨ r = 46
set_option maxRecDepth 100000 in
set_option maxHeartbeats 4000000 in
theorem k_tryTypes {G : GT} {cC : Int → Nat} {E : Int} {X : XX} {vc v V : VV} {τ0 : Int → Int} (h : I1 G cC E X vc v) (t : Nat) (ht : t < 16) (hT : ∀ j, 0 ≤ j → j < 128 → okT (τ0 j)) (hN : ∀ s c, isC v s c → okN (τ0 (8 * s + c))) (hf : Fr S39 vc V) (h39 : ∀ j : Int, 0 ≤ j → j < 128 → V 39 j = tau G v τ0 t j) (hF : FLx (trb G v τ0) (8 * (t : Int)) (V 45 1) (V 46)) : CX mX10_tryTypes 4 [(2, 0), (0, (t : Int))] X V (fun _ w => Fr S39 vc w ∧ (∀ j : Int, 0 ≤ j → j < 128 → w 39 j = tau G v τ0 (t + 1) j) ∧ FLx (trb G v τ0) (8 * ((t : Int) + 1)) (w 45 1) (w 46)) := by
  have hI := h.2.1.1
  have hM := hI.2.1
  have hcI : ∀ {W : VV}, Fr S39 vc W → I1 G cC E X W v := fun hW => h.c (hW.mono (fun r j q => fun z => q (by unfold S39 at z; unfold Scr; omega)))
  have none_ : ¬ isS v t → (∀ w : VV, w = V → Fr S39 vc w ∧ (∀ j : Int, 0 ≤ j → j < 128 → w 39 j = tau G v τ0 (t + 1) j) ∧ FLx (trb G v τ0) (8 * ((t : Int) + 1)) (w 45 1) (w 46)) := fun hn w hw => by
    subst hw
    refine ⟨hf, fun j j0 j1 => by rw [h39 j j0 j1, tau_out hM (Or.inr (Or.inr hn))], ?_⟩
    have := FLx.to (by omega) 8 hF (fun j j0 j1 z => hn (by have e : j / 8 = (t : Int) := by omega
                                                            have := z.1
                                                            rw [e] at this
                                                            exact this))
    rw [show 8 * ((t : Int) + 1) = 8 * (t : Int) + ((8 : Nat) : Int) by omega]
    exact this
  refine CX.of (by decide +kernel) rfl rfl rfl (bX10_tryTypes_0 (t : Int) (Nat.le_refl _) h.1 (fun _ => ⟨_, k_tableAt h.1 (t : Int), fun r2 w3 hP => ?_⟩))
  obtain ⟨rfl, hr⟩ := hP
  rw [if_pos ⟨by omega, by omega⟩] at hr
  obtain rfl : r2 = X.2 37 (t : Int) := by simpa using hr
  have hL := h.live (t : Int)
  refine ⟨fun g => ⟨rfl, none_ (fun z => (hL.mp z.1).2.2 g) w3 rfl⟩, fun g => ?_⟩
  have hTv := hL.mpr ⟨by omega, by omega, g⟩
  have hh := h.hi hTv
  have hT5 : ∀ {W : VV}, Fr S39 vc W → W (X.2 37 (t : Int)) 5 = v 50 t := fun hW => by
    obtain ⟨⟨B, I, W', -, ⟨p5, -⟩, -⟩, -⟩ := (hcI hW).tab hTv
    exact p5
  refine ⟨hh.2.1, ⟨by omega, hh.2.2⟩, _, k_hasSelect h.1 ⟨hh.2.1, by omega, hh.2.2⟩, fun r7 w8 hP => ?_⟩
  obtain ⟨rfl, hr7⟩ := hP
  rw [hT5 hf] at hr7
  obtain rfl : r7 = bI (v 50 t = 1 ∨ v 50 t = 2) := by simpa using hr7
  refine ⟨fun g2 => ?_, fun g2 => ⟨rfl, none_ (fun z => bI_0.mp g2 z.2) w8 rfl⟩⟩
  have hS : isS v t := ⟨hTv, bI_n0.mp g2⟩
  have h51 : v 51 t = cC t := ((h.2.2.1.2 t (by omega) (by omega)).2 g).2.1
  obtain ⟨⟨B, I, W', ⟨⟨⟨s1, s2⟩, s3, ⟨s4, s5⟩, -, ⟨s6, s7⟩, -⟩, ⟨hC1, hC6⟩, -, hI4, -⟩, -⟩, -⟩ := h.tab hTv
  have hTL := hTv.2.1
  have eF0 : ∀ j, 0 ≤ j → j < 8 * (t : Int) → tauF G v τ0 j = tau G v τ0 t j := fun j j0 j1 => tau_le hM (by omega) j1
  have hdv : ∀ k : Int, 0 ≤ k → k < 8 → (8 * (t : Int) + k) / 8 = t ∧ (8 * (t : Int) + k) % 8 = k := fun k k0 k1 => by omega
  have htout : ∀ j : Int, ¬ (8 * (t : Int) ≤ j ∧ j < 8 * t + cC t) → tau G v τ0 (t + 1) j = tau G v τ0 t j := fun j hj => by
    show @ite Int _ (Classical.propDecidable _) _ _ = _
    rw [if_neg (fun z => hj ⟨z.1.2.1, by have := z.1.2.2; omega⟩)]
  have hcnt : ∀ {x len : Int} {get : Int → Int}, FLx (trb G v τ0) x len get → 0 ≤ len ∧ len ≤ x.toNat := fun hx => by
    rw [hx.1]; exact cnt_bd _ _
  have htauT := fun q => (tau_ok hI hT hN q).1
  have htauN := fun q => (tau_ok hI hT hN q).2
  -- what holds at column k
  have key : ∀ (k : Int) (W : VV), (0 ≤ k ∧ k ≤ cC t) → Fr S39 vc W → (∀ j : Int, 0 ≤ j → j < 128 → W 39 j = if 8 * (t : Int) ≤ j ∧ j < 8 * t + k then tau G v τ0 (t + 1) j else tau G v τ0 t j) → FLx (trb G v τ0) (8 * (t : Int) + k) (W 45 1) (W 46) → Ex mX10_tryTypes 4 20 [(2, 0), (0, (t : Int)), (2, X.2 37 (t : Int)), (0, k), (3, 0)] [] X W 0 0 (fun _ X1 w => X1 = X ∧ Fr S39 vc w ∧ (∀ j : Int, 0 ≤ j → j < 128 → w 39 j = tau G v τ0 (t + 1) j) ∧ FLx (trb G v τ0) (8 * ((t : Int) + 1)) (w 45 1) (w 46)) := by
    refine loop2 (fun (k : Int) (_ : VV) => ((cC t : Int) - k).toNat) (fun (k : Int) (W : VV) => (0 ≤ k ∧ k ≤ cC t) → Fr S39 vc W → (∀ j : Int, 0 ≤ j → j < 128 → W 39 j = if 8 * (t : Int) ≤ j ∧ j < 8 * t + k then tau G v τ0 (t + 1) j else tau G v τ0 t j) → FLx (trb G v τ0) (8 * (t : Int) + k) (W 45 1) (W 46) → Ex mX10_tryTypes 4 20 [(2, 0), (0, (t : Int)), (2, X.2 37 (t : Int)), (0, k), (3, 0)] [] X W 0 0 (fun _ X1 w => X1 = X ∧ Fr S39 vc w ∧ (∀ j : Int, 0 ≤ j → j < 128 → w 39 j = tau G v τ0 (t + 1) j) ∧ FLx (trb G v τ0) (8 * ((t : Int) + 1)) (w 45 1) (w 46))) (fun k W ih => ?_)
    intro hk hfW hW39 hFW
    have hV := hcI hfW
    have hb := hcnt hFW
    have hWT : ∀ j, 0 ≤ j → j < 128 → okT (W 39 j) := fun j j0 j1 => by
      rw [hW39 j j0 j1]
      split
      · exact htauT _ j j0 j1
      · exact htauT _ j j0 j1
    have hlo : ∀ j, 0 ≤ j → j < 8 * (t : Int) → W 39 j = tau G v τ0 t j := fun j j0 j1 => by rw [hW39 j j0 (by omega), if_neg (by omega)]
    obtain ⟨q, U, hFm, hSel, hPt, hU, hR, h66, hrc⟩ := sel_link hV hS hWT
    obtain ⟨⟨B2, I2, W2, ⟨⟨-, -, -, -, ⟨-, z7⟩, -⟩, -, -, hI42, -⟩, -, -, ⟨⟨i0, i1⟩, ⟨p0, p1⟩, -⟩, -⟩, -⟩ := hV.tab hTv
    have typ := fun (f : Int) (f0 : 0 ≤ f) (f6 : f ≤ 6) => k_typeOfPart (o := 35) (s := 36) (ty := 39) (v := W) hV.1 (typS35 hV.1) z7 (by omega) ⟨sW39 hV.1, gW39 hV.1⟩ ⟨⟨by decide, by decide⟩, ⟨by omega, by omega⟩, ⟨by omega, by omega⟩, ⟨by omega, by omega⟩, ⟨by omega, by omega⟩, ⟨by omega, by omega⟩, by omega, by omega⟩ f ⟨f0, f6⟩ (hPt f f0 f6) ⟨i1, p1⟩ (fun q' hq' g1 g2 => hWT _ (by omega) (by omega)) (LLs_lim hFm hU f0)
    refine bX10_tryTypes_20 (t : Int) (X.2 37 (t : Int)) k (Nat.le_refl _) h.1 (fun _ _ => ⟨s3, ⟨by omega, by omega⟩, _, k_columnCount h.1 ⟨s3, by omega, by omega⟩ ⟨s4, s5, by omega, by omega⟩, fun r12 w13 hP => ?_⟩)
    obtain ⟨rfl, hr12⟩ := hP
    obtain rfl : r12 = (cC t : Int) := by simpa using hr12
    rw [s6]
    refine ⟨fun g3 => ?_, fun g3 => ?_⟩
    · -- behind the last column
      obtain rfl : k = cC t := by omega
      refine ⟨_, typ 6 (by decide) (by decide), fun r16 w17 hP => ?_⟩
      obtain ⟨-, hb2, hf17⟩ := hP
      have e2 : w17 35 2 = bdOf (w13 39) (LLs (G t).1 (G t).2 (cC t) q U 6) := hb2
      have hw := typ_where hV hS hFm hSel hU hR hC6 h66 (fun k hk => by
        obtain ⟨s, c, hc, hu⟩ := hrc k hk
        have h1 := hM s hc.1.1 hc.1.2.1
        obtain ⟨-, -, m3, -⟩ := h1
        have := hc.1.1
        have := hI.1.1.2
        have := hc.1.2.1
        have := hc.2
        unfold Rt
        rw [hu, hW39 _ (by omega) (by omega)]
        split
        · exact htauN _ s c hc
        · exact htauN _ s c hc)
      have h6 : trb G v τ0 (8 * (t : Int) + 6) ↔ badW G v (w13 39) t := by
        obtain ⟨e1, e2⟩ := hdv 6 (by omega) (by omega)
        unfold trb
        rw [e1, e2, badW_cg hI hS (τ := tauF G v τ0) (τ' := w13 39) (fun j j0 j1 => by rw [eF0 j j0 j1, hlo j j0 j1])]
        exact ⟨fun z => z.2.elim (fun y => by have := y.1; omega) (fun y => y.2), fun z => ⟨hS, Or.inr ⟨rfl, z⟩⟩⟩
      have n7 : ¬ trb G v τ0 (8 * (t : Int) + 7) := fun z => by
        obtain ⟨e1, e2⟩ := hdv 7 (by omega) (by omega)
        rcases z.2 with y | y
        · rw [e1, e2] at y; have := y.1; omega
        · rw [e2] at y; have := y.1; omega
      have h06 : FLx (trb G v τ0) (8 * (t : Int) + 6) (w13 45 1) (w13 46) := by
        have := FLx.to (by omega) (6 - cC t) hFW (fun j j0 j1 z => by
          obtain ⟨e1, e2⟩ := hdv (j - 8 * t) (by omega) (by omega)
          rw [show 8 * (t : Int) + (j - 8 * t) = j by omega] at e1 e2
          rcases z.2 with y | y
          · rw [e1, e2] at y; have := y.1; omega
          · rw [e2] at y; have := y.1; omega)
        rw [show 8 * (t : Int) + (cC t : Int) + ((6 - cC t : Nat) : Int) = 8 * t + 6 by omega] at this
        exact this
      have g17 : ∀ r j : Int, ¬ (35 ≤ r ∧ r ≤ 36) → w17 r j = w13 r j := fun r j hn => hf17 r j (by unfold STy; omega)
      have f17 : Fr S39 vc w17 := hfW.via hf17 (fun _ _ q => q) (fun r j q => by unfold STy at q; unfold S39; omega)
      have e39 : ∀ w : VV, (∀ j, w 39 j = w17 39 j) → ∀ j : Int, 0 ≤ j → j < 128 → w 39 j = tau G v τ0 (t + 1) j := fun w hw j j0 j1 => by
        rw [hw j, g17 39 j (by omega), hW39 j j0 j1]
        by_cases z : 8 * (t : Int) ≤ j ∧ j < 8 * t + cC t
        · rw [if_pos z]
        · rw [if_neg z, htout j z]
      have h17 : FLx (trb G v τ0) (8 * (t : Int) + 6) (w17 45 1) (w17 46) := by
        rw [g17 45 1 (by omega), show w17 46 = w13 46 from funext fun j => g17 46 j (by omega)]; exact h06
      refine ⟨fun g4 => ⟨rfl, f17, e39 w17 (fun _ => rfl), ?_⟩, fun g4 => ⟨⟨by omega, by omega⟩, fun _ => ⟨by omega, by omega⟩, ?_⟩⟩
      · rw [e2] at g4
        have := (h17.skip (by omega) (fun z => hw.mp g4 (h6.mp z))).skip (by omega) (by rw [show 8 * (t : Int) + 6 + 1 = 8 * t + 7 by omega]; exact n7)
        rw [show 8 * (t : Int) + 6 + 1 + 1 = 8 * (t + 1) by omega] at this
        exact this
      · rw [e2] at g4
        have hbad : trb G v τ0 (8 * (t : Int) + 6) := h6.mpr (Classical.byContradiction (fun z => g4 (hw.mpr z)))
        have hb6 := hcnt h17
        refine ⟨_, k_add h.1 (rowS45 h.1) (by decide) ⟨by omega, by show w17 45 1 < (128 : Int); omega⟩ _, fun w21 hP => ?_⟩
        have e21 : w21 = rAdd w17 45 46 ((t : Int) * 8 + 6) := hP
        refine ⟨rfl, ?_, e39 w21 (fun j => by rw [e21, rAdd_n (by decide) (by decide)]), ?_⟩
        · rw [e21]
          exact f17.via (rAdd_fr (S := S39) (by unfold S39; omega) (fun j => by unfold S39; omega)) (fun _ _ q => q) (fun _ _ q => q)
        · have h21 : FLx (trb G v τ0) (8 * (t : Int) + 6 + 1) (w21 45 1) (w21 46) := by
            rw [e21, rAdd_1]
            refine h17.add (by omega) hbad ?_ (fun i hi => ?_)
            · rw [rAdd_c (by decide), if_pos rfl]; omega
            · rw [rAdd_c (by decide), if_neg (by omega)]
          have := h21.skip (by omega) (by rw [show 8 * (t : Int) + 6 + 1 = 8 * t + 7 by omega]; exact n7)
          rw [show 8 * (t : Int) + 6 + 1 + 1 = 8 * (t + 1) by omega] at this
          exact this
    · -- column k
      refine ⟨_, typ k hk.1 (by omega), fun r24 w25 hP => ?_⟩
      obtain ⟨hr24, hb2, hf25⟩ := hP
      have e2 : w25 35 2 = bdOf (w13 39) (LLs (G t).1 (G t).2 (cC t) q U k) := hb2
      obtain ⟨y1, y2⟩ := typ_col hV hS hFm hSel hU hR hk.1 g3
      obtain rfl : r24 = TyC G v (w13 39) t k := by
        have hr' : some ((0 : Nat), r24) = some ((0 : Nat), tyOf (w13 39) (LLs (G t).1 (G t).2 (cC t) q U k)) := hr24
        rw [y1] at hr'
        simpa using hr'
      have hp : PF v t k := Or.inl ⟨hk.1, by omega⟩
      obtain ⟨e1, e8⟩ := hdv k hk.1 (by omega)
      have hE : ErC G v (w13 39) t k ↔ ErC G v (tau G v τ0 t) t k := ErC_cg hI hS hp hlo
      have hE2 : ErC G v (tauF G v τ0) t k ↔ ErC G v (tau G v τ0 t) t k := ErC_cg hI hS hp eF0
      have hTy : TyC G v (w13 39) t k = TyC G v (tau G v τ0 t) t k := TyC_cg hI hS hp hlo
      have htr : trb G v τ0 (8 * (t : Int) + k) ↔ ErC G v (w13 39) t k := by
        unfold trb
        rw [e1, e8, hE2, hE]
        exact ⟨fun z => z.2.elim (fun y => y.2) (fun y => by have := y.1; omega), fun z => ⟨hS, Or.inl ⟨by omega, z⟩⟩⟩
      have g25 : ∀ r j : Int, ¬ (35 ≤ r ∧ r ≤ 36) → w25 r j = w13 r j := fun r j hn => hf25 r j (by unfold STy; omega)
      have f25 : Fr S39 vc w25 := hfW.via hf25 (fun _ _ q => q) (fun r j q => by unfold STy at q; unfold S39; omega)
      have h25 : FLx (trb G v τ0) (8 * (t : Int) + k) (w25 45 1) (w25 46) := by
        rw [g25 45 1 (by omega), show w25 46 = w13 46 from funext fun j => g25 46 j (by omega)]; exact hFW
      have hb25 := hcnt h25
      have hnx : ∀ w : VV, (∀ j : Int, 0 ≤ j → j < 128 → w 39 j = if j = 8 * (t : Int) + k then tau G v τ0 (t + 1) j else w13 39 j) → ∀ j : Int, 0 ≤ j → j < 128 → w 39 j = if 8 * (t : Int) ≤ j ∧ j < 8 * t + (k + 1) then tau G v τ0 (t + 1) j else tau G v τ0 t j := fun w hw j j0 j1 => by
        rw [hw j j0 j1]
        by_cases z : j = 8 * (t : Int) + k
        · rw [if_pos z, if_pos (by omega)]
        · rw [if_neg z, hW39 j j0 j1]
          by_cases z2 : 8 * (t : Int) ≤ j ∧ j < 8 * t + k
          · rw [if_pos z2, if_pos (by omega)]
          · rw [if_neg z2, if_neg (by omega)]
      have hcur : w13 39 (8 * (t : Int) + k) = tau G v τ0 t (8 * (t : Int) + k) := by rw [hW39 _ (by omega) (by omega), if_neg (by omega)]
      refine ⟨fun g4 => ⟨⟨by omega, by omega⟩, fun _ => ⟨by omega, by omega⟩, ?_⟩, fun g4 => ⟨⟨by omega, by omega⟩, fun _ => ⟨by omega, by omega⟩, ⟨by omega, by omega⟩, ⟨by omega, by omega⟩, ?_⟩⟩
      · rw [e2] at g4
        have hErr : ErC G v (w13 39) t k := Classical.byContradiction (fun z => g4 (y2.mpr z))
        refine ⟨_, k_add h.1 (rowS45 h.1) (by decide) ⟨by omega, by show w25 45 1 < (128 : Int); omega⟩ _, fun w29 hP => ⟨⟨by omega, by omega⟩, ?_⟩⟩
        have e29 : w29 = rAdd w25 45 46 ((t : Int) * 8 + k) := hP
        refine ih (k + 1) w29 (by omega) ⟨by omega, by omega⟩ ?_ (hnx w29 (fun j j0 j1 => ?_)) ?_
        · rw [e29]
          exact f25.via (rAdd_fr (S := S39) (by unfold S39; omega) (fun j => by unfold S39; omega)) (fun _ _ q => q) (fun _ _ q => q)
        · rw [e29, rAdd_n (by decide) (by decide), g25 39 j (by omega)]
          by_cases z : j = 8 * (t : Int) + k
          · rw [if_pos z, z, hcur]
            show _ = @ite Int _ (Classical.propDecidable _) _ _
            rw [if_neg (fun y => y.2 (by rw [show 8 * (t : Int) + k - 8 * t = k by omega]; exact hE.mp hErr))]
          · rw [if_neg z]
        · rw [show 8 * (t : Int) + (k + 1) = 8 * t + k + 1 by omega, e29, rAdd_1]
          refine h25.add (by omega) (htr.mpr hErr) ?_ (fun i hi => ?_)
          · rw [rAdd_c (by decide), if_pos rfl]; omega
          · rw [rAdd_c (by decide), if_neg (by omega)]
      · rw [e2] at g4
        have hno := y2.mp g4
        refine ih (k + 1) _ (by omega) ⟨by omega, by omega⟩ (f25.up (by unfold S39; omega)) (hnx _ (fun j j0 j1 => ?_)) ?_
        · rw [show (t : Int) * 8 + k = 8 * t + k by omega]
          by_cases z : j = 8 * (t : Int) + k
          · rw [if_pos z, z, upd2_s]
            show _ = @ite Int _ (Classical.propDecidable _) _ _
            rw [if_pos ⟨⟨hS, by omega, by omega⟩, by rw [show 8 * (t : Int) + k - 8 * t = k by omega]; exact fun y => hno (hE.mpr y)⟩, show 8 * (t : Int) + k - 8 * t = k by omega]
            exact hTy
          · rw [if_neg z, upd2_n _ (fun y => z y.2), g25 39 j (by omega)]
        · rw [show 8 * (t : Int) + (k + 1) = 8 * t + k + 1 by omega, upd2_n _ (by omega), show upd2 w25 39 ((t : Int) * 8 + k) (TyC G v (w13 39) t k) 46 = w25 46 from funext fun j => upd2_n _ (by omega)]
          exact h25.skip (by omega) (fun z => hno (htr.mp z))
  exact key 0 w8 ⟨by omega, by omega⟩ hf (fun j j0 j1 => by rw [if_neg (by omega)]; exact h39 j j0 j1) (by rw [show 8 * (t : Int) + 0 = 8 * t by omega]; exact hF)
