/-! ===== the class: a statement read whole ===== -/
theorem rStmt_hd (b : Int → Int) (n : Int) : rStmt b n = rThen (rHd b n) (fun a => rThen (rBody b n a) (rFin b n)) := by
  unfold rStmt rHd
  by_cases h : tK b n 0 = 261 ∨ tK b n 0 = 262 ∨ tK b n 0 = 263
  · rw [if_pos h, if_pos h]
  · rw [if_neg h, if_neg h]; exact (rThen_f rfl).symm
def StR (b : Int → Int) (n N : Int) (v : VV) (o : Option AV) (v1 : VV) : Prop := PP b n N SPz v (rStmt b n) o v1 ∧ ((rStmt b n).1 = true → RdC b n v1)
theorem StR.bad {b : Int → Int} {n N : Int} {v v1 : VV} {r : Bool × Int} {o : Option AV} (h : PP b n N SPz v r o v1) (e : rStmt b n = r) (hr : r.1 = false) : StR b n N v o v1 := ⟨by rw [e]; exact h, fun q => by rw [e, hr] at q; exact Bool.noConfusion q⟩
theorem RdC.dz {b : Int → Int} {n : Int} {v : VV} (h : RdC b n v) : DSz v := by
  obtain ⟨-, h4, h5⟩ := h
  rcases h5 with ⟨k0, k1, C, k2, k3, k4, k5, k6⟩ | ⟨k0, k1, C, B, k2, k3, k4, k9, k5, k6, k7, k8⟩
  · obtain ⟨s1, s2, -⟩ := k3
    obtain ⟨i1, i2, i3⟩ := k5
    exact ⟨by omega, by omega, by omega, by omega, by omega, by omega⟩
  · have q21 := k6.1
    by_cases z : tK b n (qN b n 3 C + 2 * B - 1) = 265
    · obtain ⟨-, -, -, i1, i2, i3⟩ := k8 z
      exact ⟨by omega, by omega, by omega, by omega, by omega, by omega⟩
    · obtain ⟨-, -, i1, i2, i3⟩ := k7 z
      exact ⟨by omega, by omega, by omega, by omega, by omega, by omega⟩
theorem RdC.fr {b : Int → Int} {n : Int} {v V : VV} (h : RdC b n v) (hf : Fr SPa v V) : RdC b n V := by
  have g : ∀ r j, ¬ r = 3 → V r j = v r j := fun r j q => hf r j (by unfold SPa; omega)
  obtain ⟨⟨h1, h2, h3⟩, h4, h5⟩ := h
  refine ⟨⟨(g 4 6 (by omega)).trans h1, (g 4 7 (by omega)).trans h2, (g 4 8 (by omega)).trans h3⟩, (g 23 1 (by omega)).trans h4, ?_⟩
  rcases h5 with ⟨k0, k1, C, k2, k3, k4, k5, k6⟩ | ⟨k0, k1, C, B, k2, k3, k4, k9, k5, k6, k7, k8⟩
  · exact Or.inl ⟨k0, (g 21 1 (by omega)).trans k1, C, k2, k3.fr hf, k4, k5.fr hf, fun p q0 q1 => by rw [g 26 p (by omega), g 27 p (by omega)]; exact k6 p q0 q1⟩
  · refine Or.inr ⟨k0, (g 19 1 (by omega)).trans k1, C, B, k2, (g 17 1 (by omega)).trans k3, fun k hk => ?_, fun f f0 f1 => by rw [g 26 f (by omega), g 27 f (by omega)]; exact k9 f f0 f1, k5.fr _ _ (fun j _ _ => ⟨g 29 j (by omega), g 31 j (by omega)⟩), k6.fr hf, fun z => ?_, fun z => ?_⟩
    · rw [g 18 k (by omega), g 26 k (by omega), g 27 k (by omega)]; exact k4 k hk
    · obtain ⟨q1, q2, q3⟩ := k7 z
      exact ⟨(g 26 6 (by omega)).trans q1, (g 27 6 (by omega)).trans q2, q3.fr hf⟩
    · obtain ⟨q1, q2, q3, q4⟩ := k8 z
      exact ⟨(g 26 6 (by omega)).trans q1, (g 27 6 (by omega)).trans q2, q3.fr _ _ (fun j _ _ => ⟨g 29 j (by omega), g 31 j (by omega)⟩), q4.fr hf⟩
set_option maxRecDepth 100000 in
set_option maxHeartbeats 4000000 in
theorem k_readStatement {X : XX} {v : VV} {b : Int → Int} {n N : Int} (hW : SW X) (hT : TOK b n N v) (hz : DSz v) : CX mX4_readStatement 12 [(2, 3)] X v (fun o v1 => StR b n N v o v1) := by
  have hN := hT.2.1
  have u0 : Fr SPz v (upd2 (upd2 v 3 1 0) 3 2 0) := (Fr.rf.up (by unfold SPz; omega)).up (by unfold SPz; omega)
  have hz0 : DSz (upd2 (upd2 v 3 1 0) 3 2 0) := by
    obtain ⟨d1, d2, d3, d4, d5, d6⟩ := hz
    refine ⟨?_, ?_, ?_, ?_, ?_, ?_⟩ <;> rw [upd2_n _ (by omega), upd2_n _ (by omega)] <;> assumption
  refine CX.of (by decide +kernel) rfl rfl rfl (bX4_readStatement_0 (Nat.le_refl _) hW ⟨_, k_dclear hW hz0, fun w3 hP => ?_⟩)
  obtain ⟨hC, f3⟩ := hP
  have f03 : Fr SPz v w3 := u0.via f3 (fun _ _ q => q) (fun r j q => by unfold SPz; omega)
  have hA3 : PA b n N 0 w3 := ⟨hT.fr f03 (fun r j q => SPz_TO q), by rw [f3 3 1 (by omega), upd2_n _ (by omega), upd2_s], ⟨Int.le_refl _, by omega⟩, by rw [f3 3 2 (by omega), upd2_s]⟩
  have dz3 : DSz w3 := by
    obtain ⟨⟨C1, C2, C3, C4⟩, ⟨C5, C6, -⟩, -⟩ := id hC
    exact ⟨by omega, by omega, by omega, by omega, by omega, by omega⟩
  refine ⟨_, k_readHead hW hA3, fun r6 w7 hP => ?_⟩
  obtain ⟨hP1, hK⟩ := hP
  have b1 := PP_bool hP1
  have shz : ∀ r j, SPh r j → SPz r j := fun r j q => by
    rcases q with q | q
    · exact SPa_z q
    · unfold SPz; omega
  have f7 := f03.via hP1.1 (fun _ _ q => q) shz
  refine ⟨fun g => ?_, fun g => ?_⟩
  case refine_2 =>
    have hno := nob b1.2 g
    have e0 : r6 = 0 := g
    subst e0
    exact ⟨rfl, StR.bad (hP1.mono f03 shz (fun _ => dz3)) (by rw [rStmt_hd, rThen_f hno]) hno⟩
  have y1 := b1.2.mpr g
  obtain ⟨K1, K2, K3⟩ := hK y1
  have hA7 := hP1.at hA3.1 (fun r j q => SPh_TO q) y1
  have hkd : tK b n 0 = 261 ∨ tK b n 0 = 262 ∨ tK b n 0 = 263 := by
    by_cases h : tK b n 0 = 261 ∨ tK b n 0 = 262 ∨ tK b n 0 = 263
    · exact h
    · unfold rHd at y1; rw [if_neg h] at y1; exact Bool.noConfusion y1
  have eH : rHd b n = (true, 2) := by
    have e : rHd b n = rName b n 1 := if_pos hkd
    rw [e] at y1 ⊢
    exact (rName_t y1).1
  have eS : rStmt b n = rThen (rBody b n 2) (rFin b n) := by rw [rStmt_hd, eH]; exact rThen_t rfl
  rw [eH] at hA7
  replace hA7 : PA b n N 2 w7 := hA7
  obtain ⟨⟨C1, C2, C3, C4⟩, C5, C6, C7⟩ := hC
  have g7 : ∀ r j, ¬ (r = 3 ∨ r = 4) → w7 r j = w3 r j := fun r j q => hP1.1 r j (by unfold SPh SPa; omega)
  have D1 := (g7 17 1 (by omega)).trans C1
  have D2 := (g7 19 1 (by omega)).trans C2
  have D3 := (g7 21 1 (by omega)).trans C3
  have D4 := (g7 23 1 (by omega)).trans C4
  have D5 : ITs w7 0 := ⟨(g7 28 1 (by omega)).trans C5.1, (g7 30 1 (by omega)).trans C5.2.1, Int.le_refl _⟩
  have D6 := (g7 25 4 (by omega)).trans C6
  have D7 : ∀ p, 0 ≤ p → p ≤ 6 → w7 26 p = 0 ∧ w7 27 p = 0 := fun p q0 q1 => by rw [g7 26 p (by omega), g7 27 p (by omega)]; exact C7 p q0 q1
  have dz7 : DSz w7 := ⟨by omega, by omega, by omega, by omega, by have := D5.1; omega, by have := D5.2.1; omega⟩
  refine ⟨fun gk => ?_, fun gk => ?_⟩
  · -- a select
    have hk0 : ¬ sK b n = 0 := by rw [← K1]; exact gk
    have hk1 : ¬ tK b n 0 = 261 := fun z => hk0 (if_pos z)
    have eB : rBody b n 2 = rSelect b n 2 := if_neg hk1
    have eSel : rSelect b n 2 = rThen (rTake b n 61 2) (fun a => rThen (rRes b n 6 a) (fun a => rThen (rBeh b n 3 a) (rWhere b n))) := rfl
    have bad : ∀ (r : Bool × Int) (w : VV), rSelect b n 2 = r → r.1 = false → PP b n N SPz v r (some (0, 0)) w → StR b n N v (some (0, 0)) w := fun r w e hr hp => StR.bad hp (by rw [eS, eB, e, rThen_f hr]) hr
    refine ⟨_, k_take hW hA7 61 (by decide), fun r10 w11 hP2 => ?_⟩
    have b2 := PP_bool hP2
    have f11 := f7.via hP2.1 (fun _ _ q => q) (fun _ _ q => SPa_z q)
    refine ⟨fun g2 => ?_, fun g2 => ?_⟩
    · have hno := nob b2.2 g2
      have e0 : r10 = 0 := g2
      subst e0
      refine bX4_readStatement_77 (Nat.le_refl _) hW ⟨rfl, bad _ _ ?_ hno (hP2.mono f7 (fun _ _ q => SPa_z q) (fun _ => dz7))⟩
      rw [eSel, rThen_f hno]
    have y2 := b2.2.mpr g2
    have e2 := (rTake_t y2).1
    have hA11 := hP2.at hA7.1 (fun r j q => SPa_TO q) y2
    rw [e2] at hA11
    replace hA11 : PA b n N 3 w11 := hA11
    have eSel3 : rSelect b n 2 = rThen (rRes b n 6 3) (fun a => rThen (rBeh b n 3 a) (rWhere b n)) := by rw [eSel, rThen_t y2, e2]; rfl
    have g11 : ∀ r j, ¬ r = 3 → w11 r j = w7 r j := fun r j q => hP2.1 r j (by unfold SPa; omega)
    -- the results
    have hS0 : ResC b n 0 w11 := ⟨(g11 17 1 (by omega)).trans D1, fun k hk => absurd hk (by omega), ⟨⟨(g11 28 1 (by omega)).trans D5.1, (g11 30 1 (by omega)).trans D5.2.1, Int.le_refl _⟩, trivial⟩, (g11 25 4 (by omega)).trans D6, fun f f0 f1 => by rw [g11 26 f (by omega), g11 27 f (by omega)]; exact D7 f (by omega) (by omega)⟩
    have hres : CX mX4_readResults 11 [(2, 3)] X w11 (fun o v1 => ReR b n N w11 (rRes b n 6 3) o v1) :=
      CX.of (by decide +kernel) rfl rfl rfl (bX4_readResults_0 (Nat.le_refl _) hW (k_res hW 6 0 3 w11 rfl rfl hA11 Fr.rf (fun k hk => absurd hk (by omega)) (fun z => absurd z (by omega)) hS0 (by rw [off_0]; decide)))
    refine ⟨_, hres, fun r14 w15 hP3 => ?_⟩
    obtain ⟨hP3, hR3⟩ := hP3
    have b3 := PP_bool hP3
    have f15 := f11.via hP3.1 (fun _ _ q => q) (fun _ _ q => SPq_z q)
    refine ⟨fun g3 => ?_, fun g3 => ?_⟩
    · have hno := nob b3.2 g3
      have e0 : r14 = 0 := g3
      subst e0
      refine bX4_readStatement_77 (Nat.le_refl _) hW ⟨rfl, bad _ _ ?_ hno (hP3.mono f11 (fun _ _ q => SPq_z q) (fun _ => dza hP2.1 dz7))⟩
      rw [eSel3, rThen_f hno]
    have y3 := b3.2.mpr g3
    obtain ⟨C, hC16, hRP, hRC, hFr, hRe⟩ := hR3 y3
    have hA15 := hP3.at hA11.1 (fun r j q => SPq_TO q) y3
    rw [hRe] at hA15
    have eSel4 : rSelect b n 2 = rThen (rBeh b n 3 (qN b n 3 C)) (rWhere b n) := by rw [eSel3, rThen_t y3, hRe]
    obtain ⟨s1, s2, s3, s4, s5⟩ := hRC
    have g15 : ∀ r j, ¬ SPq r j → w15 r j = w11 r j := fun r j q => hP3.1 r j q
    have E21 : w15 21 1 = 0 := by rw [g15 21 1 (by unfold SPq SPf SPa; omega), g11 21 1 (by omega)]; exact D3
    have E19 : w15 19 1 = 0 := by rw [g15 19 1 (by unfold SPq SPf SPa; omega), g11 19 1 (by omega)]; exact D2
    have E23 : w15 23 1 = 0 := by rw [g15 23 1 (by unfold SPq SPf SPa; omega), g11 23 1 (by omega)]; exact D4
    have dz15 : DSz w15 := by
      obtain ⟨i1, i2, i3⟩ := s3.1
      exact ⟨by omega, by omega, by omega, by omega, by omega, by omega⟩
    -- closePart touches rows 26 and 27 of the results alone: the where's part is read off the size
    have hbeh : CX mX4_readBehind 2 [(2, 3)] X w15 (fun o v1 => BeR b n N (qN b n 3 C) w15 (rBeh b n 3 (qN b n 3 C)) o v1) :=
      CX.of (by decide +kernel) rfl rfl rfl (bX4_readBehind_0 (Nat.le_refl _) hW (k_beh hW 3 0 (qN b n 3 C) w15 rfl (by omega) hA15 Fr.rf (fun k hk => absurd hk (by omega)) (fun z => absurd z (by omega)) ⟨E21, fun k hk => absurd hk (by omega)⟩))
    refine ⟨_, hbeh, fun r18 w19 hP4 => ?_⟩
    obtain ⟨hP4, hB4⟩ := hP4
    have b4 := PP_bool hP4
    have f19 := f15.via hP4.1 (fun _ _ q => q) (fun _ _ q => SPb_z q)
    refine ⟨fun g4 => ?_, fun g4 => ?_⟩
    · have hno := nob b4.2 g4
      have e0 : r18 = 0 := g4
      subst e0
      refine bX4_readStatement_77 (Nat.le_refl _) hW ⟨rfl, bad _ _ ?_ hno (hP4.mono f15 (fun _ _ q => SPb_z q) (fun _ => dz15))⟩
      rw [eSel4, rThen_f hno]
    have y4 := b4.2.mpr g4
    obtain ⟨B, hB13, hBP, hBC, hBe, hB44⟩ := hB4 y4
    have hA19 := hP4.at hA15.1 (fun r j q => SPb_TO q) y4
    rw [hBe] at hA19 hB44
    have eSel5 : rSelect b n 2 = rWhere b n (qN b n 3 C + 2 * B - 1) := by rw [eSel4, rThen_t y4, hBe]
    have g19 : ∀ r j, ¬ (r = 3 ∨ r = 21 ∨ r = 22) → w19 r j = w15 r j := fun r j q => hP4.1 r j (by unfold SPb SPa; omega)
    have hoff : off b n C ≤ qN b n 3 C + 2 * B - 1 := by
      have h0 : ∀ k : Nat, k ≤ C → off b n k ≤ qN b n 3 k := by
        intro k
        induction k with
        | zero => intro _; rw [off_0]; show (0 : Int) ≤ 3; decide
        | succ k ih =>
          intro hk
          have h1 := ih (by omega)
          have h2 := emF_len (hRP k (by omega)).2.2.2.1
          have h3 : qN b n 3 (k + 1) = (rForm b n 3 (qN b n 3 k + 2)).2 + 1 := rfl
          rw [off_s, h3]; omega
      have := h0 C (Nat.le_refl _)
      omega
    have i15 : ITs w15 (off b n C) := by
      have z := s3.1
      rw [show (0 : Int) + ((emA b n C).length : Int) = off b n C by unfold off; omega] at z
      exact z
    have W26 : w19 26 6 = 0 ∧ w19 27 6 = 0 := by
      rw [g19 26 6 (by omega), g19 27 6 (by omega), g15 26 6 (by unfold SPq SPf SPa; omega), g15 27 6 (by unfold SPq SPf SPa; omega), g11 26 6 (by omega), g11 27 6 (by omega)]
      exact D7 6 (by decide) (by decide)
    have i19 : ITs w19 (off b n C) := ⟨(g19 28 1 (by omega)).trans i15.1, (g19 30 1 (by omega)).trans i15.2.1, i15.2.2⟩
    refine ⟨_, k_where hW hA19 i19 hoff ((g19 25 4 (by omega)).trans s4) W26, fun r22 w23 hP5 => ?_⟩
    obtain ⟨hP5, hWC⟩ := hP5
    have b5 := PP_bool hP5
    have f23 := f19.via hP5.1 (fun _ _ q => q) (fun _ _ q => SPw_z q)
    refine ⟨fun g5 => ?_, fun g5 => ?_⟩
    · have hno := nob b5.2 g5
      have e0 : r22 = 0 := g5
      subst e0
      exact bX4_readStatement_77 (Nat.le_refl _) hW ⟨rfl, bad _ _ eSel5 hno (hP5.mono f19 (fun _ _ q => SPw_z q) (fun _ => dzb hP4.1 (by have := hBC.1; omega) dz15))⟩
    have y5 := b5.2.mpr g5
    have hA23 := hP5.at hA19.1 (fun r j q => SPw_TO q) y5
    have hW5 := hWC y5
    have eS2 : rStmt b n = rFin b n (rWhere b n (qN b n 3 C + 2 * B - 1)).2 := by rw [eS, eB, eSel5, rThen_t y5]
    have hSel : SelP b n C B := ⟨⟨hC16, hB13⟩, hRP, hFr, hBP, hB44, eSel5, by rw [eSel5]; exact y5⟩
    have hRdC : RdC b n w23 := by
      have o0 : 0 ≤ off b n C := by unfold off; omega
      have g23 : ∀ r j, ¬ SPw (off b n C) r j → w23 r j = w19 r j := fun r j q => hP5.1 r j q
      refine ⟨⟨?_, ?_, ?_⟩, ?_, Or.inr ⟨hk0, ?_, C, B, hSel, ?_, fun k hk => ?_, fun f f0 f1 => ?_, ?_, ?_, hW5⟩⟩
      · rw [g23 4 6 (by unfold SPw SPf SPa; omega), g19 4 6 (by omega), g15 4 6 (by unfold SPq SPf SPa; omega), g11 4 6 (by omega)]; exact K1
      · rw [g23 4 7 (by unfold SPw SPf SPa; omega), g19 4 7 (by omega), g15 4 7 (by unfold SPq SPf SPa; omega), g11 4 7 (by omega)]; exact K2
      · rw [g23 4 8 (by unfold SPw SPf SPa; omega), g19 4 8 (by omega), g15 4 8 (by unfold SPq SPf SPa; omega), g11 4 8 (by omega)]; exact K3
      · rw [g23 23 1 (by unfold SPw SPf SPa; omega), g19 23 1 (by omega)]; exact E23
      · rw [g23 19 1 (by unfold SPw SPf SPa; omega), g19 19 1 (by omega)]; exact E19
      · rw [g23 17 1 (by unfold SPw SPf SPa; omega), g19 17 1 (by omega)]; exact s1
      · obtain ⟨z1, z2, z3⟩ := s2 k hk
        rw [g23 18 k (by unfold SPw SPf SPa; omega), g19 18 k (by omega), g23 26 k (by unfold SPw SPf SPa; omega), g19 26 k (by omega), g23 27 k (by unfold SPw SPf SPa; omega), g19 27 k (by omega)]
        exact ⟨z1, z2, z3⟩
      · rw [g23 26 f (by unfold SPw SPf SPa; omega), g19 26 f (by omega), g23 27 f (by unfold SPw SPf SPa; omega), g19 27 f (by omega)]
        exact s5 f f0 f1
      · refine s3.2.fr _ _ (fun j j0 j1 => ?_)
        have h1 : j < off b n C := by unfold off; omega
        exact ⟨(g23 29 j (by unfold SPw SPf SPa; omega)).trans (g19 29 j (by omega)), (g23 31 j (by unfold SPw SPf SPa; omega)).trans (g19 31 j (by omega))⟩
      · exact ⟨(g23 21 1 (by unfold SPw SPf SPa; omega)).trans hBC.1, fun k hk => (g23 22 k (by unfold SPw SPf SPa; omega)).trans (hBC.2 k hk)⟩
    refine ⟨_, k_take hW hA23 59 (by decide), fun r26 w27 hP6 => ?_⟩
    have b6 := PP_bool hP6
    have f27 := f23.via hP6.1 (fun _ _ q => q) (fun _ _ q => SPa_z q)
    refine ⟨fun g6 => ?_, fun g6 => ?_⟩
    · have hno := nob b6.2 g6
      have e0 : r26 = 0 := g6
      subst e0
      refine ⟨rfl, StR.bad (hP6.mono f23 (fun _ _ q => SPa_z q) (fun _ => hRdC.dz)) ?_ hno⟩
      rw [eS2]; unfold rFin; rw [rThen_f hno]
    have y6 := b6.2.mpr g6
    have e6 := (rTake_t y6).1
    have hA27 := hP6.at hA23.1 (fun r j q => SPa_TO q) y6
    rw [e6] at hA27
    have eS3 : rStmt b n = if tK b n ((rWhere b n (qN b n 3 C + 2 * B - 1)).2 + 1) = 260 then (true, (rWhere b n (qN b n 3 C + 2 * B - 1)).2 + 1) else (false, tS b n ((rWhere b n (qN b n 3 C + 2 * B - 1)).2 + 1)) := by
      rw [eS2]; unfold rFin; rw [rThen_t y6, e6]
    rw [hA27.2.1]
    refine ⟨_, k_kind hW hA27.1 hA27.2.2.1.1 hA27.2.2.1.2, fun r30 w31 hP7 => ?_⟩
    obtain ⟨rfl, hr⟩ := hP7
    obtain rfl : r30 = tK b n ((rWhere b n (qN b n 3 C + 2 * B - 1)).2 + 1) := by simpa using hr
    refine ⟨fun g7 => ⟨rfl, StR.bad (PP.no hA27 f27 (fun _ => dza hP6.1 hRdC.dz)) (by rw [eS3, if_neg g7]) rfl⟩, fun g7 => ⟨rfl, ?_, fun _ => hRdC.fr hP6.1⟩⟩
    rw [eS3, if_pos g7]; exact PP.ok hA27 f27
  · -- a source
    have hk0 : sK b n = 0 := by rw [← K1]; exact gk
    have hk1 : tK b n 0 = 261 := by unfold sK at hk0; rcases hkd with z | z | z <;> omega
    have eB : rBody b n 2 = rSource b n 2 := if_pos hk1
    refine ⟨_, k_readSource hW hA7 D1 D2, fun r34 w35 hP2 => ?_⟩
    obtain ⟨hP2, hR2⟩ := hP2
    have b2 := PP_bool hP2
    have f35 := f7.via hP2.1 (fun _ _ q => q) (fun _ _ q => SPs_z q)
    refine ⟨fun g2 => ?_, fun g2 => ?_⟩
    · have hno := nob b2.2 g2
      have e0 : r34 = 0 := g2
      subst e0
      exact ⟨rfl, StR.bad (hP2.mono f7 (fun _ _ q => SPs_z q) (fun _ => dz7)) (by rw [eS, eB, rThen_f hno]) hno⟩
    have y2 := b2.2.mpr g2
    obtain ⟨C, hC, hSC, hRe⟩ := hR2 y2
    have hA35 := hP2.at hA7.1 (fun r j q => SPs_TO q) y2
    rw [hRe] at hA35
    have eS2 : rStmt b n = rFin b n (3 + 3 * C) := by rw [eS, eB, rThen_t y2, hRe]
    have g35 : ∀ r j, ¬ SPs r j → w35 r j = w7 r j := fun r j q => hP2.1 r j q
    have hRdC : RdC b n w35 := by
      refine ⟨⟨?_, ?_, ?_⟩, ?_, Or.inl ⟨hk0, ?_, C, hC, hSC, Prod.ext y2 hRe, ⟨?_, ?_, Int.le_refl _⟩, fun p q0 q1 => ?_⟩⟩
      · rw [g35 4 6 (by unfold SPs SPa; omega)]; exact K1
      · rw [g35 4 7 (by unfold SPs SPa; omega)]; exact K2
      · rw [g35 4 8 (by unfold SPs SPa; omega)]; exact K3
      · rw [g35 23 1 (by unfold SPs SPa; omega)]; exact D4
      · rw [g35 21 1 (by unfold SPs SPa; omega)]; exact D3
      · rw [g35 28 1 (by unfold SPs SPa; omega)]; exact D5.1
      · rw [g35 30 1 (by unfold SPs SPa; omega)]; exact D5.2.1
      · rw [g35 26 p (by unfold SPs SPa; omega), g35 27 p (by unfold SPs SPa; omega)]; exact D7 p q0 q1
    refine ⟨_, k_take hW hA35 59 (by decide), fun r38 w39 hP6 => ?_⟩
    have b6 := PP_bool hP6
    have f39 := f35.via hP6.1 (fun _ _ q => q) (fun _ _ q => SPa_z q)
    refine ⟨fun g6 => ?_, fun g6 => ?_⟩
    · have hno := nob b6.2 g6
      have e0 : r38 = 0 := g6
      subst e0
      refine ⟨rfl, StR.bad (hP6.mono f35 (fun _ _ q => SPa_z q) (fun _ => hRdC.dz)) ?_ hno⟩
      rw [eS2]; unfold rFin; rw [rThen_f hno]
    have y6 := b6.2.mpr g6
    have e6 := (rTake_t y6).1
    have hA39 := hP6.at hA35.1 (fun r j q => SPa_TO q) y6
    rw [e6] at hA39
    have eS3 : rStmt b n = if tK b n (3 + 3 * C + 1) = 260 then (true, 3 + 3 * C + 1) else (false, tS b n (3 + 3 * C + 1)) := by
      rw [eS2]; unfold rFin; rw [rThen_t y6, e6]
    rw [hA39.2.1]
    refine ⟨_, k_kind hW hA39.1 hA39.2.2.1.1 hA39.2.2.1.2, fun r42 w43 hP7 => ?_⟩
    obtain ⟨rfl, hr⟩ := hP7
    obtain rfl : r42 = tK b n (3 + 3 * C + 1) := by simpa using hr
    refine ⟨fun g7 => ⟨rfl, StR.bad (PP.no hA39 f39 (fun _ => dza hP6.1 hRdC.dz)) (by rw [eS3, if_neg g7]) rfl⟩, fun g7 => ⟨rfl, ?_, fun _ => hRdC.fr hP6.1⟩⟩
    rw [eS3, if_pos g7]; exact PP.ok hA39 f39
set_option maxRecDepth 100000 in
set_option maxHeartbeats 4000000 in
/-- where reading stopped -/
theorem k_stopPlace {X : XX} {v : VV} {b : Int → Int} {n N : Int} (hW : SW X) (hT : TOK b n N v) (h3 : 0 ≤ v 3 1 ∧ v 3 1 ≤ N) (hx : 0 ≤ v 3 2 ∧ v 3 2 ≤ 400) : CX mX4_stopPlace 1 [(2, 3)] X v (fun o v1 => v1 = v ∧ o = some (0, tS b n (v 3 1) + v 3 2)) := by
  have h0 := (tS_bd b hT.1.1.1 (v 3 1)).1
  have h1 := (tS_bd b hT.1.1.1 (v 3 1)).2
  have hn := hT.1.1
  refine CX.of (by decide +kernel) rfl rfl rfl (bX4_stopPlace_0 (Nat.le_refl _) hW ⟨_, k_start hW hT h3.1 h3.2, fun r2 w3 hP => ?_⟩)
  obtain ⟨rfl, hr⟩ := hP
  obtain rfl : r2 = tS b n (w3 3 1) := by simpa using hr
  exact ⟨fun _ _ => ⟨by omega, by omega⟩, rfl, rfl, rfl⟩
