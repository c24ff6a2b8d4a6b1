/-! ===== act on either side: one verdict ===== -/
theorem LkR.fr {X : XX} {vc vm w W : VV} {cC : Int → Nat} {S : Int → Int → Prop} (h : LkR X vc vm cC) (hTO : TObj X) (hTC : TCol X cC) (hc : Fr S vc w) (hs : ∀ r j, (87 ≤ r ∨ r = 38) → ¬ S r j) (h0 : W 47 0 = vm 47 0) (h48 : ∀ t, W 48 t = vm 48 t) (hm : ∀ t, 0 ≤ t → t < vm 47 0 → W 49 t = vm 49 t ∧ W 51 t = vm 51 t ∧ ∀ c, 0 ≤ c → c < 8 → W 52 (8 * t + c) = vm 52 (8 * t + c) ∧ W 53 (8 * t + c) = vm 53 (8 * t + c)) : LkR X w W cC := by
  obtain ⟨a1, a2⟩ := h
  refine ⟨by rw [h0]; exact a1, fun t t0 t1 => ?_⟩
  obtain ⟨b1, b2⟩ := a2 t t0 t1
  refine ⟨by rw [h0, h48]; exact b1, fun hl => ?_⟩
  obtain ⟨c1, c2, c3⟩ := b2 hl
  obtain ⟨d1, -⟩ := b1.mpr hl
  obtain ⟨m1, m2, m3⟩ := hm t t0 d1
  have o1 : 87 ≤ X.2 37 t := (hTO t t0 t1).elim (fun z => absurd z hl) (fun z => z.2.1)
  obtain ⟨⟨-, o2, -⟩, -, o3⟩ : (X.1.2 (X.2 (X.2 37 t) 1) = (101, cC t) ∧ (87 ≤ X.2 (X.2 37 t) 1 ∧ X.2 (X.2 37 t) 1 < X.1.1)) ∧ 1 ≤ cC t ∧ cC t ≤ 6 := (hTC t t0 t1).elim (fun z => absurd z hl) id
  refine ⟨by rw [m1, hc _ 0 (hs _ _ (Or.inl o1))]; exact c1, by rw [m2]; exact c2, fun c c0 c1' => ?_⟩
  obtain ⟨e1, e2⟩ := c3 c c0 c1'
  obtain ⟨f1, f2⟩ := m3 c c0 (by omega)
  exact ⟨by rw [f1, hc _ c (hs _ _ (Or.inl o2))]; exact e1, by rw [f2, hc 38 _ (hs _ _ (Or.inr rfl))]; exact e2⟩
theorem tN_eqv {v V : VV} {w : Int} (h0 : V 47 0 = v 47 0) (h48 : ∀ t, V 48 t = v 48 t) (h49 : ∀ t, 0 ≤ t → t < v 47 0 → V 49 t = v 49 t) : tN V w = tN v w := by
  unfold tN
  rw [h0]
  exact fst1_cg _ (fun t t0 t1 => by unfold thereNamed; rw [h48, h49 t t0 (by omega)])
theorem tkN {b : Int → Int} {n A N : Int} {v : VV} (hX : TX b n) (h : (rStmt b n).1 = true) : WR (tW b n 1) (nm32 b n 1) := by
  obtain ⟨⟨k1, k2⟩, -⟩ := rStmt_t h
  exact (WR_tok hX k1 k2).1
set_option maxHeartbeats 1000000 in
theorem same_sel {X : XX} {vc vm w w1 W V' : VV} {cC : Int → Nat} {b : Int → Int} {n T A : Int} (hX : TX b n) (hTO : TObj X) (hTC : TCol X cC) (hl : LkR X vc vm cC) (hτ : ∀ j, 0 ≤ j → j < 128 → okT (vc 38 j)) (e0 : vm 47 0 = T) (hs : (rStmt b n).1 = true) (fw : Fr SAc vc w) (hCk : CkO X w cC b n w1) (fW : Fr (AcS T) vm W) (hRd : RdK b n T W) (hK : TKt b n T A W) (hA : (rStmt b n).2 ≤ A) (hMe : MeM b n W T V') : w1 32 1 = V' 47 25 ∧ w1 32 2 = V' 47 26 := by
  have hlw : LkR X w W cC := hl.fr hTO hTC fw (fun r j q => by unfold SAc; omega) (fW 47 0 (by unfold AcS; omega)) (fun t => fW 48 t (by unfold AcS; omega)) (fun t t0 t1 => ⟨fW 49 t (by unfold AcS; omega), fW 51 t (by unfold AcS; omega), fun c c0 c1 => ⟨fW 52 _ (by unfold AcS; omega), fW 53 _ (by unfold AcS; omega)⟩⟩)
  obtain ⟨⟨k1, k2⟩, -, -, hR2⟩ := rStmt_t hs
  have hw1 := (WR_tok hX k1 k2).1
  obtain ⟨r1, r2, r3⟩ := hRd
  have hW0 : W 47 0 = T := (fW 47 0 (by unfold AcS; omega)).trans e0
  have eτ : ∀ j, 0 ≤ j → j < 128 → okT (w 38 j) := fun j j0 j1 => by rw [fw 38 j (by unfold SAc; omega)]; exact hτ j j0 j1
  rcases hCk.2 with ⟨s0, C, hC, hS, hSr, hCR⟩ | ⟨s0, C, B, hP, hCR⟩
  · rcases hMe with ⟨-, C', hC', hMR⟩ | ⟨s1, -⟩
    · rcases r3 with ⟨-, C2, q1, q2, q3, q4, q5, q6⟩ | ⟨s2, -⟩
      · have e1 : C' = C2 := by rw [← hC', q1]
        have e2 : C2 = C := by
          have := congrArg Prod.snd (q4.symm.trans hSr)
          simp only at this
          omega
        subst e1
        subst e2
        obtain ⟨vM, -, -, -, -, -, -, hF, -⟩ := hMR
        have hb : (rBody b n 2).2 = 3 + 3 * C' := by
          have h0 : tK b n 0 = 261 := by
            unfold sK at s0
            by_cases z : tK b n 0 = 261
            · exact z
            · rw [if_neg z] at s0
              by_cases z2 : tK b n 0 = 262
              · rw [if_pos z2] at s0; omega
              · rw [if_neg z2] at s0; omega
          have : rBody b n 2 = rSource b n 2 := if_pos h0
          rw [this, q4]
        have h62 : W 62 (400 * T + 1) = tS b n 1 := (hK.1 1 (by decide) (by omega)).2.1
        refine verdict_src (fa := fun _ => 0) hlw ⟨r2, hw1, h62⟩ (fun c c0 c1 => ?_) (r1.trans s0) (q6 7 (by decide) (by decide)).2 (hCk.1.1.1.trans s0) hCR.1 hF
        obtain ⟨z1, -, z2, z3⟩ := q3 c c0 c1
        exact ⟨z1, (WR_tok hX z2 z3).1⟩
      · exact absurd s0 s2
    · exact absurd s0 s1
  · rcases hMe with ⟨s1, -⟩ | ⟨-, C', B', hP', hMR⟩
    · exact absurd s1 s0
    · rcases r3 with ⟨s2, -⟩ | ⟨-, C2, B2, hP2, q1, q2, q3, q4, q5, q6, q7⟩
      · exact absurd s2 s0
      · obtain ⟨e1, e2⟩ := SelP_u hP' hP
        obtain ⟨e3, e4⟩ := SelP_u hP2 hP
        subst e1
        subst e2
        subst e3
        subst e4
        obtain ⟨hF, hq3, hoff⟩ := FmSel_of hP
        obtain ⟨vM, f1, f2, f3, -, -, -, hFM, -⟩ := hMR
        obtain ⟨⟨⟨c1, c2⟩, b1, b2⟩, hRP, -, hBP, -, hSel, hSel1⟩ := id hP
        have h261 : ¬ tK b n 0 = 261 := fun z => s0 (if_pos z)
        have hb : (rBody b n 2).2 = (rWhere b n (qN b n 3 C2 + 2 * B2 - 1)).2 := by
          have : rBody b n 2 = rSelect b n 2 := if_neg h261
          rw [this, hSel]
        have hA1 : 1 < A := by
          by_cases hk : tK b n (qN b n 3 C2 + 2 * B2 - 1) = 265
          · obtain ⟨w1', w2', w3'⟩ := hF.2.2 hk
            have eW : rWhere b n (qN b n 3 C2 + 2 * B2 - 1) = rForm b n 3 ((rForm b n 3 (qN b n 3 C2 + 2 * B2 - 1 + 1)).2 + 1) := by
              rw [rWhere_y hk, rThen_t w1']; exact if_pos w2'
            have := rForm_lt w1'
            have := rForm_lt w3'
            rw [eW] at hb
            omega
          · have eW : rWhere b n (qN b n 3 C2 + 2 * B2 - 1) = (true, qN b n 3 C2 + 2 * B2 - 1) := if_neg hk
            rw [eW] at hb
            simp only at hb
            omega
        have h62 : W 62 (400 * T + 1) = tS b n 1 := (hK.1 1 (by decide) hA1).2.1
        have g : ∀ r j, ¬ (r = 47 ∨ r = 55) → vM r j = W r j := fun r j q => f1 r j (by unfold MBs FTs; omega)
        have g0 : vM 47 0 = W 47 0 := f1 47 0 (by unfold MBs FTs; omega)
        have hl2 : LkR X w vM cC := hlw.fr (S := fun _ _ => False) hTO hTC (fun _ _ _ => rfl) (fun _ _ _ z => z) g0 (fun t => g 48 t (by omega)) (fun t t0 t1 => ⟨g 49 t (by omega), g 51 t (by omega), fun c c0 c1 => ⟨g 52 _ (by omega), g 53 _ (by omega)⟩⟩)
        have etN : ∀ x, tN vM x = tN W x := fun x => tN_eqv g0 (fun t => g 48 t (by omega)) (fun t _ _ => g 49 t (by omega))
        have hwr : ∀ k : Int, 0 ≤ k → k < B2 → W 70 k = tW b n (qN b n 3 C2 + 2 * k) ∧ W 71 k = tS b n (qN b n 3 C2 + 2 * k) ∧ WR (tW b n (qN b n 3 C2 + 2 * k)) (nm32 b n (qN b n 3 C2 + 2 * k)) := fun k k0 k1 => by
          obtain ⟨z1, z2⟩ := q5 k.toNat (by omega)
          obtain ⟨z3, z4, -⟩ := hBP k.toNat (by omega)
          rw [Int.toNat_of_nonneg k0] at z1 z2 z3 z4
          exact ⟨z1, z2, (WR_tok hX z3 z4).1⟩
        have hB : BhR b n T B2 (fun i => qN b n 3 C2 + 2 * i) vM := ⟨(g 54 T (by omega)).trans q2, fun k k0 k1 => by
          obtain ⟨z1, z2, z3⟩ := hwr k k0 k1
          refine ⟨(g 70 k (by omega)).trans z1, (g 71 k (by omega)).trans z2, ?_, z3⟩
          rw [etN, ← z1]
          exact f2 k k0 k1⟩
        have hM : MdS b n T C2 B2 (fun c => qN b n 3 c.toNat) (fun i => qN b n 3 C2 + 2 * i) (qN b n 3 C2 + 2 * B2 - 1) W := by
          refine ⟨⟨r2, hw1, h62⟩, fun c c0 c1 => ?_, hwr, ?_, ?_⟩
          · obtain ⟨z1, -, -⟩ := q4 c.toNat (by omega)
            rw [Int.toNat_of_nonneg c0] at z1
            obtain ⟨y1, y2, -⟩ := hRP c.toNat (by omega)
            exact ⟨z1, (WR_tok hX y1 y2).1⟩
          · rw [r1]
            have : 0 ≤ sK b n := by unfold sK; (repeat' split) <;> omega
            omega
          · constructor
            · intro z
              by_cases hk : tK b n (qN b n 3 C2 + 2 * B2 - 1) = 265
              · exact hk
              · have := (q6.1 hk).2.2.2; omega
            · intro hk
              obtain ⟨-, -, z1, -, -, z2, z3⟩ := q6.2 hk
              rw [z2]
              have := rForm_lt z1
              have := rForm_lt z3
              omega
        have h42 : tK b n (qN b n 3 C2 + 2 * B2 - 1) = 265 → vM 47 42 = tS b n (rForm b n 3 (qN b n 3 C2 + 2 * B2 - 1 + 1)).2 := fun hk => (f1 47 42 (by unfold MBs FTs; omega)).trans (q7 hk)
        exact verdict_sel hX hlw hl2 hTC eτ hF ⟨c1, c2⟩ hM hB (by rw [f3]; decide) h42 (by rw [hCk.1.1.1]; exact s0) (fun c hc => by show qN b n 3 ((c : Int)).toNat = _; rw [Int.toNat_natCast]) (fun i => rfl) rfl hRP hBP k1 hCR.1 hFM
