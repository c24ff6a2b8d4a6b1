/-! ===== table ===== -/
theorem mOwn_sm {v V : VV} (h : ∀ r j : Int, (r = 54 ∨ r = 55 ∨ r = 56) → V r j = v r j) : ∀ (f : Nat) (q : Int), mOwn V f q = mOwn v f q
  | 0, q => h 56 q (by omega)
  | f + 1, q => by
    unfold mOwn
    rw [h 56 q (by omega), h 54 q (by omega), h 55 _ (by omega), mOwn_sm h f]
theorem tblR_mp (v : VV) (t w : Int) : tblR (mp v) t w = tblR v t w := by
  unfold tblR
  rw [ag_mp, mOwn_sm (fun r j hr => mp_in v j (by omega)) 17 t]
  rfl
set_option maxRecDepth 100000 in
set_option maxHeartbeats 4000000 in
theorem k_ownerOf {G : GT} {cC : Int → Nat} {E : Int} {X : XX} {vc v : VV} (h : I1 G cC E X vc v) (t : Int) (ht : isT v t) : CX mX10_ownerOf 1 [(2, 0), (0, t)] X vc (fun o w => w = vc ∧ o = some (0, mOwn v 17 t)) := by
  have hM := h.2.1.1.2.1
  obtain ⟨l0, l1, l2⟩ := (h.live t).mp ht
  have key : ∀ (f : Nat) (q x : Int), isT v q → q.toNat < f → 0 ≤ x → x + q ≤ 15 → Ex mX10_ownerOf 1 8 [(2, 0), (0, t), (2, X.2 37 q), (0, x)] [] X vc 0 0 (fun o X1 w => X1 = X ∧ w = vc ∧ o = some (0, mOwn v f q)) := by
    intro f
    induction f with
    | zero => intro q x _ hf; exact absurd hf (Nat.not_lt_zero _)
    | succ f ih =>
      intro q x hq hf hx0 hx
      obtain ⟨q0, q1, q2⟩ := (h.live q).mp hq
      obtain ⟨o1, o2, o3⟩ := h.hi hq
      obtain ⟨B, I, W, ⟨⟨s1, s2, -, ⟨s3, s4⟩, -⟩, -, hB3, -⟩, ⟨-, p8, -⟩, ⟨⟨k2, k3, k4⟩, k5⟩, -⟩ := (h.tab hq).1
      obtain ⟨m1, -, -, m4, m5, -⟩ := hM q hq.1 hq.2.1
      have h48 : v 48 q = 1 := m1.elim (fun z => absurd z hq.2.2) id
      refine bX10_ownerOf_8 t (X.2 37 q) x (Nat.le_refl _) h.1 (fun _ _ => ⟨fun g => by omega, fun g => ⟨fun g2 => absurd g2 q2, fun _ => ⟨o2, ⟨by omega, o3⟩, fun g3 => ?_, fun g3 => ?_⟩⟩⟩)
      · rw [p8] at g3
        rw [s3]
        refine ⟨s4.1, s4.2.1, _, k_get h.1 s4 (by rw [k2]; exact k4) 0, fun r8 w9 hP => ?_⟩
        obtain ⟨rfl, hr8⟩ := hP
        obtain rfl : r8 = rGet w9 (X.2 37 q + 2) (X.2 37 q + 3) 0 := by simpa using hr8
        refine ⟨_, k_tableAt h.1 _, fun r12 w13 hP => ?_⟩
        obtain ⟨rfl, hr12⟩ := hP
        refine ⟨⟨by omega, by omega⟩, ?_⟩
        by_cases hb : 0 < v 54 q
        · obtain ⟨a1, a2, a3⟩ := m5 0 (Int.le_refl _) hb
          rw [Int.add_zero] at a1 a2 a3
          have e5 := k5 0 (Int.le_refl _) hb
          rw [Int.add_zero] at e5
          rw [rGet_in ⟨Int.le_refl _, by rw [k2]; exact hb⟩, e5] at hr12
          have hq' : isT v (v 55 (3 * q)) := ⟨a1, by have := hq.2.1; omega, by rw [a3 h48]; decide⟩
          obtain ⟨z0, z1, z2⟩ := (h.live _).mp hq'
          obtain rfl : r12 = X.2 37 (v 55 (3 * q)) := by rw [if_pos ⟨z0, z1⟩] at hr12; simpa using hr12
          have e : mOwn v (f + 1) q = mOwn v f (v 55 (3 * q)) := by
            show (if v 56 q = -1 ∧ 0 < v 54 q then mOwn v f (v 55 (3 * q)) else v 56 q) = _
            rw [if_pos ⟨g3, hb⟩]
          rw [e]
          exact ih _ (x + 1) hq' (by omega) (by omega) (by omega)
        · rw [rGet_out (by rw [k2]; omega), if_neg (by omega)] at hr12
          obtain rfl : r12 = -1 := by simpa using hr12
          have e : mOwn v (f + 1) q = -1 := by
            show (if v 56 q = -1 ∧ 0 < v 54 q then mOwn v f (v 55 (3 * q)) else v 56 q) = _
            rw [if_neg (fun z => hb z.2)]; exact g3
          rw [e]
          exact bX10_ownerOf_8 t (-1) (x + 1) (Nat.le_refl _) h.1 (fun _ _ => ⟨fun g => ⟨rfl, rfl, rfl⟩, fun g => ⟨fun g2 => ⟨rfl, rfl, rfl⟩, fun g2 => absurd rfl g2⟩⟩)
      · rw [p8] at g3
        have e : mOwn v (f + 1) q = v 56 q := by
          show (if v 56 q = -1 ∧ 0 < v 54 q then mOwn v f (v 55 (3 * q)) else v 56 q) = _
          rw [if_neg (fun z => g3 z.1)]
        rw [e, p8]
        exact ⟨rfl, rfl, rfl⟩
  refine CX.of (by decide +kernel) rfl rfl rfl (bX10_ownerOf_0 t (Nat.le_refl _) h.1 (fun _ => ⟨_, k_tableAt h.1 t, fun r2 w3 hP => ?_⟩))
  obtain ⟨rfl, hr⟩ := hP
  obtain rfl : r2 = X.2 37 t := by rw [if_pos ⟨l0, l1⟩] at hr; simpa using hr
  exact key 17 t 0 ht (by omega) (Int.le_refl _) (by omega)
set_option maxRecDepth 100000 in
set_option maxHeartbeats 4000000 in
theorem k_table {G : GT} {cC : Int → Nat} {E : Int} {X : XX} {vc v : VV} (h : I1 G cC E X vc v) (t a : Int) : CX mX10_table 2 [(2, 0), (0, t), (0, a)] X vc (fun o w => w = vc ∧ ((isT v t ∧ (0 ≤ a ∧ a ≤ 9) ∧ o = some (0, tblR v t a)) ∨ (¬ (isT v t ∧ (0 ≤ a ∧ a ≤ 9)) ∧ o = some (0, -1)))) := by
  have hL := h.live t
  refine CX.of (by decide +kernel) rfl rfl rfl (bX10_table_0 t a (Nat.le_refl _) h.1 (fun _ _ => ⟨_, k_tableAt h.1 t, fun r2 w3 hP => ?_⟩))
  obtain ⟨rfl, hr⟩ := hP
  by_cases hl : 0 ≤ t ∧ t < 16 ∧ ¬ X.2 37 t = -1
  · obtain rfl : r2 = X.2 37 t := by rw [if_pos ⟨hl.1, hl.2.1⟩] at hr; simpa using hr
    have ht := hL.mpr hl
    obtain ⟨o1, o2, o3⟩ := h.hi ht
    obtain ⟨⟨B, I, W, ⟨⟨s1, s2, ⟨c1, c2⟩, ⟨s3, s4⟩, -⟩, -, hB3, -⟩, ⟨p5, p8, p9⟩, ⟨⟨k2, k3, k4⟩, k5⟩, -⟩, a6, a7⟩ := h.tab ht
    have hC := ((h.2.2.1.2 t hl.1 hl.2.1).2 hl.2.2).2.1
    have fin : ∀ (i : Int), (0 ≤ a ∧ a ≤ 9) → i = tblR v t a → (X = X ∧ w3 = w3 ∧ ((isT v t ∧ (0 ≤ a ∧ a ≤ 9) ∧ some (0, i) = some ((0 : Nat), tblR v t a)) ∨ (¬ (isT v t ∧ (0 ≤ a ∧ a ≤ 9)) ∧ some ((0 : Nat), i) = some (0, -1)))) := fun i h1 h2 => ⟨rfl, rfl, Or.inl ⟨ht, h1, by rw [h2]⟩⟩
    have k86 : (a = 3 ∨ a = 4 ∨ a = 5) → Ex mX10_table 2 86 [(2, 0), (0, t), (0, a), (2, X.2 37 t)] [] X w3 0 0 (fun o X1 w => X1 = X ∧ w = w3 ∧ ((isT v t ∧ (0 ≤ a ∧ a ≤ 9) ∧ o = some (0, tblR v t a)) ∨ (¬ (isT v t ∧ (0 ≤ a ∧ a ≤ 9)) ∧ o = some (0, -1)))) := fun h3 => by
      refine bX10_table_86 t a (X.2 37 t) (Nat.le_refl _) h.1 (fun _ _ => ⟨o2, ⟨by omega, o3⟩, ⟨by omega, by omega⟩, ?_⟩)
      rw [s3]
      refine ⟨s4.1, s4.2.1, _, k_get h.1 s4 (by rw [k2]; exact k4) _, fun r27 w28 hP => ?_⟩
      obtain ⟨rfl, hr27⟩ := hP
      obtain rfl : r27 = rGet w28 (X.2 37 t + 2) (X.2 37 t + 3) (a - 3) := by simpa using hr27
      refine fin _ (by omega) ?_
      unfold tblR
      rw [if_neg (by omega), if_neg (by omega), if_neg (by omega), if_pos h3]
      by_cases z : a - 3 < v 54 t
      · rw [if_pos z, rGet_in ⟨by omega, by rw [k2]; exact z⟩, k5 _ (by omega) z]
      · rw [if_neg z, rGet_out (by rw [k2]; omega)]
    refine ⟨fun _ => ⟨fun g => ?_, fun g => ?_, fun g => ?_, fun g => k86 (by omega), fun g => k86 (by omega), fun g => k86 (by omega), fun g => ?_, fun g => ?_, fun g => ?_, fun g => ?_, fun g => ?_⟩, fun g => absurd g hl.2.2⟩
    · refine ⟨o2, ⟨by omega, o3⟩, fin _ (by omega) ?_⟩
      unfold tblR; rw [if_pos g]; exact p5
    · refine ⟨o2, ⟨by omega, o3⟩, _, k_columnCount h.1 ⟨o2, by omega, o3⟩ ⟨c1, c2, by omega, by omega⟩, fun r8 w9 hP => ?_⟩
      obtain ⟨rfl, hr8⟩ := hP
      obtain rfl : r8 = (cC t : Int) := by simpa using hr8
      refine fin _ (by omega) ?_
      unfold tblR; rw [if_neg (by omega), if_pos g]; exact hC.symm
    · rw [s3]
      refine ⟨o2, ⟨by omega, o3⟩, s4.1, s4.2.1, _, k_size h.1 s4, fun r14 w15 hP => ?_⟩
      obtain ⟨rfl, hr14⟩ := hP
      obtain rfl : r14 = w15 (X.2 37 t + 2) 1 := by simpa using hr14
      refine fin _ (by omega) ?_
      unfold tblR; rw [if_neg (by omega), if_neg (by omega), if_pos g]; exact k2
    · refine ⟨o2, ⟨by omega, o3⟩, fin _ (by omega) ?_⟩
      unfold tblR; rw [if_neg (by omega), if_neg (by omega), if_neg (by omega), if_neg (by omega), if_pos g]; exact a6
    · refine ⟨o2, ⟨by omega, o3⟩, fin _ (by omega) ?_⟩
      unfold tblR; rw [if_neg (by omega), if_neg (by omega), if_neg (by omega), if_neg (by omega), if_neg (by omega), if_pos g]; exact a7
    · refine ⟨_, k_ownerOf h t ht, fun r20 w21 hP => ?_⟩
      obtain ⟨rfl, hr20⟩ := hP
      obtain rfl : r20 = mOwn v 17 t := by simpa using hr20
      refine fin _ (by omega) ?_
      unfold tblR; rw [if_neg (by omega), if_neg (by omega), if_neg (by omega), if_neg (by omega), if_neg (by omega), if_neg (by omega), if_pos g]
    · refine ⟨o2, ⟨by omega, o3⟩, fin _ (by omega) ?_⟩
      unfold tblR; rw [if_neg (by omega), if_neg (by omega), if_neg (by omega), if_neg (by omega), if_neg (by omega), if_neg (by omega), if_neg (by omega)]; exact p9
    · exact ⟨rfl, rfl, Or.inr ⟨fun z => by omega, rfl⟩⟩
  · have hr2 : r2 = -1 := by
      by_cases z : 0 ≤ t ∧ t < 16
      · rw [if_pos z] at hr
        have e : X.2 37 t = -1 := Classical.byContradiction (fun y => hl ⟨z.1, z.2, y⟩)
        rw [e] at hr; simpa using hr
      · rw [if_neg z] at hr; simpa using hr
    exact ⟨fun g => absurd hr2 g, fun g => ⟨rfl, rfl, Or.inr ⟨fun z => hl (hL.mp z.1), rfl⟩⟩⟩
theorem s_table {G : GT} {cC : Int → Nat} {E : Int} {X : XX} {v : VV} (h : I2 G cC E X v (mp v)) (t a : Int) : StpOK mX10_table mX11_table 2 2 [(0, t), (0, a)] E X v := by
  have hMv : MIn G E v := h.1.at rfl
  refine StpOK.cx h.1.1 (k_table h.1 t a) (fun o w hp => ?_)
  obtain ⟨rfl, hp⟩ := hp
  have c0 := c_table h.1.1 hMv.1.1 hMv.1.2.1 t a
  have fin : ∀ w', Fr S78 w w' → ∃ (G' : GT) (cC' : Int → Nat), I2 G' cC' (E + 10000) X w' (mp w') := fun w' hF => ⟨G, cC, I2.fin h (by omega) (fun r j hr => hF r j (by unfold S78; omega)) hF (fun r j q => by unfold S78 at q; omega)⟩
  rcases hp with ⟨q1, q2, ho⟩ | ⟨hn, ho⟩
  · refine ⟨_, ho, c0.mono (fun o' w' hq => ?_)⟩
    rcases hq with ⟨hF, ⟨-, -, ho'⟩ | ⟨q, -⟩⟩
    · exact ⟨by rw [ho', tblR_mp], fin w' hF⟩
    · exact absurd ⟨q1, q2⟩ q
  · refine ⟨_, ho, c0.mono (fun o' w' hq => ?_)⟩
    rcases hq with ⟨hF, ⟨q3, q4, -⟩ | ⟨-, ho'⟩⟩
    · exact absurd ⟨q3, q4⟩ hn
    · exact ⟨ho', fin w' hF⟩
