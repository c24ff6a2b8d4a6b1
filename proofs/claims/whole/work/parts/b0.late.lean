/-! ===== late ===== -/
def aV (v : VV) : VV := fun r j => if r = 79 then (ag v j).2 else v r j
theorem aV_n (v : VV) {r : Int} (j : Int) (h : ¬ r = 79) : aV v r j = v r j := if_neg h
theorem nbL_cg {v V : VV} {lim q : Int} (h54 : V 54 q = v 54 q) (h3 : v 54 q ≤ 3) (h55 : ∀ k, 0 ≤ k → k < v 54 q → V 55 (3 * q + k) = v 55 (3 * q + k)) (h79 : ∀ k, 0 ≤ k → k < v 54 q → V 79 (v 55 (3 * q + k)) = v 79 (v 55 (3 * q + k))) : nbL V lim q = nbL v lim q := by
  have e : ∀ k, 0 ≤ k → k < v 54 q → bI (isL V lim (V 55 (3 * q + k))) = bI (isL v lim (v 55 (3 * q + k))) := fun k k0 k1 => by
    unfold isL
    rw [h55 k k0 k1, h79 k k0 k1]
  unfold nbL
  rw [h54]
  by_cases c0 : 0 < v 54 q
  · have e0 := e 0 (Int.le_refl _) c0
    have f0 := h55 0 (Int.le_refl _) c0
    rw [Int.add_zero] at e0 f0
    rw [e0, f0]
    by_cases c1 : 1 < v 54 q
    · rw [e 1 (by decide) c1, h55 1 (by decide) c1]
      by_cases c2 : 2 < v 54 q
      · rw [e 2 (by decide) c2, h55 2 (by decide) c2]
      · rw [if_neg (show ¬ (2 < v 54 q ∧ bI (isL V lim (V 55 (3 * q + 2))) = 1) from fun z => by have := z.1; omega), if_neg (show ¬ (2 < v 54 q ∧ bI (isL v lim (v 55 (3 * q + 2))) = 1) from fun z => by have := z.1; omega)]
    · rw [if_neg (show ¬ (1 < v 54 q ∧ bI (isL V lim (V 55 (3 * q + 1))) = 1) from fun z => by have := z.1; omega), if_neg (show ¬ (1 < v 54 q ∧ bI (isL v lim (v 55 (3 * q + 1))) = 1) from fun z => by have := z.1; omega), if_neg (show ¬ (2 < v 54 q ∧ bI (isL V lim (V 55 (3 * q + 2))) = 1) from fun z => by have := z.1; omega), if_neg (show ¬ (2 < v 54 q ∧ bI (isL v lim (v 55 (3 * q + 2))) = 1) from fun z => by have := z.1; omega)]
  · rw [if_neg (show ¬ (0 < v 54 q ∧ bI (isL V lim (V 55 (3 * q))) = 1) from fun z => by have := z.1; omega), if_neg (show ¬ (0 < v 54 q ∧ bI (isL v lim (v 55 (3 * q))) = 1) from fun z => by have := z.1; omega), if_neg (show ¬ (1 < v 54 q ∧ bI (isL V lim (V 55 (3 * q + 1))) = 1) from fun z => by have := z.1; omega), if_neg (show ¬ (1 < v 54 q ∧ bI (isL v lim (v 55 (3 * q + 1))) = 1) from fun z => by have := z.1; omega), if_neg (show ¬ (2 < v 54 q ∧ bI (isL V lim (V 55 (3 * q + 2))) = 1) from fun z => by have := z.1; omega), if_neg (show ¬ (2 < v 54 q ∧ bI (isL v lim (v 55 (3 * q + 2))) = 1) from fun z => by have := z.1; omega)]
theorem nbL_bd {v : VV} {lim q : Int} (hB : BhO v q) : nbL v lim q = -1 ∨ ∃ k, 0 ≤ k ∧ k < v 54 q ∧ nbL v lim q = v 55 (3 * q + k) := by
  unfold nbL
  by_cases c0 : 0 < v 54 q ∧ bI (isL v lim (v 55 (3 * q))) = 1
  · rw [if_pos c0]; exact Or.inr ⟨0, Int.le_refl _, c0.1, by rw [Int.add_zero]⟩
  · rw [if_neg c0]
    by_cases c1 : 1 < v 54 q ∧ bI (isL v lim (v 55 (3 * q + 1))) = 1
    · rw [if_pos c1]; exact Or.inr ⟨1, by decide, c1.1, rfl⟩
    · rw [if_neg c1]
      by_cases c2 : 2 < v 54 q ∧ bI (isL v lim (v 55 (3 * q + 2))) = 1
      · rw [if_pos c2]; exact Or.inr ⟨2, by decide, c2.1, rfl⟩
      · rw [if_neg c2]; exact Or.inl rfl
theorem ltF_cg {v V : VV} {lim : Int} (hM : ∀ t, 0 ≤ t → t < v 47 0 → BhO v t) (h54 : ∀ t, V 54 t = v 54 t) (h55 : ∀ j, V 55 j = v 55 j) (h79 : ∀ t, 0 ≤ t → t < v 47 0 → V 79 t = v 79 t) : ∀ (f : Nat) (q : Int), 0 ≤ q → q < v 47 0 → ltF V lim f q = ltF v lim f q
  | 0, _, _, _ => rfl
  | f + 1, q, q0, q1 => by
    have hB := hM q q0 q1
    have e : nbL V lim q = nbL v lim q := nbL_cg (h54 q) hB.1.2 (fun k _ _ => h55 _) (fun k k0 k1 => by
      obtain ⟨a1, a2⟩ := hB.2 k k0 k1
      exact h79 _ a1 (by omega))
    unfold ltF
    rw [e]
    by_cases z : nbL v lim q = -1
    · rw [if_pos z, if_pos z]
    · rw [if_neg z, if_neg z]
      rcases nbL_bd (lim := lim) hB with y | ⟨k, k0, k1, y⟩
      · exact absurd y z
      · obtain ⟨a1, a2⟩ := hB.2 k k0 k1
        rw [y]
        exact ltF_cg hM h54 h55 h79 f _ a1 (by omega)
set_option maxRecDepth 100000 in
set_option maxHeartbeats 4000000 in
theorem k_firstLate {G : GT} {cC : Int → Nat} {E : Int} {X : XX} {vc v : VV} (h : I1 G cC E X vc v) (q lim : Int) (hq : isT v q) : CX mX10_firstLateBehind 1 [(2, 0), (0, q), (0, lim)] X vc (fun o w => w = vc ∧ o = some (0, nbL (aV v) lim q)) := by
  have hM := h.2.1.1.2.1
  obtain ⟨q0, q1, q2⟩ := (h.live q).mp hq
  obtain ⟨o1, o2, o3⟩ := h.hi hq
  obtain ⟨B, I, W, ⟨⟨s1, s2, -, ⟨s3, s4⟩, -⟩, -, hB3, -⟩, -, ⟨⟨k2, k3, k4⟩, k5⟩, -⟩ := (h.tab hq).1
  obtain ⟨m1, -, -, m4, m5, -⟩ := hM q hq.1 hq.2.1
  have h48 : v 48 q = 1 := m1.elim (fun z => absurd z hq.2.2) id
  have e54 : aV v 54 q = v 54 q := aV_n v q (by decide)
  have e55 : ∀ j, aV v 55 j = v 55 j := fun j => aV_n v j (by decide)
  have hbeh : ∀ k, 0 ≤ k → k < v 54 q → isT v (v 55 (3 * q + k)) := fun k i0 i1 => by
    obtain ⟨a1, a2, a3⟩ := m5 k i0 i1
    exact ⟨a1, by have := hq.2.1; omega, by rw [a3 h48]; decide⟩
  have key : ∀ k : Int, (0 ≤ k ∧ k ≤ v 54 q) → (∀ i, 0 ≤ i → i < k → ¬ isL (aV v) lim (v 55 (3 * q + i))) → Ex mX10_firstLateBehind 1 15 [(2, 0), (0, q), (0, lim), (2, X.2 37 q), (0, k), (3, 0)] [] X vc 0 0 (fun o X1 w => X1 = X ∧ w = vc ∧ o = some (0, nbL (aV v) lim q)) := by
    refine loop1 (fun k : Int => (v 54 q - k).toNat) (fun k : Int => (0 ≤ k ∧ k ≤ v 54 q) → (∀ i, 0 ≤ i → i < k → ¬ isL (aV v) lim (v 55 (3 * q + i))) → Ex mX10_firstLateBehind 1 15 [(2, 0), (0, q), (0, lim), (2, X.2 37 q), (0, k), (3, 0)] [] X vc 0 0 (fun o X1 w => X1 = X ∧ w = vc ∧ o = some (0, nbL (aV v) lim q))) (fun k ih => ?_)
    intro hk hno
    refine bX10_firstLateBehind_15 q lim (X.2 37 q) k (Nat.le_refl _) h.1 (fun _ _ _ => ?_)
    rw [s3]
    refine ⟨o2, ⟨by omega, o3⟩, s4.1, s4.2.1, _, k_size h.1 s4, fun r8 w9 hP => ?_⟩
    obtain ⟨rfl, hr⟩ := hP
    obtain rfl : r8 = v 54 q := by rw [k2] at hr; simpa using hr
    refine ⟨fun g => ⟨rfl, rfl, ?_⟩, fun g => ⟨_, k_get h.1 s4 (by rw [k2]; exact k4) k, fun r12 w13 hP => ?_⟩⟩
    · have e : nbL (aV v) lim q = -1 := by
        have hno' : ∀ i, 0 ≤ i → i < v 54 q → ¬ bI (isL (aV v) lim (v 55 (3 * q + i))) = 1 := fun i i0 i1 z => hno i i0 (by omega) (bI_1.mp z)
        unfold nbL
        rw [e54, e55, e55, e55, if_neg (fun z => by have := hno' 0 (Int.le_refl _) z.1; rw [Int.add_zero] at this; exact this z.2), if_neg (fun z => hno' 1 (by decide) z.1 z.2), if_neg (fun z => hno' 2 (by decide) z.1 z.2)]
      rw [e]
    · obtain ⟨rfl, hr12⟩ := hP
      obtain rfl : r12 = v 55 (3 * q + k) := by rw [rGet_in ⟨hk.1, by rw [k2]; exact g⟩, k5 k hk.1 g] at hr12; simpa using hr12
      have hb := hbeh k hk.1 g
      obtain ⟨z0, z1, z2⟩ := (h.live _).mp hb
      obtain ⟨b1, b2, b3⟩ := h.hi hb
      refine ⟨_, k_tableAt h.1 _, fun r16 w17 hP => ?_⟩
      obtain ⟨rfl, hr16⟩ := hP
      obtain rfl : r16 = X.2 37 (v 55 (3 * q + k)) := by rw [if_pos ⟨z0, z1⟩] at hr16; simpa using hr16
      refine ⟨fun g2 => absurd g2 z2, fun _ => ⟨_, k_isBelow h.1 ⟨b2, by omega, b3⟩ lim, fun r20 w21 hP => ?_⟩⟩
      obtain ⟨rfl, hr20⟩ := hP
      have e7 : w21 (X.2 37 (v 55 (3 * q + k))) 7 = (ag v (v 55 (3 * q + k))).2 := (h.tab hb).2.2
      have hiff : (w21 (X.2 37 (v 55 (3 * q + k))) 7 = -1 ∨ w21 (X.2 37 (v 55 (3 * q + k))) 7 < lim) ↔ isL (aV v) lim (v 55 (3 * q + k)) := by
        unfold isL
        rw [e7]
        exact Iff.rfl
      obtain rfl : r20 = bI (isL (aV v) lim (v 55 (3 * q + k))) := by rw [bI_iff hiff] at hr20; simpa using hr20
      refine ⟨fun g3 => ⟨⟨by omega, by omega⟩, ih (k + 1) (by omega) ⟨by omega, by omega⟩ (fun i i0 i1 => ?_)⟩, fun g3 => ⟨_, k_get h.1 s4 (by rw [k2]; exact k4) k, fun r24 w25 hP => ?_⟩⟩
      · by_cases y : i = k
        · rw [y]; exact bI_0.mp g3
        · exact hno i i0 (by omega)
      · obtain ⟨rfl, hr24⟩ := hP
        obtain rfl : r24 = v 55 (3 * q + k) := by rw [rGet_in ⟨hk.1, by rw [k2]; exact g⟩, k5 k hk.1 g] at hr24; simpa using hr24
        refine ⟨rfl, rfl, ?_⟩
        rw [nbL_hit (v := aV v) (by rw [e54]; omega) hk.1 (by rw [e54]; exact g) (by rw [e55]; exact bI_n0.mp g3) (fun i i0 i1 => by rw [e55]; exact hno i i0 i1), e55]
  refine CX.of (by decide +kernel) rfl rfl rfl (bX10_firstLateBehind_0 q lim (Nat.le_refl _) h.1 (fun _ _ => ⟨_, k_tableAt h.1 q, fun r2 w3 hP => ?_⟩))
  obtain ⟨rfl, hr⟩ := hP
  obtain rfl : r2 = X.2 37 q := by rw [if_pos ⟨q0, q1⟩] at hr; simpa using hr
  exact ⟨fun _ => key 0 ⟨Int.le_refl _, m4.1⟩ (fun i i0 i1 => by omega), fun g => absurd g q2⟩
set_option maxRecDepth 100000 in
set_option maxHeartbeats 4000000 in
theorem k_late {G : GT} {cC : Int → Nat} {E : Int} {X : XX} {vc v : VV} (h : I1 G cC E X vc v) (h13 : vc 0 13 = v 47 64) (t : Int) : CX mX10_late 2 [(2, 0), (0, t)] X vc (fun o w => w = vc ∧ ((isT v t ∧ brk v t ∧ o = some (0, ltF (aV v) (v 47 64 - v 57 t) 17 t)) ∨ (¬ (isT v t ∧ brk v t) ∧ o = some (0, -1)))) := by
  have hM := h.2.1.1.2.1
  have h64 := h.2.1.1.1.2.2.2.2
  have hL := h.live t
  have key : ∀ (lim : Int) (f : Nat) (q x4 x6 : Int), isT v q → q.toNat < f → 0 ≤ x6 → x6 + q ≤ 15 → Ex mX10_late 2 39 [(2, 0), (0, t), (2, X.2 37 t), (0, lim), (0, x4), (0, q), (0, x6)] [] X vc 0 0 (fun o X1 w => X1 = X ∧ w = vc ∧ o = some (0, ltF (aV v) lim f q)) := by
    intro lim f
    induction f with
    | zero => intro q x4 x6 _ hf; exact absurd hf (Nat.not_lt_zero _)
    | succ f ih =>
      intro q x4 x6 hq hf hx0 hx
      have hBo : BhO (aV v) q := by
        have hB := (hM q hq.1 hq.2.1).bh
        unfold BhO
        rw [aV_n v q (by decide)]
        exact ⟨hB.1, fun k k0 k1 => by rw [aV_n v _ (by decide)]; exact hB.2 k k0 k1⟩
      refine bX10_late_39 t (X.2 37 t) lim x4 q x6 (Nat.le_refl _) h.1 (fun _ _ _ _ _ => ⟨fun g => ?_, fun g => ⟨fun g2 => ?_, fun g2 => ⟨_, k_firstLate h q lim hq, fun r11 w12 hP => ?_⟩⟩⟩)
      · have := hq.1; omega
      · have := hq.1; omega
      · obtain ⟨rfl, hr⟩ := hP
        obtain rfl : r11 = nbL (aV v) lim q := by simpa using hr
        refine ⟨⟨by omega, by omega⟩, ?_⟩
        by_cases z : nbL (aV v) lim q = -1
        · have e : ltF (aV v) lim (f + 1) q = q := by
            show (if nbL (aV v) lim q = -1 then q else _) = q
            rw [if_pos z]
          rw [e, z]
          exact bX10_late_39 t (X.2 37 t) lim q (-1) (x6 + 1) (Nat.le_refl _) h.1 (fun _ _ _ _ _ => ⟨fun g => ⟨rfl, rfl, rfl⟩, fun g => ⟨fun g2 => ⟨rfl, rfl, rfl⟩, fun g2 => absurd rfl g2⟩⟩)
        · have e : ltF (aV v) lim (f + 1) q = ltF (aV v) lim f (nbL (aV v) lim q) := by
            show (if nbL (aV v) lim q = -1 then q else _) = _
            rw [if_neg z]
          rw [e]
          rcases nbL_bd (lim := lim) hBo with y | ⟨k, k0, k1, y⟩
          · exact absurd y z
          · rw [aV_n v q (by decide)] at k1
            rw [aV_n v _ (by decide)] at y
            obtain ⟨m1, -, -, m4, m5, -⟩ := hM q hq.1 hq.2.1
            have h48 : v 48 q = 1 := m1.elim (fun z => absurd z hq.2.2) id
            obtain ⟨a1, a2, a3⟩ := m5 k k0 k1
            rw [y]
            exact ih _ q (x6 + 1) ⟨a1, by have := hq.2.1; omega, by rw [a3 h48]; decide⟩ (by omega) (by omega) (by omega)
  refine CX.of (by decide +kernel) rfl rfl rfl (bX10_late_0 t (Nat.le_refl _) h.1 (fun _ => ⟨_, k_tableAt h.1 t, fun r2 w3 hP => ?_⟩))
  obtain ⟨rfl, hr⟩ := hP
  by_cases hl : 0 ≤ t ∧ t < 16 ∧ ¬ X.2 37 t = -1
  · obtain rfl : r2 = X.2 37 t := by rw [if_pos ⟨hl.1, hl.2.1⟩] at hr; simpa using hr
    have ht := hL.mpr hl
    obtain ⟨o1, o2, o3⟩ := h.hi ht
    obtain ⟨⟨B, I, W, -, ⟨-, -, p9⟩, -⟩, -⟩ := h.tab ht
    obtain ⟨-, -, -, -, -, -, -, -, m9, -⟩ := hM t ht.1 ht.2.1
    refine ⟨fun g => absurd g hl.2.2, fun _ => ⟨_, k_isBroken h.1 (fun _ => ⟨o2, by omega, o3⟩) (by rw [h13]; exact h64) (fun _ => by rw [p9]; exact m9), fun r6 w7 hP => ?_⟩⟩
    obtain ⟨rfl, hr6⟩ := hP
    obtain rfl : r6 = bI (brk v t) := by rw [bI_iff (brk_iff h h13 (fun _ _ _ => rfl) ht)] at hr6; simpa using hr6
    refine ⟨fun g => ?_, fun g => ⟨rfl, rfl, Or.inr ⟨fun z => bI_0.mp g z.2, rfl⟩⟩⟩
    refine ⟨o2, ⟨by omega, o3⟩, fun _ _ => ⟨by rw [h13, p9]; omega, by rw [h13, p9]; omega⟩, ?_⟩
    have hk := key (w7 0 13 - w7 (X.2 37 t) 9) 17 t t 0 ht (by omega) (Int.le_refl _) (by omega)
    rw [h13, p9] at hk ⊢
    intro G' p l e R s m args below meth c Z hX hR
    exact hk G' p l e R s m args below meth c Z hX (fun o X' v' H locs cells slots pc cls hQ => hR o X' v' H locs cells slots pc cls ⟨hQ.1, hQ.2.1, Or.inl ⟨ht, bI_n0.mp g, hQ.2.2⟩⟩)
  · have hr2 : r2 = -1 := by
      by_cases z : 0 ≤ t ∧ t < 16
      · rw [if_pos z] at hr
        have e : X.2 37 t = -1 := Classical.byContradiction (fun y => hl ⟨z.1, z.2, y⟩)
        rw [e] at hr; simpa using hr
      · rw [if_neg z] at hr; simpa using hr
    exact ⟨fun g => ⟨rfl, rfl, Or.inr ⟨fun z => hl (hL.mp z.1), rfl⟩⟩, fun g => absurd hr2 g⟩
theorem s_late {G : GT} {cC : Int → Nat} {E : Int} {X : XX} {v : VV} (h : I2 G cC E X v (mp v)) (t : Int) : StpOK mX10_late mX11_late 2 2 [(0, t)] E X v := by
  have hMv : MIn G E v := h.1.at rfl
  refine StpOK.cx h.1.1 (k_late h.1 h.2.1.2.2.1 t) (fun o w hp => ?_)
  obtain ⟨rfl, hp⟩ := hp
  have c0 := c_late h.1.1 hMv.1.1 hMv.1.2.1 t
  have fin : ∀ w', Fr S78 w w' → ∃ (G' : GT) (cC' : Int → Nat), I2 G' cC' (E + 10000) X w' (mp w') := fun w' hF => ⟨G, cC, I2.fin h (by omega) (fun r j hr => hF r j (by unfold S78; omega)) hF (fun r j q => by unfold S78 at q; omega)⟩
  rcases hp with ⟨q1, q2, ho⟩ | ⟨hn, ho⟩
  · refine ⟨_, ho, c0.mono (fun o' w' hq => ?_)⟩
    rcases hq with ⟨hF, ⟨-, -, hA, ho'⟩ | ⟨q, -⟩⟩
    · refine ⟨?_, fin w' hF⟩
      have e : ltF w' (w 47 64 - w 57 t) 17 t = ltF (aV (mp w)) (w 47 64 - w 57 t) 17 t := by
        refine ltF_cg (fun s s0 s1 => ?_) (fun s => ?_) (fun j => ?_) (fun s s0 s1 => ?_) 17 t q1.1 q1.2.1
        · have hB := (hMv.1.2.1 s s0 s1).bh
          exact hB
        · exact hF 54 s (by unfold S78; omega)
        · exact hF 55 j (by unfold S78; omega)
        · rw [(hA.1 s s0 s1).2]
          show _ = (ag (mp w) s).2
          rw [ag_mp]
      rw [ho', e]
      rfl
    · exact absurd ⟨q1, (brk_mp w t).mp q2⟩ q
  · refine ⟨_, ho, c0.mono (fun o' w' hq => ?_)⟩
    rcases hq with ⟨hF, ⟨q3, q4, -⟩ | ⟨-, ho'⟩⟩
    · exact absurd ⟨q3, (brk_mp w t).mpr q4⟩ hn
    · exact ⟨ho', fin w' hF⟩
