/-! ===== steps that leave the reference's scratch changed ===== -/
theorem mp_out (u : VV) {r : Int} (j : Int) (h : ¬ (47 ≤ r ∧ r ≤ 86)) : mp u r j = 0 := by
  cases r with
  | ofNat k =>
    show (bif Nat.ble 47 k && Nat.ble k 86 then u (Int.ofNat k) j else 0) = 0
    cases hb : (Nat.ble 47 k && Nat.ble k 86) with
    | false => rfl
    | true =>
      exfalso
      rw [Bool.and_eq_true] at hb
      exact h ⟨Int.ofNat_le.mpr (Nat.le_of_ble_eq_true hb.1), Int.ofNat_le.mpr (Nat.le_of_ble_eq_true hb.2)⟩
  | negSucc k => rfl
theorem Fr.mp {S : Int → Int → Prop} {v w : VV} (h : Fr S v w) : Fr S (mp v) (mp w) := fun r j hn => by
  by_cases z : 47 ≤ r ∧ r ≤ 86
  · rw [mp_in w j z, mp_in v j z]; exact h r j hn
  · rw [mp_out w j z, mp_out v j z]
theorem I2.fin {G : GT} {cC : Int → Nat} {E E' : Int} {X : XX} {w w' V : VV} {S : Int → Int → Prop} (h : I2 G cC E X w (mp V)) (hE : E ≤ E') (hE2 : Ecq w w') (hf : Fr S V w') (hs : ∀ r j, S r j → (69 ≤ r ∧ r ≤ 80) ∨ r = 86) : I2 G cC E' X w' (mp w') := by
  have h0 := h.ecq hE2
  have hm := hf.mp
  have g : ∀ r j : Int, ¬ ((69 ≤ r ∧ r ≤ 80) ∨ r = 86) → mp w' r j = mp V r j := fun r j hn => hm r j (fun q => hn (hs r j q))
  have hc := h0.1.2.1.2.2.1
  refine ⟨h0.1.rs (hm.mono (fun r j hn q => hn (by have := hs r j q; unfold RSc; omega))) (h0.1.2.1.1.1.fr hm (fun j _ q => by have := hs 47 j q; omega)) ⟨?_, ?_, ?_, ?_⟩ ?_, h0.2.cm (fun _ _ _ _ => rfl) (fun r j hr => g r j (by omega))⟩
  · rw [g 47 52 (by omega)]; exact hc.1
  · rw [g 47 65 (by omega)]; exact hc.2.1
  · rw [g 47 50 (by omega)]; exact hc.2.2.1
  · rw [g 47 50 (by omega)]; have := hc.2.2.2; omega
  · have e68 : mp w' 68 = mp V 68 := funext fun j => g 68 j (by omega)
    rw [e68, g 47 22 (by omega)]; exact h0.1.2.1.2.2.2.2.1
/-! ===== run ===== -/
set_option maxRecDepth 100000 in
set_option maxHeartbeats 4000000 in
theorem k_run {G : GT} {cC : Int → Nat} {E : Int} {X : XX} {vc v : VV} (h : I1 G cC E X vc v) (t : Int) : CX mX10_run 3 [(2, 0), (0, t)] X vc (fun o w => (isT v t ∧ v 50 t = 2 ∧ ¬ (agB v (ag v) t).2 = -1 ∧ Fr (SAg X) vc w ∧ I1 G cC E X w (upd2 (upd2 v 58 t (agB v (ag v) t).1) 59 t (agB v (ag v) t).2) ∧ o = some (0, 1)) ∨ (¬ (isT v t ∧ v 50 t = 2 ∧ ¬ (agB v (ag v) t).2 = -1) ∧ w = vc ∧ o = some (0, 0))) := by
  have hL := h.live t
  have hM := h.2.1.1.2.1
  have hb16 := h.2.1.1.1.1.2
  refine CX.of (by decide +kernel) rfl rfl rfl (bX10_run_0 t (Nat.le_refl _) h.1 (fun _ => ⟨_, k_tableAt h.1 t, fun r2 w3 hP => ?_⟩))
  obtain ⟨rfl, hr⟩ := hP
  by_cases hl : 0 ≤ t ∧ t < 16 ∧ ¬ X.2 37 t = -1
  · obtain rfl : r2 = X.2 37 t := by rw [if_pos ⟨hl.1, hl.2.1⟩] at hr; simpa using hr
    have ht := hL.mpr hl
    obtain ⟨o1, o2, o3⟩ := h.hi ht
    obtain ⟨B, I, W, ⟨⟨s1, s2, -, ⟨s3, s4⟩, -⟩, -, hB3, -⟩, ⟨p5, -⟩, ⟨⟨k2, k3, k4⟩, k5⟩, -⟩ := (h.tab ht).1
    obtain ⟨m1, -, -, m4, m5, -, m7, -⟩ := hM t ht.1 ht.2.1
    have h48 : v 48 t = 1 := m1.elim (fun z => absurd z ht.2.2) id
    rw [p5]
    refine ⟨fun g => absurd g hl.2.2, fun _ => ⟨o2, ⟨by omega, o3⟩, fun g2 => ⟨rfl, Or.inr ⟨fun z => g2 z.2.1, rfl, rfl⟩⟩, fun g2 => ?_⟩⟩
    have n1 := m7 (Or.inr g2)
    have hbeh : ∀ k, 0 ≤ k → k < v 54 t → (0 ≤ v 55 (3 * t + k) ∧ v 55 (3 * t + k) < t) ∧ isT v (v 55 (3 * t + k)) := fun k i0 i1 => by
      obtain ⟨a1, a2, a3⟩ := m5 k i0 i1
      exact ⟨⟨a1, a2⟩, a1, by have := ht.2.1; omega, by rw [a3 h48]; decide⟩
    have hst : ∀ k, 0 ≤ k → k < v 54 t → w3 (X.2 37 (v 55 (3 * t + k))) 6 = (ag v (v 55 (3 * t + k))).1 ∧ w3 (X.2 37 (v 55 (3 * t + k))) 7 = (ag v (v 55 (3 * t + k))).2 := fun k i0 i1 => (h.tab (hbeh k i0 i1).2).2
    have hagL : agL (fun s => (w3 (X.2 37 s) 6, w3 (X.2 37 s) 7)) (fun k => v 55 (3 * t + k)) (w3 (X.2 37 t + 2) 1).toNat = agL (ag v) (fun k => v 55 (3 * t + k)) (v 54 t).toNat := by
      rw [k2]
      refine agL_congr _ (fun i i0 i1 => ?_)
      have := hst i i0 (by omega)
      show (w3 (X.2 37 (v 55 (3 * t + i))) 6, w3 (X.2 37 (v 55 (3 * t + i))) 7) = ag v (v 55 (3 * t + i))
      rw [this.1, this.2]
    have hok : ∀ k, 0 ≤ k → k < v 54 t → AgO (ag v (v 55 (3 * t + k))) := fun k i0 i1 => ag_ok hb16 hM 17 _ (hbeh k i0 i1).1.1 (hbeh k i0 i1).2.2.1 (by have := (hbeh k i0 i1).1; have := hl.2.1; omega)
    refine ⟨_, k_takeAge (fr := fun k => v 55 (3 * t + k)) h.1 h.2.2.2.1.obj ⟨o2, by omega, o3⟩ s3 s4 ⟨by omega, by omega⟩ hB3 (fun k i0 i1 => ?_), fun r7 w8 hP => ?_⟩
    · rw [k2] at i1
      obtain ⟨⟨a1, a2⟩, a3⟩ := hbeh k i0 i1
      have a4 := hst k i0 i1
      refine ⟨k5 k i0 i1, ⟨a1, by omega⟩, ((h.live _).mp a3).2.2, ?_⟩
      show AgO (w3 (X.2 37 (v 55 (3 * t + k))) 6, w3 (X.2 37 (v 55 (3 * t + k))) 7)
      rw [a4.1, a4.2]
      exact hok k i0 i1
    · rcases hP with ⟨q1, rfl, ho⟩ | ⟨q, q1, -, rfl, ho⟩
      · have hz : (agB v (ag v) t).2 = -1 := by
          rcases q1 with q1 | q1
          · rw [hagL] at q1; unfold agB; rw [q1]; rfl
          · rw [k2] at q1; omega
        obtain rfl : r7 = 0 := by simpa using ho
        exact ⟨fun g3 => absurd rfl g3, fun _ => ⟨rfl, Or.inr ⟨fun z => z.2.2 hz, rfl, rfl⟩⟩⟩
      · rw [hagL] at q1
        have hq : agB v (ag v) t = q := by unfold agB; rw [q1]; rfl
        obtain ⟨h8, h9⟩ := agL_ok _ (fun k i0 i1 => hok k i0 (by omega)) q q1
        have h9' := h9 (by omega)
        obtain rfl : r7 = 1 := by simpa using ho
        unfold AgO at h8
        refine ⟨fun _ => ⟨_, k_settleI h ht (by omega) ⟨by omega, by omega, by omega⟩, fun w12 hP => ?_⟩, fun g3 => absurd g3 (by decide)⟩
        rw [hq]
        exact ⟨rfl, Or.inl ⟨ht, g2, h9', hP.1, hP.2, rfl⟩⟩
  · have hr2 : r2 = -1 := by
      by_cases z : 0 ≤ t ∧ t < 16
      · rw [if_pos z] at hr
        have e : X.2 37 t = -1 := Classical.byContradiction (fun y => hl ⟨z.1, z.2, y⟩)
        rw [e] at hr; simpa using hr
      · rw [if_neg z] at hr; simpa using hr
    exact ⟨fun g => ⟨rfl, Or.inr ⟨fun z => hl (hL.mp z.1), rfl, rfl⟩⟩, fun g => absurd hr2 g⟩
theorem ag_mp (v : VV) (t : Int) : ag (mp v) t = ag v t := ag_sm (fun r j hr => mp_in v j (by omega)) t
theorem agB_sm {v V : VV} (h : ∀ r j : Int, (r = 50 ∨ r = 54 ∨ r = 55 ∨ r = 58 ∨ r = 59) → V r j = v r j) (t : Int) : agB V (ag V) t = agB v (ag v) t := by
  have e : ag V = ag v := funext (ag_sm h)
  have e55 : (fun k => V 55 (3 * t + k)) = (fun k => v 55 (3 * t + k)) := funext fun k => h 55 _ (by omega)
  unfold agB
  rw [e, e55, h 54 _ (by omega)]
theorem s_run {G : GT} {cC : Int → Nat} {E : Int} {X : XX} {v : VV} (h : I2 G cC E X v (mp v)) (t : Int) : StpOK mX10_run mX11_run 3 2 [(0, t)] E X v := by
  obtain ⟨h1, hs⟩ := id h
  have hMv : MIn G E v := h1.at rfl
  refine StpOK.cx h.1.1 (k_run h1 t) (fun o w hp => ?_)
  have eA : agB (mp v) (ag (mp v)) t = agB v (ag v) t := agB_sm (fun r j hr => mp_in v j (by omega)) t
  rw [eA] at hp
  rcases hp with ⟨ht, h50, hg, hf, hI, ho⟩ | ⟨hn, rfl, ho⟩
  · have em : mp w = mp v := hf.emq (fun r j q => by have := SAg.hi h1 q; omega)
    have ev : ∀ r j : Int, r < 87 → w r j = v r j := fun r j hr => hf r j (fun q => by have := SAg.hi h1 q; omega)
    have hMw := h1.at em
    have eB : agB w (ag w) t = agB v (ag v) t := agB_sm (fun r j hr => ev r j (by omega)) t
    refine ⟨1, ho, (c_run h1.1 hMw.1.1 hMw.1.2.1 t).mono (fun o' w' hq => ?_)⟩
    rw [eB] at hq
    rcases hq with ⟨-, -, -, hF, ho'⟩ | ⟨q, -⟩
    · refine ⟨ho', G, cC, ?_⟩
      have hI2 : I2 G cC E X w (mp (upd2 (upd2 w 58 t (agB v (ag v) t).1) 59 t (agB v (ag v) t).2)) := by
        rw [mp_upd ⟨by decide, by decide⟩, mp_upd ⟨by decide, by decide⟩, em]
        exact ⟨hI, hs.cm (fun r j _ q => ev r j (by omega)) (fun r j q => by rw [upd2_n _ (by omega), upd2_n _ (by omega)])⟩
      have hEc : Ecq w w' := fun r j hr => by
        rw [hF r j (by unfold S78; omega), upd2_n _ (by omega), upd2_n _ (by omega)]
      exact I2.fin hI2 (by omega) hEc hF (fun r j q => by unfold S78 at q; omega)
    · refine absurd ⟨?_, ?_, hg⟩ q
      · unfold isT; rw [ev 47 0 (by decide), ev 48 t (by decide)]; exact ht
      · rw [ev 50 t (by decide)]; exact h50
  · refine ⟨0, ho, (c_run h1.1 hMv.1.1 hMv.1.2.1 t).mono (fun o' w' hq => ?_)⟩
    rcases hq with ⟨q1, q2, q3, -⟩ | ⟨-, hF, ho'⟩
    · exact absurd ⟨q1, q2, q3⟩ hn
    · exact ⟨ho', G, cC, I2.fin h (by omega) (fun r j hr => hF r j (by unfold S78; omega)) hF (fun r j q => by unfold S78 at q; omega)⟩
