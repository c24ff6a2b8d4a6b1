/-! ===== steps: fault, end, today, found, type, promise, own ===== -/
theorem s_fault {G : GT} {cC : Int → Nat} {E : Int} {X : XX} {v : VV} (h : I2 G cC E X v (mp v)) (a : Int) : StpOK mX10_fault mX11_fault 0 0 [(0, a)] E X v := by
  refine StpOK.cx h.1.1 (k_fault h.1.1 a) (fun o w hp => ?_)
  obtain ⟨rfl, ho⟩ := hp
  refine ⟨_, ho, (c_fault h.1.1 a).mono (fun o' w' hq => ?_)⟩
  obtain ⟨rfl, ho'⟩ := hq
  refine ⟨?_, G, cC, h.mono (by omega)⟩
  obtain ⟨-, ⟨-, -, -, s4, s5⟩, -⟩ := h
  have e4 : w' 47 27 = w' 0 14 := s4.symm
  have e5 : w' 47 28 = w' 0 15 := s5.symm
  rw [ho', e4, e5]
theorem Ecq.up {v w : VV} {r j x : Int} (h : Ecq v w) (hr : 47 ≤ r ∧ r ≤ 86) : Ecq v (upd2 w r j x) := fun a c ha => by
  rw [upd2_n _ (fun q => by omega)]; exact h a c ha
theorem Ecq.rf (v : VV) : Ecq v v := fun _ _ _ => rfl
theorem s_end {G : GT} {cC : Int → Nat} {E : Int} {X : XX} {v : VV} (h : I2 G cC E X v (mp v)) (a : Int) : StpOK mX10_end mX11_end 1 0 [(0, a)] E X v := by
  obtain ⟨h1, hs⟩ := id h
  obtain ⟨s1, ⟨s2, s3⟩, s4, s5, s6⟩ := hs
  refine StpOK.cx h.1.1 (k_end h1.1 a) (fun o w hp => ?_)
  obtain ⟨hw, ho⟩ := hp
  have e22 : v 1 1 = v 47 22 := s2
  by_cases hc : 0 ≤ a ∧ a ≤ v 1 1
  · rw [if_pos hc] at hw ho
    have hf : Fr (fun r j => r = 1 ∧ j = 1) v w := by
      rw [hw]
      by_cases z : a < v 1 1
      · rw [if_pos z]; exact Fr.rf.up ⟨rfl, rfl⟩
      · rw [if_neg z]; exact Fr.rf
    have h11 : w 1 1 = a := by
      rw [hw]
      by_cases z : a < v 1 1
      · rw [if_pos z, upd2_s]
      · rw [if_neg z]; omega
    have em : mp w = mp v := hf.emq (fun r j q => by omega)
    have hM := h1.at em
    have e47 : w 47 22 = v 1 1 := (hf 47 22 (by omega)).trans e22.symm
    refine ⟨1, ho, (c_end h1.1 a).mono (fun o' w' hq => ?_)⟩
    obtain ⟨hw', ho'⟩ := hq
    rw [e47, if_pos hc] at hw' ho'
    refine ⟨ho', G, cC, ?_⟩
    subst hw'
    rw [mp_upd ⟨by decide, by decide⟩, em]
    have hMv := h1.2.1
    obtain ⟨b1, b2, b3, b4, b5⟩ := hMv.1.1
    have hT := hMv.2.2.2.2.1
    have hI : I2 G cC (E + 10000) X w (upd2 (mp v) 47 22 a) := by
      refine ⟨(h1.c (hf.mono (fun r j q => fun z => q (by unfold Scr; omega)))).rs (Fr.rf.up (by unfold RSc; omega)) ⟨?_, ?_, ?_, ?_, ?_⟩ ?_ ?_, ?_⟩
      · rw [upd2_n _ (by omega)]; exact b1
      · rw [upd2_s]; have e : mp v 47 22 = v 1 1 := e22.symm; omega
      · rw [upd2_n _ (by omega)]; exact b3
      · rw [upd2_n _ (by omega)]; exact b4
      · rw [upd2_n _ (by omega)]; exact b5
      · obtain ⟨c1, c2, c3, c4⟩ := hMv.2.2.1
        rw [upd2_n _ (by omega), upd2_n _ (by omega), upd2_n _ (by omega)]
        exact ⟨c1, c2, c3, by omega⟩
      · have e68 : upd2 (mp v) 47 22 a 68 = mp v 68 := funext fun j => upd2_n _ (by omega)
        rw [e68, upd2_s]
        have e : mp v 47 22 = v 1 1 := e22.symm
        exact ⟨⟨hc.1, by have := hT.1; omega⟩, fun i i0 i1 => hT.2 i i0 (by omega)⟩
      · have g : ∀ r j : Int, ¬ (r = 1 ∧ j = 1) → w r j = v r j := hf
        have u : ∀ r j : Int, ¬ (r = 47 ∧ j = 22) → upd2 (mp v) 47 22 a r j = mp v r j := fun r j hh => upd2_n _ hh
        refine ⟨?_, ⟨by rw [h11, upd2_s], fun i i0 i1 => ?_⟩, ?_, ?_, ?_⟩
        · rw [g 0 11 (by omega), g 0 12 (by omega), g 0 13 (by omega), g 0 14 (by omega), g 0 15 (by omega), u 47 0 (by omega), u 47 59 (by omega), u 47 64 (by omega), u 47 27 (by omega), u 47 28 (by omega)]; exact s1
        · rw [upd2_s] at i1
          rw [g 2 i (by omega), u 68 i (by omega)]
          have e : mp v 47 22 = v 1 1 := e22.symm
          exact s3 i i0 (by omega)
        · rw [g 43 1 (by omega), u 47 57 (by omega)]
          exact ⟨s4.1, s4.2.1, fun i i0 i1 => by rw [g 44 i (by omega), u 81 i (by omega)]; exact s4.2.2 i i0 i1⟩
        · rw [g 6 1 (by omega), g 8 1 (by omega), g 10 1 (by omega), g 13 1 (by omega), g 15 1 (by omega), g 45 1 (by omega)]; exact s5
        · exact s6.eq (fun r j hr => g r j (by omega))
    exact hI.ecq ((Ecq.rf w).up ⟨by decide, by decide⟩)
  · rw [if_neg hc] at hw ho
    subst hw
    refine ⟨0, ho, (c_end h1.1 a).mono (fun o' w' hq => ?_)⟩
    obtain ⟨hw', ho'⟩ := hq
    have e47 : w 47 22 = w 1 1 := e22.symm
    rw [e47, if_neg hc] at hw' ho'
    subst hw'
    exact ⟨ho', G, cC, h.mono (by omega)⟩
theorem s_today {G : GT} {cC : Int → Nat} {E : Int} {X : XX} {v : VV} (h : I2 G cC E X v (mp v)) (a : Int) : StpOK mX10_today mX11_today 0 0 [(0, a)] E X v := by
  obtain ⟨h1, hs⟩ := id h
  obtain ⟨⟨t1, t2, t3, t4, t5⟩, ⟨s2, s3⟩, s4, s5, s6⟩ := hs
  refine StpOK.cx h.1.1 (k_today h1.1 a) (fun o w hp => ?_)
  obtain ⟨hw, ho⟩ := hp
  have e64 : v 47 64 = v 0 13 := t3.symm
  by_cases hc : v 0 13 ≤ a ∧ a ≤ 30000
  · rw [if_pos hc] at hw ho
    subst hw
    have em : mp (upd2 v 0 13 a) = mp v := (Fr.rf.up (S := fun r j => r = 0 ∧ j = 13) ⟨rfl, rfl⟩).emq (fun r j q => by omega)
    have e47 : upd2 v 0 13 a 47 64 = v 0 13 := (upd2_n _ (by omega)).trans e64
    refine ⟨1, ho, (c_today h1.1 a).mono (fun o' w' hq => ?_)⟩
    obtain ⟨hw', ho'⟩ := hq
    rw [e47, if_pos hc] at hw' ho'
    refine ⟨ho', G, cC, ?_⟩
    subst hw'
    rw [mp_upd ⟨by decide, by decide⟩, em]
    obtain ⟨b1, b2, b3, b4, b5⟩ := h1.2.1.1.1
    have hT := h1.2.1.2.2.2.2.1
    have u : ∀ r j : Int, ¬ (r = 47 ∧ j = 64) → upd2 (mp v) 47 64 a r j = mp v r j := fun r j hh => upd2_n _ hh
    have g : ∀ r j : Int, ¬ (r = 0 ∧ j = 13) → upd2 v 0 13 a r j = v r j := fun r j hh => upd2_n _ hh
    have hI : I2 G cC (E + 10000) X (upd2 v 0 13 a) (upd2 (mp v) 47 64 a) := by
      have hk : I1 G cC E X (upd2 v 0 13 a) (mp v) := by
        obtain ⟨q1, q2, q3, q4, q5⟩ := h1
        have hO := q4.obj
        have hK := q4.col
        refine ⟨q1, q2, q3.cw (fun t z0 z1 hl => ?_), q4.c (fun r j q => g r j (by omega)), q5.c (fun a' j _ _ q _ => g _ j (by omega))⟩
        have o1 := (hO t z0 z1).elim (fun z => absurd z hl) (fun z => z.2)
        have o2 := (hK t z0 z1).elim (fun z => absurd z hl) (fun z => z.1.2)
        exact ⟨g _ _ (by omega), fun c _ _ => ⟨g _ _ (by omega), g _ _ (by omega)⟩⟩
      refine ⟨hk.rs (Fr.rf.up (by unfold RSc; omega)) ⟨?_, ?_, ?_, ?_, ?_⟩ ?_ ?_, ?_⟩
      · rw [u 47 0 (by omega)]; exact b1
      · rw [u 47 22 (by omega)]; exact b2
      · rw [u 47 57 (by omega)]; exact b3
      · rw [u 47 59 (by omega)]; exact b4
      · rw [upd2_s]; have e : mp v 47 64 = v 0 13 := e64; omega
      · obtain ⟨c1, c2, c3, c4⟩ := h1.2.1.2.2.1
        rw [u 47 52 (by omega), u 47 65 (by omega), u 47 50 (by omega)]
        exact ⟨c1, c2, c3, by omega⟩
      · have e68 : upd2 (mp v) 47 64 a 68 = mp v 68 := funext fun j => upd2_n _ (by omega)
        rw [e68, u 47 22 (by omega)]; exact hT
      · refine ⟨⟨?_, ?_, ?_, ?_, ?_⟩, ⟨?_, fun i i0 i1 => ?_⟩, ⟨?_, ?_, fun i i0 i1 => ?_⟩, ?_, ?_⟩
        · rw [g 0 11 (by omega), u 47 0 (by omega)]; exact t1
        · rw [g 0 12 (by omega), u 47 59 (by omega)]; exact t2
        · rw [upd2_s, upd2_s]
        · rw [g 0 14 (by omega), u 47 27 (by omega)]; exact t4
        · rw [g 0 15 (by omega), u 47 28 (by omega)]; exact t5
        · rw [g 1 1 (by omega), u 47 22 (by omega)]; exact s2
        · rw [u 47 22 (by omega)] at i1
          rw [g 2 i (by omega), u 68 i (by omega)]; exact s3 i i0 i1
        · rw [g 43 1 (by omega), u 47 57 (by omega)]; exact s4.1
        · rw [g 43 1 (by omega)]; exact s4.2.1
        · rw [u 47 57 (by omega)] at i1
          rw [g 44 i (by omega), u 81 i (by omega)]; exact s4.2.2 i i0 i1
        · rw [g 6 1 (by omega), g 8 1 (by omega), g 10 1 (by omega), g 13 1 (by omega), g 15 1 (by omega), g 45 1 (by omega)]; exact s5
        · exact s6.eq (fun r j hr => g r j (by omega))
    exact hI.ecq ((Ecq.rf _).up ⟨by decide, by decide⟩)
  · rw [if_neg hc] at hw ho
    subst hw
    refine ⟨0, ho, (c_today h1.1 a).mono (fun o' w' hq => ?_)⟩
    obtain ⟨hw', ho'⟩ := hq
    rw [e64, if_neg hc] at hw' ho'
    subst hw'
    exact ⟨ho', G, cC, h.mono (by omega)⟩
set_option maxRecDepth 100000 in
set_option maxHeartbeats 4000000 in
theorem k_found {X : XX} {v : VV} (hW : SW X) (h : v 43 1 ≤ 128) (a : Int) : CX mX10_found 1 [(2, 0), (0, a)] X v (fun o v1 => v1 = v ∧ o = some (0, rGet v 43 44 a)) := by
  refine CX.of (by decide +kernel) rfl rfl rfl (bX10_found_0 a (Nat.le_refl _) hW (fun _ => ⟨_, k_get hW (rowS43 hW) h a, fun r2 w3 hP => ?_⟩))
  obtain ⟨rfl, hr⟩ := hP
  obtain rfl : r2 = rGet w3 43 44 a := by simpa using hr
  exact ⟨rfl, rfl, rfl⟩
theorem s_found {G : GT} {cC : Int → Nat} {E : Int} {X : XX} {v : VV} (h : I2 G cC E X v (mp v)) (a : Int) : StpOK mX10_found mX11_found 1 0 [(0, a)] E X v := by
  have s4 := h.2.2.2.1
  refine StpOK.cx h.1.1 (k_found h.1.1 s4.2.1 a) (fun o w hp => ?_)
  obtain ⟨rfl, ho⟩ := hp
  have hM := h.1.2.1
  refine ⟨_, ho, (c_found h.1.1 (show MB w from hM.1.1) a).mono (fun o' w' hq => ?_)⟩
  obtain ⟨rfl, ho'⟩ := hq
  refine ⟨?_, G, cC, h.mono (by omega)⟩
  have e57 : w' 43 1 = w' 47 57 := s4.1
  rw [ho']
  by_cases z : 0 ≤ a ∧ a < w' 47 57
  · rw [if_pos z, rGet_in (by rw [e57]; exact z)]
    have : w' 44 a = w' 81 a := s4.2.2 a z.1 z.2
    rw [this]
  · rw [if_neg z, rGet_out (by rw [e57]; exact z)]
theorem s_type {G : GT} {cC : Int → Nat} {E : Int} {X : XX} {v : VV} (h : I2 G cC E X v (mp v)) (a c : Int) : StpOK mX10_type mX11_type 2 2 [(0, a), (0, c)] E X v := by
  have hT := h.1.2.2.2.1
  refine StpOK.cx h.1.1 (k_type h.1.1 hT.obj hT.col a c) (fun o w hp => ?_)
  obtain ⟨rfl, ho⟩ := hp
  have hM := h.1.2.1
  have hC := h.1.cols a c
  have c0 : CX mX11_type 2 [(2, 47), (0, a), (0, c)] X w _ := c_type h.1.1 (show w 47 0 ≤ 16 from hM.1.1.1.2) (fun t t0 t1 => by
    obtain ⟨-, -, m3, -⟩ := hM.1.2.1 t t0 t1
    exact m3.2) a c
  rcases ho with ⟨z, ho⟩ | ⟨z, ho⟩
  · refine ⟨_, ho, c0.mono (fun o' w' hq => ?_)⟩
    obtain ⟨rfl, q⟩ := hq
    refine ⟨?_, G, cC, h.mono (by omega)⟩
    have hlk := (h.1.2.2.1.2 a z.1.1 z.1.2.1).2 z.1.2.2
    have e : w' 38 (8 * a + c) = w' 53 (8 * a + c) := (hlk.2.2 c z.2.1 z.2.2).2
    rcases q with ⟨-, q⟩ | ⟨q, -⟩
    · rw [q, e]
    · exact absurd (hC.mpr z) q
  · refine ⟨_, ho, c0.mono (fun o' w' hq => ?_)⟩
    obtain ⟨rfl, q⟩ := hq
    refine ⟨?_, G, cC, h.mono (by omega)⟩
    rcases q with ⟨q, -⟩ | ⟨-, q⟩
    · exact absurd (hC.mp q) z
    · exact q
