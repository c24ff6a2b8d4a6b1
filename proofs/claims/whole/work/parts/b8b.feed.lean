/-- byte i of five numbers -/
noncomputable def fb (a1 a2 a3 a4 a5 i : Int) : Int := if i < 4 then byt a1 i else if i < 8 then byt a2 (i - 4) else if i < 12 then byt a3 (i - 8) else if i < 16 then byt a4 (i - 12) else byt a5 (i - 16)
theorem fb_bd (a1 a2 a3 a4 a5 i : Int) : 0 ≤ fb a1 a2 a3 a4 a5 i ∧ fb a1 a2 a3 a4 a5 i ≤ 255 := by
  unfold fb
  split
  · exact byt_bd _ _
  split
  · exact byt_bd _ _
  split
  · exact byt_bd _ _
  split
  · exact byt_bd _ _
  · exact byt_bd _ _
set_option maxRecDepth 100000 in
set_option maxHeartbeats 4000000 in
theorem k_feed {X : XX} {v : VV} (hW : SW X) (h0 : 0 ≤ v 1 1 ∧ v 1 1 ≤ 400) (a1 a2 a3 a4 a5 : Int) : CX mX10_feed 2 [(2, 0), (0, a1), (0, a2), (0, a3), (0, a4), (0, a5)] X v (fun o w => (v 1 1 ≤ 380 ∧ o = some (0, v 1 1 + 20) ∧ Fr (fun r j => r = 2 ∨ (r = 1 ∧ j = 1)) v w ∧ w 1 1 = v 1 1 + 20 ∧ ∀ i, w 2 i = if v 1 1 ≤ i ∧ i < v 1 1 + 20 then fb a1 a2 a3 a4 a5 (i - v 1 1) else v 2 i) ∨ (¬ v 1 1 ≤ 380 ∧ o = some (0, -1) ∧ w = v)) := by
  refine CX.of (by decide +kernel) rfl rfl rfl (bX10_feed_0 a1 a2 a3 a4 a5 (Nat.le_refl _) hW (fun _ _ _ _ _ => ⟨_, k_size hW (rowS1 hW), fun r2 w3 hP => ?_⟩))
  obtain ⟨rfl, hr⟩ := hP
  obtain rfl : r2 = w3 1 1 := by simpa using hr
  refine ⟨fun _ => ⟨by omega, by omega⟩, fun g => ?_, fun g => ⟨rfl, Or.inr ⟨by omega, rfl, rfl⟩⟩⟩
  refine ⟨_, k_putBytes hW ⟨by omega, by omega⟩ a1, fun w7 hP7 => ?_⟩
  obtain ⟨-, f7, e7, c7⟩ := hP7
  refine ⟨_, k_putBytes hW ⟨by omega, by omega⟩ a2, fun w11 hP11 => ?_⟩
  obtain ⟨-, f11, e11, c11⟩ := hP11
  refine ⟨_, k_putBytes hW ⟨by omega, by omega⟩ a3, fun w15 hP15 => ?_⟩
  obtain ⟨-, f15, e15, c15⟩ := hP15
  refine ⟨_, k_putBytes hW ⟨by omega, by omega⟩ a4, fun w19 hP19 => ?_⟩
  obtain ⟨-, f19, e19, c19⟩ := hP19
  refine ⟨_, k_putBytes hW ⟨by omega, by omega⟩ a5, fun w23 hP23 => ?_⟩
  obtain ⟨-, f23, e23, c23⟩ := hP23
  refine ⟨_, k_size hW (rowS1 hW), fun r26 w27 hP27 => ?_⟩
  obtain ⟨rfl, hr27⟩ := hP27
  obtain rfl : r26 = w27 1 1 := by simpa using hr27
  refine ⟨rfl, Or.inl ⟨by omega, by rw [show w27 1 1 = w3 1 1 + 20 by omega], fun r j q => by rw [f23 r j q, f19 r j q, f15 r j q, f11 r j q, f7 r j q], by omega, fun i => ?_⟩⟩
  rw [c23 i, c19 i, c15 i, c11 i, c7 i, e19, e15, e11, e7]
  unfold fb
  by_cases y : w3 1 1 ≤ i ∧ i < w3 1 1 + 20
  · rw [if_pos y]
    by_cases y1 : i < w3 1 1 + 4
    · rw [if_neg (by omega), if_neg (by omega), if_neg (by omega), if_neg (by omega), if_pos (by omega), if_pos (by omega)]
    rw [if_neg (show ¬ i - w3 1 1 < 4 by omega)]
    by_cases y2 : i < w3 1 1 + 8
    · rw [if_neg (by omega), if_neg (by omega), if_neg (by omega), if_pos (by omega), if_pos (by omega)]
      exact congrArg _ (by omega)
    rw [if_neg (show ¬ i - w3 1 1 < 8 by omega)]
    by_cases y3 : i < w3 1 1 + 12
    · rw [if_neg (by omega), if_neg (by omega), if_pos (by omega), if_pos (by omega)]
      exact congrArg _ (by omega)
    rw [if_neg (show ¬ i - w3 1 1 < 12 by omega)]
    by_cases y4 : i < w3 1 1 + 16
    · rw [if_neg (by omega), if_pos (by omega), if_pos (by omega)]
      exact congrArg _ (by omega)
    rw [if_neg (show ¬ i - w3 1 1 < 16 by omega), if_pos (by omega)]
    exact congrArg _ (by omega)
  · rw [if_neg y, if_neg (by omega), if_neg (by omega), if_neg (by omega), if_neg (by omega), if_neg (by omega)]
set_option maxRecDepth 100000 in
set_option maxHeartbeats 4000000 in
theorem c_feed {X : XX} {v : VV} (hW : SW X) (h0 : 0 ≤ v 47 22 ∧ v 47 22 ≤ 400) (a1 a2 a3 a4 a5 : Int) : CX mX11_feed 0 [(2, 47), (0, a1), (0, a2), (0, a3), (0, a4), (0, a5)] X v (fun o w => (v 47 22 ≤ 380 ∧ o = some (0, v 47 22 + 20) ∧ Fr (fun r j => r = 68 ∨ (r = 47 ∧ j = 22)) v w ∧ w 47 22 = v 47 22 + 20 ∧ ∀ i, w 68 i = if v 47 22 ≤ i ∧ i < v 47 22 + 20 then fb a1 a2 a3 a4 a5 (i - v 47 22) else v 68 i) ∨ (¬ v 47 22 ≤ 380 ∧ o = some (0, -1) ∧ w = v)) := by
  have key : ∀ (m : Int) (V : VV), (0 ≤ m ∧ m ≤ 20) → v 47 22 ≤ 380 → Fr (fun r j => r = 68 ∨ (r = 47 ∧ j = 22)) v V → V 47 22 = v 47 22 + m → (∀ i, V 68 i = if v 47 22 ≤ i ∧ i < v 47 22 + m then fb a1 a2 a3 a4 a5 (i - v 47 22) else v 68 i) → Ex mX11_feed 0 18 [(2, 47), (0, a1), (0, a2), (0, a3), (0, a4), (0, a5), (0, m), (3, 0)] [] X V 0 0 (fun o X1 w => X1 = X ∧ ((v 47 22 ≤ 380 ∧ o = some (0, v 47 22 + 20) ∧ Fr (fun r j => r = 68 ∨ (r = 47 ∧ j = 22)) v w ∧ w 47 22 = v 47 22 + 20 ∧ ∀ i, w 68 i = if v 47 22 ≤ i ∧ i < v 47 22 + 20 then fb a1 a2 a3 a4 a5 (i - v 47 22) else v 68 i) ∨ (¬ v 47 22 ≤ 380 ∧ o = some (0, -1) ∧ w = v))) := by
    refine loop2 (fun (m : Int) (_ : VV) => (20 - m).toNat) (fun (m : Int) (V : VV) => (0 ≤ m ∧ m ≤ 20) → v 47 22 ≤ 380 → Fr (fun r j => r = 68 ∨ (r = 47 ∧ j = 22)) v V → V 47 22 = v 47 22 + m → (∀ i, V 68 i = if v 47 22 ≤ i ∧ i < v 47 22 + m then fb a1 a2 a3 a4 a5 (i - v 47 22) else v 68 i) → Ex mX11_feed 0 18 [(2, 47), (0, a1), (0, a2), (0, a3), (0, a4), (0, a5), (0, m), (3, 0)] [] X V 0 0 (fun o X1 w => X1 = X ∧ ((v 47 22 ≤ 380 ∧ o = some (0, v 47 22 + 20) ∧ Fr (fun r j => r = 68 ∨ (r = 47 ∧ j = 22)) v w ∧ w 47 22 = v 47 22 + 20 ∧ ∀ i, w 68 i = if v 47 22 ≤ i ∧ i < v 47 22 + 20 then fb a1 a2 a3 a4 a5 (i - v 47 22) else v 68 i) ∨ (¬ v 47 22 ≤ 380 ∧ o = some (0, -1) ∧ w = v)))) (fun m V ih => ?_)
    intro hm hn hf h1 h2
    have go : m < 20 → ∀ z : Int, z = fb a1 a2 a3 a4 a5 m → (0 ≤ V 47 22 ∧ V 47 22 < 400) ∧ (i32 (V 47 22) → i32 (V 47 22 + 1)) ∧ i32 (m + 1) ∧ Ex mX11_feed 0 18 [(2, 47), (0, a1), (0, a2), (0, a3), (0, a4), (0, a5), (0, m + 1), (3, 0)] [] X (upd2 (upd2 V 68 (V 47 22) z) 47 22 (V 47 22 + 1)) 0 0 (fun o X1 w => X1 = X ∧ ((v 47 22 ≤ 380 ∧ o = some (0, v 47 22 + 20) ∧ Fr (fun r j => r = 68 ∨ (r = 47 ∧ j = 22)) v w ∧ w 47 22 = v 47 22 + 20 ∧ ∀ i, w 68 i = if v 47 22 ≤ i ∧ i < v 47 22 + 20 then fb a1 a2 a3 a4 a5 (i - v 47 22) else v 68 i) ∨ (¬ v 47 22 ≤ 380 ∧ o = some (0, -1) ∧ w = v))) := fun hm2 z hz => by
      refine ⟨⟨by omega, by omega⟩, fun _ => ⟨by omega, by omega⟩, ⟨by omega, by omega⟩, ih (m + 1) _ (by omega) ⟨by omega, by omega⟩ hn ((hf.up (Or.inl rfl)).up (Or.inr ⟨rfl, rfl⟩)) (by rw [upd2_s]; omega) (fun i => ?_)⟩
      rw [upd2_n _ (by omega)]
      by_cases y : i = v 47 22 + m
      · rw [h1, y, upd2_s, if_pos (by omega), hz, show v 47 22 + m - v 47 22 = m by omega]
      · rw [upd2_n _ (by omega), h2 i]
        by_cases x : v 47 22 ≤ i ∧ i < v 47 22 + m
        · rw [if_pos x, if_pos (by omega)]
        · rw [if_neg x, if_neg (by omega)]
    have bt : ∀ {a z1 z2 : Int}, 0 ≤ m → Int32.ofInt a >>> (Int32.ofInt (8 * (3 - m % 4)) &&& 31) = Int32.ofInt z1 → Int32.ofInt z1 &&& Int32.ofInt 255 = Int32.ofInt z2 → i32 z2 → z2 = byt a (m % 4) := fun h e1 e2 i2 => bytR ⟨by omega, by omega⟩ e1 e2 i2
    refine bX11_feed_18 a1 a2 a3 a4 a5 m (Nat.le_refl _) hW (fun _ _ _ _ _ _ => ⟨fun g => ?_, fun g => ⟨fun g1 => ⟨fun g2 => ⟨fun g3 => ⟨fun g4 => ?_, fun g4 => ?_⟩, fun g3 => ?_⟩, fun g2 => ?_⟩, fun g1 => ?_⟩⟩)
    · obtain rfl : m = 20 := by omega
      exact ⟨rfl, Or.inl ⟨hn, by rw [h1], hf, h1, h2⟩⟩
    · refine ⟨hm.1, fun _ => ⟨by omega, by omega⟩, fun _ => ⟨by omega, by omega⟩, fun z1 e1 _ z2 e2 i2 => go g z2 ?_⟩
      rw [bt hm.1 e1 e2 i2]
      unfold fb
      rw [if_neg (by omega), if_neg (by omega), if_neg (by omega), if_neg (by omega)]
      exact congrArg _ (by omega)
    · refine ⟨hm.1, fun _ => ⟨by omega, by omega⟩, fun _ => ⟨by omega, by omega⟩, fun z1 e1 _ z2 e2 i2 => go g z2 ?_⟩
      rw [bt hm.1 e1 e2 i2]
      unfold fb
      rw [if_neg (by omega), if_neg (by omega), if_neg (by omega), if_pos (by omega)]
      exact congrArg _ (by omega)
    · refine ⟨hm.1, fun _ => ⟨by omega, by omega⟩, fun _ => ⟨by omega, by omega⟩, fun z1 e1 _ z2 e2 i2 => go g z2 ?_⟩
      rw [bt hm.1 e1 e2 i2]
      unfold fb
      rw [if_neg (by omega), if_neg (by omega), if_pos (by omega)]
      exact congrArg _ (by omega)
    · refine ⟨hm.1, fun _ => ⟨by omega, by omega⟩, fun _ => ⟨by omega, by omega⟩, fun z1 e1 _ z2 e2 i2 => go g z2 ?_⟩
      rw [bt hm.1 e1 e2 i2]
      unfold fb
      rw [if_neg (by omega), if_pos (by omega)]
      exact congrArg _ (by omega)
    · refine ⟨hm.1, fun _ => ⟨by omega, by omega⟩, fun _ => ⟨by omega, by omega⟩, fun z1 e1 _ z2 e2 i2 => go g z2 ?_⟩
      rw [bt hm.1 e1 e2 i2]
      unfold fb
      rw [if_pos (by omega)]
      exact congrArg _ (by omega)
  refine CX.of (by decide +kernel) rfl rfl rfl (bX11_feed_0 a1 a2 a3 a4 a5 (Nat.le_refl _) hW (fun _ _ _ _ _ => ⟨fun _ => ⟨by omega, by omega⟩, fun g => ?_, fun g => ⟨rfl, Or.inr ⟨by omega, rfl, rfl⟩⟩⟩))
  exact key 0 v ⟨by decide, by decide⟩ (by omega) Fr.rf (by omega) (fun i => by rw [if_neg (by omega)])
theorem s_feed {G : GT} {cC : Int → Nat} {E : Int} {X : XX} {v : VV} (h : I2 G cC E X v (mp v)) (a1 a2 a3 a4 a5 : Int) : StpOK mX10_feed mX11_feed 2 0 [(0, a1), (0, a2), (0, a3), (0, a4), (0, a5)] E X v := by
  obtain ⟨h1, hs⟩ := id h
  obtain ⟨s1, ⟨s2, s3⟩, s4, s5, s6⟩ := hs
  have e22 : v 1 1 = v 47 22 := s2
  obtain ⟨⟨⟨b1, b2, b3, b4, b5⟩, -⟩, -, ⟨c1, c2, c3, c4⟩, -, hT, -⟩ := id h1.2.1
  have hT0 : 0 ≤ v 47 22 ∧ v 47 22 ≤ 400 := hT.1
  refine StpOK.cx h.1.1 (k_feed h1.1 ⟨by omega, by omega⟩ a1 a2 a3 a4 a5) (fun o w hp => ?_)
  rcases hp with ⟨hc, ho, hf, h11, h2⟩ | ⟨hc, ho, rfl⟩
  · have em : mp w = mp v := hf.emq (fun r j q => by omega)
    have e47 : w 47 22 = v 1 1 := (hf 47 22 (by omega)).trans e22.symm
    refine ⟨_, ho, (c_feed h1.1 (by rw [e47]; omega) a1 a2 a3 a4 a5).mono (fun o' w' hq => ?_)⟩
    rcases hq with ⟨-, ho', hf', h22, h68⟩ | ⟨hc', -⟩
    · rw [e47] at ho' h22 h68
      refine ⟨ho', G, cC, ?_⟩
      have u : ∀ r j : Int, ¬ (r = 68 ∨ (r = 47 ∧ j = 22)) → mp w' r j = mp v r j := fun r j q => (hf'.mp r j q).trans (congrFun (congrFun em r) j)
      have g : ∀ r j : Int, ¬ (r = 2 ∨ (r = 1 ∧ j = 1)) → w r j = v r j := hf
      have m22 : mp w' 47 22 = v 1 1 + 20 := h22
      have m68 : ∀ i, mp w' 68 i = if v 1 1 ≤ i ∧ i < v 1 1 + 20 then fb a1 a2 a3 a4 a5 (i - v 1 1) else w 68 i := h68
      refine I2.ecq ⟨(h1.c (hf.mono (fun r j q => fun z => q (by unfold Scr; omega)))).rs (v := mp v) (fun r j q => u r j (by unfold RSc at q; omega)) ⟨?_, ?_, ?_, ?_, ?_⟩ ?_ ?_, ?_⟩ (Ecq.fr hf' (fun r j q => by omega))
      · rw [u 47 0 (by omega)]; exact b1
      · rw [m22]; omega
      · rw [u 47 57 (by omega)]; exact b3
      · rw [u 47 59 (by omega)]; exact b4
      · rw [u 47 64 (by omega)]; exact b5
      · rw [u 47 52 (by omega), u 47 65 (by omega), u 47 50 (by omega)]
        exact ⟨c1, c2, c3, by omega⟩
      · rw [m22]
        refine ⟨⟨by omega, by omega⟩, fun i i0 i1 => ?_⟩
        rw [m68]
        by_cases y : v 1 1 ≤ i ∧ i < v 1 1 + 20
        · rw [if_pos y]; exact fb_bd _ _ _ _ _ _
        · rw [if_neg y, g 68 i (by omega)]
          exact hT.2 i i0 (by show i < v 47 22; omega)
      · refine ⟨?_, ⟨by rw [h11, m22], fun i i0 i1 => ?_⟩, ?_, ?_, ?_⟩
        · rw [g 0 11 (by omega), g 0 12 (by omega), g 0 13 (by omega), g 0 14 (by omega), g 0 15 (by omega), u 47 0 (by omega), u 47 59 (by omega), u 47 64 (by omega), u 47 27 (by omega), u 47 28 (by omega)]; exact s1
        · rw [m22] at i1
          rw [h2 i, m68]
          by_cases y : v 1 1 ≤ i ∧ i < v 1 1 + 20
          · rw [if_pos y, if_pos y]
          · rw [if_neg y, if_neg y, g 68 i (by omega)]
            exact s3 i i0 (by show i < v 47 22; omega)
        · rw [g 43 1 (by omega), u 47 57 (by omega)]
          exact ⟨s4.1, s4.2.1, fun i i0 i1 => by rw [g 44 i (by omega), u 81 i (by omega)]; exact s4.2.2 i i0 i1⟩
        · rw [g 6 1 (by omega), g 8 1 (by omega), g 10 1 (by omega), g 13 1 (by omega), g 15 1 (by omega), g 45 1 (by omega)]; exact s5
        · exact s6.eq (fun r j hr => g r j (by omega))
    · exact absurd hc (by rw [e47] at hc'; exact hc')
  · refine ⟨_, ho, (c_feed h1.1 hT0 a1 a2 a3 a4 a5).mono (fun o' w' hq => ?_)⟩
    rcases hq with ⟨hc', -⟩ | ⟨-, ho', rfl⟩
    · exact absurd (by omega) hc
    · exact ⟨ho', G, cC, h.mono (by omega)⟩
