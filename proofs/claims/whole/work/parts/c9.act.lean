/-! ===== act ===== -/
/-- behind the class's act -/
def ActP (X : XX) (v vm : VV) (cC : Int → Nat) (b : Int → Int) (n : Int) (o : Option AV) (Y : XX) (w : VV) : Prop := (∃ (V : VV) (k p : Int), o = some (0, -1) ∧ Y = X ∧ w = upd2 (upd2 V 0 14 k) 0 15 p ∧ Fr SAc v V ∧ V 1 1 = 0 ∧ (∃ N, TOK b n N V) ∧ DSz V ∧ V 15 1 = v 15 1 ∧ RfC X v cC b n k p) ∨ (∃ (N : Int) (w0 w1 : VV) (ct : Int → Int) (C B I : Nat), ((rStmt b n).1 = true ∧ Fr SAc v w0 ∧ Fr SAc v w1) ∧ (w1 1 1 = 0 ∧ TOK b n N w1 ∧ DSz w1) ∧ (CkO X w0 cC b n w1 ∧ w1 32 1 = 0 ∧ v 0 11 < 16) ∧ (DrS b n N vm w0 w1 ∨ DrV X cC b n N vm w0 w1) ∧ DrU b n N ct C B I vm w1 ∧ AddR X (upd2 (upd2 w1 0 14 0) 0 15 (-1)) b n N ct (vm 47 0) C B I (vst vm (vm 47 0) (sK b n) C B (w1 24)) o Y w)
set_option maxRecDepth 100000 in
set_option maxHeartbeats 4000000 in
theorem k_actC {G : GT} {cC : Int → Nat} {E : Int} {X : XX} {v vm : VV} {b : Int → Int} {n : Int} (h : I2 G cC E X v vm) (hb : vm 68 = b) (hn : vm 47 22 = n) : Con mX10_act 13 13 1246 [(2, 0)] X v (fun o Y w => ActP X v vm cC b n o Y w) := by
  obtain ⟨h1, ⟨t1, -, -, -, -⟩, ⟨s2, s3⟩, -, ⟨z1, z2, z3, z4, z5, -⟩, hd, hτ⟩ := id h
  have hTX := h1.2.1.2.2.2.2.1
  rw [hb, hn] at hTX
  rw [hn] at s2 s3
  rw [hb] at s3
  refine Con.of (by decide +kernel) (fun a ha => by rw [List.mem_singleton.mp ha]; exact Nat.le_of_ble_eq_true rfl) (Nat.le_of_ble_eq_true rfl) ?_
  show Ex mX10_act 13 0 [(2, 0), (3, 0)] [] X v 13 1246 _
  refine k_act h1.1 hTX s2 s3 ⟨z1, z2, z3, z4⟩ hd h1.2.2.2.1.obj h1.2.2.2.1.col hτ (fun V k p f t hN hd1 h15 hRf => Or.inl ⟨V, k, p, rfl, rfl, rfl, f, t, hN, hd1, h15, hRf⟩) (fun N w0 w1 hs f0 f1 w11 hT hd1 h15 hCk h0 h11 => ?_)
  have hDr := draft_ok h1 hτ hT hs f0 hCk h0
  obtain ⟨ct, C, B, I, hDU⟩ : ∃ (ct : Int → Int) (C B I : Nat), DrU b n N ct C B I vm w1 := by
    rcases hDr with ⟨-, C, -, -, -, z, -⟩ | ⟨-, C, B, -, z, -⟩
    · exact ⟨_, C, 0, 0, z⟩
    · exact ⟨_, C, B, _, z⟩
  have hu : ∀ r j : Int, ¬ r = 0 → upd2 (upd2 w1 0 14 0) 0 15 (-1) r j = w1 r j := fun r j hr => by rw [upd2_n _ (by omega), upd2_n _ (by omega)]
  have hu0 : upd2 (upd2 w1 0 14 0) 0 15 (-1) 0 11 = vm 47 0 := by rw [upd2_n _ (by omega), upd2_n _ (by omega), f1 0 11 (by unfold SAc; omega)]; exact t1
  obtain ⟨u1, ⟨u2, u3⟩, u4, ⟨u5, u6, u7, u8⟩, ⟨u9, u10⟩, ⟨u11, u12, u13⟩, u14, u15, u16, u17, u18⟩ := id hDU
  have hsk := sK_bd b n
  have hfu : Fr (fun r _ => r = 0) w1 (upd2 (upd2 w1 0 14 0) 0 15 (-1)) := fun r j q => hu r j q
  have e46 : upd2 (upd2 w1 0 14 0) 0 15 (-1) 4 6 = sK b n := (hu 4 6 (by decide)).trans u15
  have e24 : upd2 (upd2 w1 0 14 0) 0 15 (-1) 24 = w1 24 := funext fun j => hu 24 j (by decide)
  have hAT := k_addTable (u := upd2 (upd2 w1 0 14 0) 0 15 (-1)) (b := b) (n := n) (N := N) (ct := ct) (C := C) (B := B) (I := I) h1 (fun r j hr => (hu r j (by omega)).trans (f1 r j (by unfold SAc; omega))) hu0 (by omega) (hT.fr hfu (fun r j q => by unfold TOs at q; omega)) u1 ((hu 4 7 (by decide)).trans u2) ((hu 4 8 (by decide)).trans u3) u4 ((hu 17 1 (by decide)).trans u5) u6 (fun i i0 i1 => (hu 18 i (by decide)).trans (u7 i i0 i1)) u8 ((hu 23 1 (by decide)).trans u9) u10 ((hu 28 1 (by decide)).trans u11) ((hu 30 1 (by decide)).trans u12) u13 (by rw [hu 15 1 (by decide), h15]; exact z5) ((hu 19 1 (by decide)).trans u14) (by rw [e46]; exact hsk) (fun z => u16 (e46.symm.trans z)) (fun z => u17 (fun y => z (e46.trans y))) (fun k k0 k1 => by rw [e24]; exact u18 k k0 k1)
  rw [e46, e24] at hAT
  exact ⟨13, 1246, Nat.le_refl _, Nat.le_refl _, _, hAT, fun r18 Y w hP => ⟨hP.2.1, Or.inr ⟨N, w0, w1, ct, C, B, I, ⟨hs, f0, f1⟩, ⟨w11, hT, hd1⟩, ⟨hCk, h0, h11⟩, hDr, hDU, hP⟩⟩⟩
set_option maxHeartbeats 2000000 in
theorem s_act {G : GT} {cC : Int → Nat} {E : Int} {X : XX} {v : VV} (h : I2 G cC E X v (mp v)) (hE : E ≤ 1600000000) : StpOK mX10_act mX11_act 13 7 [] E X v := by
  obtain ⟨h1, ⟨t1, t2, t3, t4, t5⟩, ⟨s2, s3⟩, ⟨s4, s4', s4''⟩, ⟨z1, z2, z3, z4, z5, z6⟩, hd, hτ⟩ := id h
  have h87 := h1.1.1
  have hTX : TX (v 68) (v 47 22) := h1.2.1.2.2.2.2.1
  obtain ⟨⟨⟨b1, b2, b3, b4, b5⟩, hM, -⟩, -, ⟨c1, c2, c3, c4⟩, -, -, hokN, -⟩ := id h1.2.1
  have b1' : 0 ≤ v 47 0 ∧ v 47 0 ≤ 16 := b1
  have t1' : v 0 11 = v 47 0 := t1
  refine ⟨13, 1246, Nat.le_refl _, Nat.le_refl _, _, k_actC (b := v 68) (n := v 47 22) h rfl rfl, fun o Y w hp => ?_⟩
  rcases hp with ⟨V, k, p, rfl, rfl, hw, fV, w11, ⟨N, hN⟩, hd1, h15, hRf⟩ | ⟨N, w0, w1, ct, C, B, I, ⟨hs, f0, f1⟩, ⟨w11, hTk, hd1⟩, ⟨hCk, h0, h11⟩, hDr, hDU, ho, hSW, Y6, w5, w9, hTb, hY, h9, h911, h38, hSA, hAg⟩
  · -- refused
    have gw : ∀ r j : Int, ¬ (r = 0 ∧ (j = 14 ∨ j = 15)) → w r j = V r j := fun r j q => by rw [hw, upd2_n _ (by omega), upd2_n _ (by omega)]
    have gv : ∀ r j : Int, ¬ (1 ≤ r ∧ r ≤ 34) → ¬ (r = 0 ∧ (j = 14 ∨ j = 15)) → w r j = v r j := fun r j q1 q2 => (gw r j q2).trans (fV r j q1)
    have e14 : w 0 14 = k := by rw [hw, upd2_n _ (by omega), upd2_s]
    have e15 : w 0 15 = p := by rw [hw, upd2_s]
    have em : mp w = mp v := Emq.mp (fun r j r0 r1 => gv r j (by omega) (by omega))
    have hMw := h1.at em
    obtain ⟨⟨hbw, hMw2, -⟩, hWw, ⟨x52, -, x50, x50'⟩, -, hTw, -⟩ := id hMw
    have e68 : w 68 = v 68 := funext fun j => gv 68 j (by omega) (by omega)
    have e22 : w 47 22 = v 47 22 := gv 47 22 (by omega) (by omega)
    have e0 : w 47 0 = v 47 0 := gv 47 0 (by omega) (by omega)
    have hw1 : I1 G cC E Y v w := by
      have hh := h1; rw [← em] at hh; exact hh.mpw
    have hIa : MIa w := ⟨hbw, hWw, x52, fun q q0 q1 => by
      obtain ⟨-, -, m3, -⟩ := hMw2 q q0 q1
      exact ⟨by omega, m3.2⟩, hTw⟩
    refine ⟨-1, rfl, h1.1, (c_act2 (T := v 47 0) (b := v 68) (n := v 47 22) h1.1 hIa e0 e68.symm e22 ⟨x50, by omega⟩).mono (fun o' w' hq => ?_)⟩
    obtain ⟨V', fV', v22, v52, v50, hAV, hAF⟩ := hq
    obtain ⟨k25, k26, kn⟩ := act_refused hTX h1.2.2.2.1.obj h1.2.2.2.1.col hw1.2.2.1 hτ e0 t1' b1'.2 hAV.one hRf
    rcases hAF with ⟨z, -⟩ | ⟨-, ho', hw'⟩
    · exact absurd (k25.symm.trans z) kn
    refine ⟨ho', G, cC, ?_⟩
    have fP : Fr (AcS (v 47 0)) w w' := by
      rw [hw']
      exact (fV'.up (by unfold AcS; omega)).up (by unfold AcS; omega)
    have gP : ∀ r j : Int, ¬ AcS (v 47 0) r j → w' r j = w r j := fP
    have p22 : w' 47 22 = 0 := by rw [hw', upd2_n _ (by omega), upd2_n _ (by omega)]; exact v22
    have p52 : w' 47 52 = 0 := by rw [hw', upd2_n _ (by omega), upd2_n _ (by omega)]; exact v52
    have p50 : w' 47 50 = V' 47 50 := by rw [hw', upd2_n _ (by omega), upd2_n _ (by omega)]
    have p27 : w' 47 27 = k := by rw [hw', upd2_n _ (by omega), upd2_s]; exact k25
    have p28 : w' 47 28 = p := by rw [hw', upd2_s]; exact k26
    have hI := ((hw1.lo (w := w) (fun r j hr => gv r j (by omega) (by omega))).rf e0 fP p22 p52 (by omega)).wmp
    refine I2.ecq ⟨hI, ?_⟩ (Ecq.fr fP (fun r j q => by unfold AcS at q; omega))
    obtain ⟨⟨n1, n2, n3⟩, -, -, n4, -⟩ := hN.2.2
    have n0 := hN.2.1.1
    have tx := hN.1.1.1
    refine ⟨⟨?_, ?_, ?_, ?_, ?_⟩, ⟨?_, fun i i0 i1 => ?_⟩, ⟨?_, ?_, fun i i0 i1 => ?_⟩, ⟨?_, ?_, ?_, ?_, ?_, ?_⟩, ?_⟩
    · show w 0 11 = w' 47 0
      rw [gv 0 11 (by omega) (by omega), gP 47 0 (by unfold AcS; omega), e0]; exact t1'
    · show w 0 12 = w' 47 59
      rw [gv 0 12 (by omega) (by omega), gP 47 59 (by unfold AcS; omega), gv 47 59 (by omega) (by omega)]; exact t2
    · show w 0 13 = w' 47 64
      rw [gv 0 13 (by omega) (by omega), gP 47 64 (by unfold AcS; omega), gv 47 64 (by omega) (by omega)]; exact t3
    · show w 0 14 = w' 47 27
      rw [e14, p27]
    · show w 0 15 = w' 47 28
      rw [e15, p28]
    · show w 1 1 = w' 47 22
      rw [gw 1 1 (by omega), w11, p22]
    · have i1' : i < w' 47 22 := i1
      rw [p22] at i1'; omega
    · show w 43 1 = w' 47 57
      rw [gv 43 1 (by omega) (by omega), gP 47 57 (by unfold AcS; omega), gv 47 57 (by omega) (by omega)]; exact s4
    · rw [gv 43 1 (by omega) (by omega)]; exact s4'
    · have i1' : i < w' 47 57 := i1
      rw [gP 47 57 (by unfold AcS; omega), gv 47 57 (by omega) (by omega)] at i1'
      show w 44 i = w' 81 i
      rw [gv 44 i (by omega) (by omega), gP 81 i (by unfold AcS; omega), gv 81 i (by omega) (by omega)]; exact s4'' i i0 i1'
    · rw [gw 6 1 (by omega)]; omega
    · rw [gw 8 1 (by omega)]; omega
    · rw [gw 10 1 (by omega)]; omega
    · rw [gw 13 1 (by omega)]; omega
    · rw [gw 15 1 (by omega), h15]; exact z5
    · rw [gv 45 1 (by omega) (by omega)]; exact z6
    · exact ⟨hd1.of (fun r hr => Or.inl (gw r 1 (by omega))), fun j j0 j1 => by rw [gv 38 j (by omega) (by omega)]; exact hτ j j0 j1⟩
  · -- taken
    have hT0 : mp v 47 0 = v 47 0 := rfl
    rw [hT0] at ho hY h9 h911 h38 hAg
    have hu : ∀ r j : Int, ¬ r = 0 → upd2 (upd2 w1 0 14 0) 0 15 (-1) r j = w1 r j := fun r j hr => by rw [upd2_n _ (by omega), upd2_n _ (by omega)]
    have hTab : ∀ t, 0 ≤ t → t < 16 → ¬ X.2 37 t = -1 → 87 ≤ X.2 37 t := fun t q0 q1 z => by
      obtain ⟨B', I', W', ⟨⟨y1, y2⟩, -⟩, -⟩ := (h1.2.2.2.1.1 t q0 q1 z).1.sh
      exact y1
    have hGr : GrX X Y 37 (fun j => j = v 47 0) := by rw [hY]; exact AddR.gr h87 hTb
    have e37 : ∀ t, ¬ t = v 47 0 → Y.2 37 t = X.2 37 t := fun t ht => (hGr.2 37 (by decide) (by omega)).2 t (fun z => ht z.2)
    have e37T : Y.2 37 (v 47 0) = X.1.1 := by rw [hY]; exact upd2_s _ _ _ _
    have hlow : ∀ r j : Int, r < 87 → w r j = w9 r j := fun r j r0 => hSA r j (fun ⟨⟨t, q0, q1, q2, e⟩, hj⟩ => by
      by_cases z : t = v 47 0
      · rw [z, e37T] at e; omega
      · rw [e37 t z] at q2 e
        have := hTab t q0 q1 q2
        omega)
    obtain ⟨-, -, -, -, -, ⟨Wl, -, -, ⟨-, w15⟩, -⟩, q13⟩ := id hTb
    have g5 : ∀ r j : Int, r < 87 → ¬ r = 15 → ¬ r = 16 → w5 r j = upd2 (upd2 w1 0 14 0) 0 15 (-1) r j := fun r j y1 y2 y3 => by rw [q13 r j (by omega), nV_n X _ (by omega)]
    have gw : ∀ r j : Int, r < 87 → ¬ r = 15 → ¬ r = 16 → ¬ r = 38 → ¬ r = 0 → w r j = w1 r j := fun r j y1 y2 y3 y4 y5 => by rw [hlow r j y1, h9 r j (by omega) (by omega), g5 r j y1 y2 y3]; exact hu r j y5
    have gv : ∀ r j : Int, r < 87 → ¬ (1 ≤ r ∧ r ≤ 34) → ¬ r = 38 → ¬ r = 0 → w r j = v r j := fun r j y1 y2 y3 y4 => (gw r j y1 (by omega) (by omega) y3 y4).trans (f1 r j y2)
    have g0 : ∀ j : Int, ¬ j = 11 → ¬ j = 14 → ¬ j = 15 → w 0 j = v 0 j := fun j y1 y2 y3 => by
      rw [hlow 0 j (by decide), h9 0 j (by omega) (by omega), g5 0 j (by decide) (by decide) (by decide), upd2_n _ (by omega), upd2_n _ (by omega)]
      exact f1 0 j (by unfold SAc; omega)
    have em : mp w = mp v := Emq.mp (fun r j r0 r1 => gv r j (by omega) (by omega) (by omega) (by omega))
    have hMw := h1.at em
    obtain ⟨⟨hbw, hMw2, -⟩, hWw, ⟨x52, -, x50, x50'⟩, -, hTw, -⟩ := id hMw
    have e68 : w 68 = v 68 := funext fun j => gv 68 j (by omega) (by omega) (by omega) (by omega)
    have e22 : w 47 22 = v 47 22 := gv 47 22 (by omega) (by omega) (by omega) (by omega)
    have e0 : w 47 0 = v 47 0 := gv 47 0 (by omega) (by omega) (by omega) (by omega)
    have hw1 : I1 G cC E X v w := by
      have hh := h1; rw [← em] at hh; exact hh.mpw
    have hIa : MIa w := ⟨hbw, hWw, x52, fun q q0 q1 => by
      obtain ⟨-, -, m3, -⟩ := hMw2 q q0 q1
      exact ⟨by omega, m3.2⟩, hTw⟩
    have hT16 : v 47 0 < 16 := by omega
    have eisT : ∀ t, isT w t ↔ isT (mp v) t := fun t => by rw [← em]; exact Iff.rfl
    have hDU' : DrU (v 68) (v 47 22) N ct C B I w w1 := by
      obtain ⟨u1, u2, u3, u4, u5, u6, u7, u8, u9, u10, u11⟩ := hDU
      exact ⟨u1, u2, u3, u4, u5, u6, u7, u8, u9, u10, fun k k0 k1 => (eisT _).mpr (u11 k k0 k1)⟩
    have hDr' : DrS (v 68) (v 47 22) N w w0 w1 ∨ DrV X cC (v 68) (v 47 22) N w w0 w1 := by
      have cv : ∀ {ct : Int → Int} {C B I : Nat}, DrU (v 68) (v 47 22) N ct C B I (mp v) w1 → DrU (v 68) (v 47 22) N ct C B I w w1 := fun hq => by
        obtain ⟨u1, u2, u3, u4, u5, u6, u7, u8, u9, u10, u11⟩ := hq
        exact ⟨u1, u2, u3, u4, u5, u6, u7, u8, u9, u10, fun k k0 k1 => (eisT _).mpr (u11 k k0 k1)⟩
      rcases hDr with ⟨y0, C, y1, y2, y3, y4, y5, y6⟩ | ⟨y0, C, B, y1, y2, y3, y4, y5⟩
      · exact Or.inl ⟨y0, C, y1, y2, y3, cv y4, y5, y6⟩
      · exact Or.inr ⟨y0, C, B, y1, cv y2, y3, y4, y5⟩
    refine ⟨v 47 0, ho, hSW, (c_act2 (T := v 47 0) (b := v 68) (n := v 47 22) hSW hIa e0 e68.symm e22 ⟨x50, by omega⟩).mono (fun o' w' hq => ?_)⟩
    obtain ⟨V, fV, v22, v52, v50, hAV, hAF⟩ := hq
    obtain ⟨k25, k26, W, A, fW, hRd, hA0, hK, hA, hMe, fVW, h53⟩ := act_taken2 hTX h1.2.2.2.1.obj h1.2.2.2.1.col hw1.2.2.1 hτ e0 hT16 hAV hs f0 hCk h0
    rcases hAF with ⟨-, ho', hw'⟩ | ⟨z, -⟩
    · have hA400 := hK.2.2.2.2
      have hNA : (rStmt (v 68) (v 47 22)).2 = N := tok_N hTk hs (by omega)
      have eA : A = N := by rw [← hA, hNA]
      obtain ⟨ct', C', B', I', hNw⟩ := nw_all hw1 hTX hτ e0 hs f0 hDr' fW hRd hA0 hK hA hMe fVW h53 k25
      rw [eA] at hNw
      obtain ⟨⟨eC, eB, eI⟩, hct⟩ := hDU'.one hNw.1
      subst eC
      subst eB
      subst eI
      have evst : vst (mp v) (v 47 0) (sK (v 68) (v 47 22)) C' B' (w1 24) = vst (mp w) (v 47 0) (sK (v 68) (v 47 22)) C' B' (w1 24) := by rw [em]
      have hP : ∀ r j : Int, ¬ (r = 47 ∧ (j = 0 ∨ j = 27 ∨ j = 28)) → ¬ ((r = 48 ∨ (56 ≤ r ∧ r ≤ 59)) ∧ j = v 47 0) → w' r j = V r j := fun r j y1 y2 => by
        rw [hw', upd2_n _ (by omega), upd2_n _ (by omega), upd2_n _ (by omega), upd2_n _ (by omega), upd2_n _ (by omega), upd2_n _ (by omega), upd2_n _ (by omega), upd2_n _ (by omega)]
      have eV0 : V 47 0 = v 47 0 := (fV 47 0 (by unfold AcS; omega)).trans e0
      have p0 : w' 47 0 = v 47 0 + 1 := by
        rw [hw', upd2_s, eV0]
      have p48 : w' 48 (v 47 0) = 1 := by
        rw [hw', upd2_n _ (by omega), upd2_n _ (by omega), upd2_n _ (by omega), upd2_n _ (by omega), upd2_n _ (by omega), upd2_s]
      have p56 : ∀ r : Int, 56 ≤ r → r ≤ 59 → w' r (v 47 0) = -1 := fun r r0 r1 => by
        have hr : r = 56 ∨ r = 57 ∨ r = 58 ∨ r = 59 := by omega
        rw [hw']
        rcases hr with rfl | rfl | rfl | rfl
        · rw [upd2_n _ (by omega), upd2_n _ (by omega), upd2_n _ (by omega), upd2_n _ (by omega), upd2_s]
        · rw [upd2_n _ (by omega), upd2_n _ (by omega), upd2_n _ (by omega), upd2_s]
        · rw [upd2_n _ (by omega), upd2_n _ (by omega), upd2_s]
        · rw [upd2_n _ (by omega), upd2_s]
      have p27 : w' 47 27 = 0 := by
        rw [hw', upd2_n _ (by omega), upd2_n _ (by omega), upd2_n _ (by omega), upd2_n _ (by omega), upd2_n _ (by omega), upd2_n _ (by omega), upd2_n _ (by omega), upd2_s]; exact k25
      have p28 : w' 47 28 = -1 := by
        rw [hw', upd2_n _ (by omega), upd2_n _ (by omega), upd2_n _ (by omega), upd2_n _ (by omega), upd2_n _ (by omega), upd2_n _ (by omega), upd2_s]; exact k26
      have hAg' : ∀ t, 0 ≤ t → t < 16 → ¬ Y.2 37 t = -1 → w (Y.2 37 t) 6 = (ag (vst w (v 47 0) (sK (v 68) (v 47 22)) C' B' (w1 24)) t).1 ∧ w (Y.2 37 t) 7 = (ag (vst w (v 47 0) (sK (v 68) (v 47 22)) C' B' (w1 24)) t).2 := fun t q0 q1 q2 => by
        have ea : ag (vst (mp v) (v 47 0) (sK (v 68) (v 47 22)) C' B' (w1 24)) t = ag (vst w (v 47 0) (sK (v 68) (v 47 22)) C' B' (w1 24)) t := by
          rw [← em]
          refine ag_sm (fun r j hr => ?_) t
          unfold vst
          rw [mp_in w j (by omega)]
        rw [← ea]
        exact hAg t q0 q1 q2
      have hI := I1.act (P := w') (vS := vst w (v 47 0) (sK (v 68) (v 47 22)) C' B' (w1 24)) hw1 e0 hT16 hTX f1 hs hNA hNw hct fV v22 v52 v50 hu rfl hTb hY hSW h9 h38 hSA hAg' hP p0 p48 p56
      have gP : ∀ r j : Int, ¬ AcS (v 47 0) r j → ¬ (r = 47 ∧ (j = 0 ∨ j = 27 ∨ j = 28)) → ¬ ((r = 48 ∨ (56 ≤ r ∧ r ≤ 59)) ∧ j = v 47 0) → w' r j = w r j := fun r j y1 y2 y3 => (hP r j y2 y3).trans (fV r j y1)
      refine ⟨ho', _, _, I2.ecq ⟨hI.wmp, ?_⟩ (fun r j hr => gP r j (by unfold AcS; omega) (by omega) (by omega))⟩
      obtain ⟨⟨n1, n2, n3⟩, -, -, n4, -⟩ := hTk.2.2
      have n0 := hTk.2.1.1
      have tx := hTk.1.1.1
      have p22 : w' 47 22 = 0 := (hP 47 22 (by omega) (by omega)).trans v22
      refine ⟨⟨?_, ?_, ?_, ?_, ?_⟩, ⟨?_, fun i i0 i1 => ?_⟩, ⟨?_, ?_, fun i i0 i1 => ?_⟩, ⟨?_, ?_, ?_, ?_, ?_, ?_⟩, ?_⟩
      · show w 0 11 = w' 47 0
        rw [hlow 0 11 (by decide), h911, p0]
      · show w 0 12 = w' 47 59
        rw [g0 12 (by decide) (by decide) (by decide), gP 47 59 (by unfold AcS; omega) (by omega) (by omega), gv 47 59 (by omega) (by omega) (by omega) (by omega)]; exact t2
      · show w 0 13 = w' 47 64
        rw [g0 13 (by decide) (by decide) (by decide), gP 47 64 (by unfold AcS; omega) (by omega) (by omega), gv 47 64 (by omega) (by omega) (by omega) (by omega)]; exact t3
      · show w 0 14 = w' 47 27
        rw [hlow 0 14 (by decide), h9 0 14 (by omega) (by omega), g5 0 14 (by decide) (by decide) (by decide), upd2_n _ (by omega), upd2_s, p27]
      · show w 0 15 = w' 47 28
        rw [hlow 0 15 (by decide), h9 0 15 (by omega) (by omega), g5 0 15 (by decide) (by decide) (by decide), upd2_s, p28]
      · show w 1 1 = w' 47 22
        rw [gw 1 1 (by omega) (by omega) (by omega) (by omega) (by omega), w11, p22]
      · have i1' : i < w' 47 22 := i1
        rw [p22] at i1'; omega
      · show w 43 1 = w' 47 57
        rw [gv 43 1 (by omega) (by omega) (by omega) (by omega), gP 47 57 (by unfold AcS; omega) (by omega) (by omega), gv 47 57 (by omega) (by omega) (by omega) (by omega)]; exact s4
      · rw [gv 43 1 (by omega) (by omega) (by omega) (by omega)]; exact s4'
      · have i1' : i < w' 47 57 := i1
        rw [gP 47 57 (by unfold AcS; omega) (by omega) (by omega), gv 47 57 (by omega) (by omega) (by omega) (by omega)] at i1'
        show w 44 i = w' 81 i
        rw [gv 44 i (by omega) (by omega) (by omega) (by omega), gP 81 i (by unfold AcS; omega) (by omega) (by omega), gv 81 i (by omega) (by omega) (by omega) (by omega)]; exact s4'' i i0 i1'
      · rw [gw 6 1 (by omega) (by omega) (by omega) (by omega) (by omega)]; omega
      · rw [gw 8 1 (by omega) (by omega) (by omega) (by omega) (by omega)]; omega
      · rw [gw 10 1 (by omega) (by omega) (by omega) (by omega) (by omega)]; omega
      · rw [gw 13 1 (by omega) (by omega) (by omega) (by omega) (by omega)]; omega
      · rw [hlow 15 1 (by decide), h9 15 1 (by omega) (by omega)]; exact w15
      · rw [gv 45 1 (by omega) (by omega) (by omega) (by omega)]; exact z6
      · refine ⟨hd1.of (fun r hr => Or.inl (gw r 1 (by omega) (by omega) (by omega) (by omega) (by omega))), fun j j0 j1 => ?_⟩
        rw [hlow 38 j (by decide)]
        by_cases hj : 8 * v 47 0 ≤ j ∧ j < 8 * v 47 0 + C'
        · have ec := h38 (j - 8 * v 47 0) (by omega) (by omega)
          rw [show 8 * v 47 0 + (j - 8 * v 47 0) = j by omega] at ec
          rw [ec, hu 20 _ (by decide)]
          obtain ⟨-, y2, y3⟩ := hNw.2.2.1 (j - 8 * v 47 0) (by omega) (by omega)
          rw [← y2]
          exact Or.inr y3
        · rw [h9 38 j (by omega) (by omega), g5 38 j (by decide) (by decide) (by decide), hu 38 j (by decide), f1 38 j (by unfold SAc; omega)]
          exact hτ j j0 j1
    · exact absurd k25 z
