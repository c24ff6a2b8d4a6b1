/-! ===== ask, drop ===== -/
theorem TabS.gr {X Y : XX} {a o : Int} {K : Int → Prop} {C B I W : Nat} (h : TabS X o C B I W) (hG : GrX X Y a K) (ha : a < 87) : TabS Y o C B I W := by
  obtain ⟨⟨s0, s0'⟩, s1, ⟨s2, s3⟩, ⟨s4, s5⟩, ⟨s6, s7⟩, s8, s9⟩ := h
  have h1 := hG.1
  have e : ∀ j, Y.2 o j = X.2 o j := fun j => (hG.2 o (by omega) (by omega)).2 j (fun q => by omega)
  have g : ∀ c : Int, 87 ≤ c → c < X.1.1 → Y.1.2 c = X.1.2 c := fun c c0 c1 => (hG.2 c (by omega) c1).1
  exact ⟨⟨s0, by omega⟩, (g o s0 (by omega)).trans s1, ⟨(e 1).trans s2, (g _ (by omega) (by omega)).trans s3⟩, ⟨(e 2).trans s4, hG.row s5 (by omega)⟩, ⟨(e 3).trans s6, hG.prg s7 (by omega) (by omega) (by omega)⟩, (e 4).trans s8, hG.row s9 (by omega)⟩
theorem TabN.gr {G : GT} {X Y : XX} {vc vm : VV} {C : Nat} {t o a : Int} {K : Int → Prop} (h : TabN G X vc vm C t o) (hG : GrX X Y a K) (ha : a < 87) : TabN G Y vc vm C t o := by
  obtain ⟨B, I, W, ⟨h1, h2⟩, h3⟩ := h
  exact ⟨B, I, W, ⟨h1.gr hG ha, h2⟩, h3⟩
set_option maxRecDepth 100000 in
set_option maxHeartbeats 4000000 in
theorem k_askInit {X : XX} {v : VV} {o : Int} (hW : SW X) (hs : X.1.2 o = (0, 0) ∧ (0 ≤ o ∧ o < X.1.1)) (a b c : Int) : CX mX0_init 1 [(2, o), (0, a), (0, b), (0, c)] X v (fun _ v1 => v1 = upd2 (upd2 (upd2 v o 0 a) o 1 b) o 2 c) :=
  CX.of (by decide +kernel) rfl rfl rfl (bX0_init_0 o a b c (Nat.le_refl _) hW (fun _ _ _ => ⟨hs.2.1, hs.1, hs.2, rfl, rfl⟩))
theorem askOK_64 {v : VV} {u t b : Int} (hM : MT v) (h : askOK v u t b) : b < 64 := by
  obtain ⟨-, ht, ⟨b0, b1⟩, -⟩ := h
  obtain ⟨-, -, m3, -⟩ := hM t ht.1 ht.2.1
  have key : ∀ k : Nat, k ≤ 6 → (2 : Int) ^ k ≤ 64 := by decide +kernel
  have := key (v 51 t).toNat (by omega)
  unfold pw2 at b1
  omega
/-- a new ask, on either side -/
theorem I1.ask {G : GT} {cC : Int → Nat} {E : Int} {X Y : XX} {vc w v : VV} {u t b : Int} (h : I1 G cC E X vc v) (hA : askOK v u t b) (hW : SW Y) (hG : GrX X Y 40 (fun j => j = v 47 59)) (hn : Y.2 40 (v 47 59) = X.1.1 ∧ Y.1.2 X.1.1 = (0, 0) ∧ Y.1.1 = X.1.1 + 1) (hw : ∀ r j : Int, r < X.1.1 → ¬ (r = 0 ∧ j = 12) → w r j = vc r j) (hq : w X.1.1 0 = t ∧ w X.1.1 1 = b ∧ w X.1.1 2 = v 47 64) : I1 G cC E Y w (askV v u t b) := by
  have h64 := askOK_64 h.2.1.1.2.1 hA
  have hnm := fun s s0 s1 hl => h.nm (t := s) s0 s1 hl
  obtain ⟨h1, h2, h3, h4, h5⟩ := h
  have hO := h4.obj
  have hK := h4.col
  have hM := h2.1.2.1
  obtain ⟨b1, b2, b3, b4, b5⟩ := h2.1.1
  obtain ⟨hA1, hA2, hA3, hA4⟩ := hA
  have uA : ∀ r j : Int, ¬ (82 ≤ r ∧ r ≤ 85 ∧ j = v 47 59) → ¬ (r = 47 ∧ j = 59) → askV v u t b r j = v r j := fun r j q1 q2 => by
    unfold askV
    rw [upd2_n _ (by omega), upd2_n _ (by omega), upd2_n _ (by omega), upd2_n _ (by omega), upd2_n _ (by omega)]
  have e59 : askV v u t b 47 59 = v 47 59 + 1 := by unfold askV; rw [upd2_s]
  have e83 : askV v u t b 83 (v 47 59) = t := by unfold askV; rw [upd2_n _ (by omega), upd2_n _ (by omega), upd2_n _ (by omega), upd2_s]
  have e84 : askV v u t b 84 (v 47 59) = b := by unfold askV; rw [upd2_n _ (by omega), upd2_n _ (by omega), upd2_s]
  have e85 : askV v u t b 85 (v 47 59) = v 47 64 := by unfold askV; rw [upd2_n _ (by omega), upd2_s]
  have g : ∀ r j : Int, r < 82 → ¬ (r = 47 ∧ j = 59) → askV v u t b r j = v r j := fun r j q1 q2 => uA r j (by omega) q2
  have e0 : askV v u t b 47 0 = v 47 0 := g 47 0 (by omega) (by omega)
  have hSm : SmT (v 47 0) v (askV v u t b) := SmT.fr (S := fun r j => 82 ≤ r ∨ (r = 47 ∧ j = 59)) (fun r j q => g r j (by omega) (by omega)) (fun r j q => by omega)
  have hTt : ∀ s, isT (askV v u t b) s ↔ isT v s := fun s => by unfold isT; rw [e0, g 48 s (by omega) (by omega)]
  have e40 : ∀ j, ¬ j = v 47 59 → Y.2 40 j = X.2 40 j := fun j hj => (hG.2 40 (by decide) (by have := h1.1; omega)).2 j (fun q => hj q.2)
  have e37 : ∀ j, Y.2 37 j = X.2 37 j := fun j => (hG.2 37 (by decide) (by have := h1.1; omega)).2 j (fun q => by omega)
  have h87 := h1.1
  refine ⟨hW, ?_, ?_, ⟨fun s s0 s1 hl => ?_, fun s s' q0 q1 q2 q3 q4 => ?_⟩, fun a a0 a1 => ?_⟩
  · refine h2.sm ⟨?_, ?_, ?_, ?_, ?_⟩ (hM.sm e0 (fun r j r0 r1 => g r j (by omega) (by omega))) e0 hSm (fun s hs => ⟨⟨(hTt s).mp hs.1, by have := hs.2; rw [g 50 s (by omega) (by omega)] at this; exact this⟩, g 54 s (by omega) (by omega)⟩) ?_ ?_ (fun a a0 a1 => ?_) ?_ (fun s c hc => ?_)
    · rw [e0]; exact b1
    · rw [g 47 22 (by omega) (by omega)]; exact b2
    · rw [g 47 57 (by omega) (by omega)]; exact b3
    · rw [e59]; omega
    · rw [g 47 64 (by omega) (by omega)]; exact b5
    · exact h2.2.1.fr (S := fun r j => 82 ≤ r ∨ (r = 47 ∧ j = 59)) (fun r j q => g r j (by omega) (by omega)) (fun j j0 j1 => by omega)
    · rw [g 47 52 (by omega) (by omega), g 47 65 (by omega) (by omega), g 47 50 (by omega) (by omega)]; exact h2.2.2.1
    · rw [e59] at a1
      rw [e0]
      by_cases z : a = v 47 59
      · rw [z, e83, e84, e85]
        exact ⟨⟨hA2.1, hA2.2.1⟩, ⟨by omega, h64⟩, b5⟩
      · rw [uA 83 a (by omega) (by omega), uA 84 a (by omega) (by omega), uA 85 a (by omega) (by omega)]
        exact h2.2.2.2.1 a a0 (by omega)
    · have e68 : askV v u t b 68 = v 68 := funext fun j => g 68 j (by omega) (by omega)
      rw [e68, g 47 22 (by omega) (by omega)]; exact h2.2.2.2.2.1
    · refine ⟨⟨(hTt s).mp hc.1, ?_⟩, g 53 _ (by omega) (by omega)⟩
      have := hc.2
      rw [g 51 s (by omega) (by omega)] at this
      exact this
  · obtain ⟨a1, a2⟩ := h3
    refine ⟨by rw [e0]; exact a1, fun s s0 s1 => ?_⟩
    rw [e37, e0, g 48 s (by omega) (by omega)]
    refine ⟨(a2 s s0 s1).1, fun hl => ?_⟩
    obtain ⟨c1, c2, c3⟩ := (a2 s s0 s1).2 hl
    obtain ⟨n1, n2⟩ := hnm s s0 s1 hl
    have ho := (hO s s0 s1).elim (fun z => absurd z hl) (fun z => z.2)
    have hk := (hK s s0 s1).elim (fun z => absurd z hl) (fun z => z.1.2)
    have e1 : Y.2 (X.2 37 s) 1 = X.2 (X.2 37 s) 1 := (hG.2 _ (by omega) ho.2).2 1 (fun q => by omega)
    refine ⟨?_, by rw [g 51 s (by omega) (by omega)]; exact c2, fun c c0 c1' => ?_⟩
    · rw [g 49 s (by omega) (by omega), hw _ _ ho.2 (by omega)]; exact c1
    · obtain ⟨d1, d2⟩ := c3 c c0 c1'
      rw [g 52 _ (by omega) (by omega), g 53 _ (by omega) (by omega), e1, hw _ _ hk.2 (by omega), hw 38 _ (by omega) (by omega)]
      exact ⟨d1, d2⟩
  · rw [e37] at hl ⊢
    obtain ⟨k1, k2, k3⟩ := h4.1 s s0 s1 hl
    have hs := (h3.2 s s0 s1).1.mpr hl
    have e := ag_sm (v := v) (V := askV v u t b) (fun r j hr => g r j (by omega) (by omega)) s
    have hsh : X.2 37 s + 13 ≤ X.1.1 ∧ 87 ≤ X.2 37 s := by
      obtain ⟨B, I, W, ⟨⟨z1, z2⟩, -⟩, -⟩ := k1.sh
      exact ⟨z2, z1⟩
    have hwS : ∀ r j, X.2 37 s ≤ r → r < X.2 37 s + 13 → w r j = vc r j := fun r j r0 r1 => hw r j (by omega) (by omega)
    refine ⟨(((k1.gr hG (by decide)).c (fun r j r0 r1 _ => hwS r j r0 r1)).m hSm ⟨s0, hs.1⟩ (g 50 s (by omega) (by omega)) (g 54 s (by omega) (by omega)) (g 56 s (by omega) (by omega)) (g 57 s (by omega) (by omega)) (hM s s0 hs.1).bh (fun s s0 s1 => ?_)), by rw [e, hwS _ _ (by omega) (by omega)]; exact k2, by rw [e, hwS _ _ (by omega) (by omega)]; exact k3⟩
    obtain ⟨-, -, m3, -⟩ := hM s s0 s1
    exact ⟨by omega, m3.2⟩
  · rw [e37] at q3 q4 ⊢
    rw [e37]
    exact h4.2 s s' q0 q1 q2 q3 q4
  · by_cases z : a = v 47 59
    · rw [z, hn.1, e59, e83, e84, e85]
      exact Or.inr ⟨⟨by omega, by omega⟩, by omega, hn.2.1, ⟨by omega, by omega⟩, hq⟩
    · rw [e40 a z, e59, uA 83 a (by omega) (by omega), uA 84 a (by omega) (by omega), uA 85 a (by omega) (by omega)]
      rcases h5 a a0 a1 with q | ⟨⟨q1, q1'⟩, q2, q3, q4, q5⟩
      · exact Or.inl ⟨q.1, fun y => q.2 ⟨by omega, y.2⟩⟩
      · refine Or.inr ⟨⟨by omega, q1'⟩, q2, ((hG.2 _ (by omega) q4.2).1).trans q3, ⟨q4.1, by omega⟩, ?_⟩
        rw [hw _ _ q4.2 (by omega), hw _ _ q4.2 (by omega), hw _ _ q4.2 (by omega)]
        exact q5
set_option maxRecDepth 100000 in
set_option maxHeartbeats 4000000 in
theorem k_ask {G : GT} {cC : Int → Nat} {E : Int} {X : XX} {vc v : VV} (h : I1 G cC E X vc v) (h12 : vc 0 12 = v 47 59) (h13 : vc 0 13 = v 47 64) (u t b : Int) : Con mX10_ask 2 1 3 [(2, 0), (0, u), (0, t), (0, b)] X vc (fun o Y w => (askOK v u t b ∧ o = some (0, v 47 59) ∧ I1 G cC E Y w (askV v u t b) ∧ (∀ r j : Int, r < X.1.1 → ¬ (r = 0 ∧ j = 12) → w r j = vc r j) ∧ w 0 12 = vc 0 12 + 1) ∨ (¬ askOK v u t b ∧ Y = X ∧ w = vc ∧ o = some (0, -1))) := by
  have hL := h.live t
  have h4 := h.2.1.1.1.2.2.2.1
  have h87 := h.1.1
  refine Con.of (by decide +kernel) (fun a ha => ?_) (Nat.le_of_ble_eq_true rfl) ?_
  · rcases List.mem_cons.mp ha with rfl | ha
    · exact Nat.le_of_ble_eq_true rfl
    rcases List.mem_cons.mp ha with rfl | ha
    · exact Nat.le_of_ble_eq_true rfl
    rcases List.mem_cons.mp ha with rfl | ha
    · exact Nat.le_of_ble_eq_true rfl
    · rw [List.mem_singleton.mp ha]; exact Nat.le_of_ble_eq_true rfl
  show Ex mX10_ask 2 0 [(2, 0), (0, u), (0, t), (0, b), (3, 0)] [] X vc 1 3 _
  refine bX10_ask_0 u t b (Nat.le_refl _) h.1 (fun _ _ _ => ⟨_, k_tableAt h.1 t, fun r2 w3 hP => ?_⟩)
  obtain ⟨rfl, hr⟩ := hP
  by_cases hl : 0 ≤ t ∧ t < 16 ∧ ¬ X.2 37 t = -1
  · obtain rfl : r2 = X.2 37 t := by rw [if_pos ⟨hl.1, hl.2.1⟩] at hr; simpa using hr
    have hT := hL.mpr hl
    have hh := h.hi hT
    have h51 : v 51 t = cC t := ((h.2.2.1.2 t hl.1 hl.2.1).2 hl.2.2).2.1
    obtain ⟨⟨B, I, W, ⟨⟨⟨-, z13⟩, -, ⟨c1, c2⟩, -⟩, hC6, -⟩, -⟩, -⟩ := h.tab hT
    refine ⟨fun g => absurd g hl.2.2, fun _ => ⟨fun g1 => Or.inr ⟨fun z => by have := z.1; omega, rfl, rfl, rfl⟩, fun g1 => ⟨fun g2 => Or.inr ⟨fun z => by have := z.1; omega, rfl, rfl, rfl⟩, fun g2 => ⟨fun g3 => ⟨fun g4 => Or.inr ⟨fun z => by have := z.2.2.1; omega, rfl, rfl, rfl⟩, fun g4 => ⟨hh.2.1, ⟨by omega, hh.2.2⟩, _, k_columnCount h.1 ⟨hh.2.1, by omega, hh.2.2⟩ ⟨c1, c2, by omega, by omega⟩, fun r7 w8 hP => ?_⟩⟩, fun g3 => Or.inr ⟨fun z => z.2.2.2 (by omega), rfl, rfl, rfl⟩⟩⟩⟩⟩
    obtain ⟨rfl, hr7⟩ := hP
    obtain rfl : r7 = (cC t : Int) := by simpa using hr7
    intro z10 e10 h10
    have hz := shl1 (by omega) (by omega) e10 h10
    rw [hz, ← h51]
    refine ⟨fun g5 => ?_, fun g5 => Or.inr ⟨fun z => by have := z.2.2.1; omega, rfl, rfl, rfl⟩⟩
    have hOK : askOK v u t b := ⟨⟨g1, g2⟩, hT, ⟨by omega, g5⟩, by omega⟩
    have e13 : nV X w8 0 13 = w8 0 13 := nV_n X w8 (by omega) 13
    refine ⟨⟨by decide, by decide⟩, 0, 0, by decide, by decide, _, k_askInit (v := nV X w8) h.1.new ⟨nX_me X 0 0, nX_in X 0 0⟩ t b (nV X w8 0 13), fun Y w15 hP => ?_⟩
    obtain ⟨rfl, e15⟩ := hP
    have e15' : w15 = upd2 (upd2 (upd2 (nV X w8) X.1.1 0 t) X.1.1 1 b) X.1.1 2 (nV X w8 0 13) := e15
    have g15 : ∀ r j : Int, r < X.1.1 → w15 r j = w8 r j := fun r j hr => by
      rw [e15', upd2_n _ (by omega), upd2_n _ (by omega), upd2_n _ (by omega)]
      exact nV_n X w8 (by omega) j
    have q0 : w15 X.1.1 0 = t := by rw [e15', upd2_n _ (by omega), upd2_n _ (by omega), upd2_s]
    have q1 : w15 X.1.1 1 = b := by rw [e15', upd2_n _ (by omega), upd2_s]
    have q2 : w15 X.1.1 2 = w8 0 13 := by rw [e15', upd2_s]; exact e13
    have e12 : w15 0 12 = w8 0 12 := g15 0 12 (by omega)
    refine ⟨h.1.new, ⟨by omega, by omega⟩, nX_me X 0 0, nX_in X 0 0, fun _ => ⟨by omega, by omega⟩, fun _ => ⟨by omega, by omega⟩, Or.inl ⟨hOK, ?_, ?_, fun r j r0 rn => ?_, ?_⟩⟩
    · rw [e12, h12, show v 47 59 + 1 - 1 = v 47 59 by omega]
    · rw [h12]
      refine h.ask hOK (h.1.new.ref40 _ _) ⟨by show X.1.1 ≤ X.1.1 + 1; omega, fun c c0 c1 => ?_⟩ ⟨upd2_s _ _ _ _, nX_me X 0 0, rfl⟩ (fun r j r0 rn => ?_) ⟨?_, ?_, ?_⟩
      · refine ⟨(ExtX.new X 0 0).2 c c0 c1 |>.1, fun j hj => ?_⟩
        show upd2 _ _ _ _ c j = _
        rw [upd2_n _ hj]
        exact ((ExtX.new X 0 0).2 c c0 c1).2 j
      · rw [upd2_n _ rn]; exact g15 r j r0
      · rw [upd2_n _ (by omega)]; exact q0
      · rw [upd2_n _ (by omega)]; exact q1
      · rw [upd2_n _ (by omega), q2]; exact h13
    · rw [upd2_n _ rn]; exact g15 r j r0
    · rw [upd2_s, e12]
  · have hr2 : r2 = -1 := by
      by_cases z : 0 ≤ t ∧ t < 16
      · rw [if_pos z] at hr
        have e : X.2 37 t = -1 := Classical.byContradiction (fun y => hl ⟨z.1, z.2, y⟩)
        rw [e] at hr; simpa using hr
      · rw [if_neg z] at hr; simpa using hr
    exact ⟨fun g => Or.inr ⟨fun z => hl (hL.mp z.2.1), rfl, rfl, rfl⟩, fun g => absurd hr2 g⟩
theorem s_ask {G : GT} {cC : Int → Nat} {E : Int} {X : XX} {v : VV} (h : I2 G cC E X v (mp v)) (u t b : Int) : StpOK mX10_ask mX11_ask 2 1 [(0, u), (0, t), (0, b)] E X v := by
  obtain ⟨h1, hs⟩ := id h
  have h87 := h1.1.1
  refine ⟨1, 3, by decide, by decide, _, k_ask h1 hs.1.2.1 hs.1.2.2.1 u t b, fun o Y w hp => ?_⟩
  rcases hp with ⟨hA, ho, hI, hw, h12⟩ | ⟨hn, rfl, rfl, ho⟩
  · have em : mp w = mp v := Emq.mp (fun r j r0 r1 => hw r j (by omega) (by omega))
    have hMw : MIn G E w := h1.at em
    refine ⟨_, ho, hI.1, (c_ask hI.1 hMw.1.1 hMw.1.2.1 u t b).mono (fun o' w' hq => ?_)⟩
    rcases hq with ⟨-, rfl, ho'⟩ | ⟨q, -⟩
    · have e59 : w 47 59 = mp v 47 59 := by rw [← em]; rfl
      refine ⟨by rw [ho', e59], G, cC, ?_⟩
      have e64 : w 47 64 = mp v 47 64 := by rw [← em]; rfl
      have ea : mp (askV w u t b) = askV (mp v) u t b := by
        unfold askV
        rw [mp_upd ⟨by decide, by decide⟩, mp_upd ⟨by decide, by decide⟩, mp_upd ⟨by decide, by decide⟩, mp_upd ⟨by decide, by decide⟩, mp_upd ⟨by decide, by decide⟩, em, e59, e64]
      rw [ea]
      have hEc : Ecq w (askV w u t b) := (((((Ecq.rf w).up ⟨by decide, by decide⟩).up ⟨by decide, by decide⟩).up ⟨by decide, by decide⟩).up ⟨by decide, by decide⟩).up ⟨by decide, by decide⟩
      refine I2.ecq ⟨hI.mono (by omega), ?_⟩ hEc
      have uA : ∀ r j : Int, r < 82 → ¬ (r = 47 ∧ j = 59) → askV (mp v) u t b r j = mp v r j := fun r j q1 q2 => by
        unfold askV
        rw [upd2_n _ (by omega), upd2_n _ (by omega), upd2_n _ (by omega), upd2_n _ (by omega), upd2_n _ (by omega)]
      obtain ⟨⟨t1, t2, t3, t4, t5⟩, ⟨s2, s3⟩, s4, s5, s6⟩ := hs
      have g : ∀ r j : Int, r < 47 → ¬ (r = 0 ∧ j = 12) → w r j = v r j := fun r j r0 rn => hw r j (by omega) rn
      refine ⟨⟨?_, ?_, ?_, ?_, ?_⟩, ⟨?_, fun i i0 i1 => ?_⟩, ⟨?_, ?_, fun i i0 i1 => ?_⟩, ?_, ?_⟩
      · rw [g 0 11 (by omega) (by omega), uA 47 0 (by omega) (by omega)]; exact t1
      · have e : askV (mp v) u t b 47 59 = mp v 47 59 + 1 := by unfold askV; rw [upd2_s]
        rw [h12, e, t2]
      · rw [g 0 13 (by omega) (by omega), uA 47 64 (by omega) (by omega)]; exact t3
      · rw [g 0 14 (by omega) (by omega), uA 47 27 (by omega) (by omega)]; exact t4
      · rw [g 0 15 (by omega) (by omega), uA 47 28 (by omega) (by omega)]; exact t5
      · rw [g 1 1 (by omega) (by omega), uA 47 22 (by omega) (by omega)]; exact s2
      · rw [uA 47 22 (by omega) (by omega)] at i1
        rw [g 2 i (by omega) (by omega), uA 68 i (by omega) (by omega)]; exact s3 i i0 i1
      · rw [g 43 1 (by omega) (by omega), uA 47 57 (by omega) (by omega)]; exact s4.1
      · rw [g 43 1 (by omega) (by omega)]; exact s4.2.1
      · rw [uA 47 57 (by omega) (by omega)] at i1
        rw [g 44 i (by omega) (by omega), uA 81 i (by omega) (by omega)]; exact s4.2.2 i i0 i1
      · rw [g 6 1 (by omega) (by omega), g 8 1 (by omega) (by omega), g 10 1 (by omega) (by omega), g 13 1 (by omega) (by omega), g 15 1 (by omega) (by omega), g 45 1 (by omega) (by omega)]; exact s5
      · exact s6.eq (fun r j hr => g r j (by omega) (by omega))
    · refine absurd ?_ q
      have e : askOK w u t b = askOK (mp v) u t b := by rw [← em]; rfl
      rw [e]; exact hA
  · have hMv : MIn G E w := h1.at rfl
    refine ⟨_, ho, h1.1, (c_ask h1.1 hMv.1.1 hMv.1.2.1 u t b).mono (fun o' w' hq => ?_)⟩
    rcases hq with ⟨q, -⟩ | ⟨-, rfl, ho'⟩
    · exact absurd q hn
    · exact ⟨ho', G, cC, h.mono (by omega)⟩
