/-! ===== freeze ===== -/
def SPg (o r j : Int) : Prop := o + 4 ≤ r ∧ r ≤ o + 10
set_option maxRecDepth 100000 in
set_option maxHeartbeats 4000000 in
theorem k_prgClear {X : XX} {v : VV} {o : Int} {I : Nat} (hW : SW X) (hP : PrgS X (o + 4) (o + 5) (o + 6) (o + 7) (o + 8) (o + 9) (o + 10) I) (h1 : 0 ≤ v (o + 7) 1) (h2 : 0 ≤ v (o + 9) 1) : CX mX5_clear 1 [(2, o + 4)] X v (fun _ w => Fr (SPg o) v w ∧ (w (o + 7) 1 = 0 ∧ w (o + 9) 1 = 0) ∧ ∀ f, 0 ≤ f → f ≤ 6 → w (o + 5) f = 0 ∧ w (o + 6) f = 0) := by
  obtain ⟨p1, p2, ⟨p3, p4, p4'⟩, ⟨p5, p6, p6'⟩, ⟨p7, hI⟩, p8, hL⟩ := hP
  have key : ∀ (x : Int) (V : VV), (0 ≤ x ∧ x ≤ 7) → Fr (SPg o) v V → (V (o + 7) 1 = 0 ∧ V (o + 9) 1 = 0) → (∀ f, 0 ≤ f → f < x → V (o + 5) f = 0 ∧ V (o + 6) f = 0) → Ex mX5_clear 1 23 [(2, o + 4), (0, x)] [] X V 0 0 (fun _ X1 w => X1 = X ∧ Fr (SPg o) v w ∧ (w (o + 7) 1 = 0 ∧ w (o + 9) 1 = 0) ∧ ∀ f, 0 ≤ f → f ≤ 6 → w (o + 5) f = 0 ∧ w (o + 6) f = 0) := by
    refine loop2 (fun (x : Int) (_ : VV) => (7 - x).toNat) (fun (x : Int) (V : VV) => (0 ≤ x ∧ x ≤ 7) → Fr (SPg o) v V → (V (o + 7) 1 = 0 ∧ V (o + 9) 1 = 0) → (∀ f, 0 ≤ f → f < x → V (o + 5) f = 0 ∧ V (o + 6) f = 0) → Ex mX5_clear 1 23 [(2, o + 4), (0, x)] [] X V 0 0 (fun _ X1 w => X1 = X ∧ Fr (SPg o) v w ∧ (w (o + 7) 1 = 0 ∧ w (o + 9) 1 = 0) ∧ ∀ f, 0 ≤ f → f ≤ 6 → w (o + 5) f = 0 ∧ w (o + 6) f = 0)) (fun x V ih => ?_)
    intro hx hf hz hp
    refine bX5_clear_23 (o + 4) x (Nat.le_refl _) hW (fun _ => ⟨fun g => ⟨rfl, hf, hz, fun f f0 f1 => hp f f0 (by omega)⟩, fun g => ⟨p1, p2, 7, ?_⟩⟩)
    rw [p3, p5]
    refine ⟨p4, p4', ⟨hx.1, by omega⟩, 7, p6, p6', ⟨hx.1, by omega⟩, ⟨by omega, by omega⟩, ih (x + 1) _ (by omega) ⟨by omega, by omega⟩ ((hf.up (by unfold SPg; omega)).up (by unfold SPg; omega)) ⟨?_, ?_⟩ (fun f f0 f1 => ?_)⟩
    · rw [upd2_n _ (by omega), upd2_n _ (by omega)]; exact hz.1
    · rw [upd2_n _ (by omega), upd2_n _ (by omega)]; exact hz.2
    · by_cases e : f = x
      · rw [e]; exact ⟨by rw [upd2_n _ (by omega), upd2_s], upd2_s _ _ _ _⟩
      · have := hp f f0 (by omega)
        exact ⟨by rw [upd2_n _ (by omega), upd2_n _ (by omega)]; exact this.1, by rw [upd2_n _ (by omega), upd2_n _ (by omega)]; exact this.2⟩
  refine CX.of (by decide +kernel) rfl rfl rfl (bX5_clear_0 (o + 4) (Nat.le_refl _) hW ?_)
  rw [p7, p8]
  refine ⟨p1, p2, hI.1, hI.2.1, _, k_cut hW hI 0, fun w5 hP => ?_⟩
  have e5 : w5 = rCut v (o + 7) 0 := hP
  have f5 : ∀ r j : Int, ¬ (r = o + 7 ∧ j = 1) → w5 r j = v r j := fun r j hn => by rw [e5]; exact rCut_n hn
  have z5 : w5 (o + 7) 1 = 0 := by rw [e5]; exact rCut_0 h1
  refine ⟨hL.1, hL.2.1, _, k_cut hW hL 0, fun w10 hP => ?_⟩
  have e10 : w10 = rCut w5 (o + 9) 0 := hP
  have f10 : ∀ r j : Int, ¬ (r = o + 9 ∧ j = 1) → w10 r j = w5 r j := fun r j hn => by rw [e10]; exact rCut_n hn
  have z10 : w10 (o + 9) 1 = 0 := by rw [e10]; exact rCut_0 (by rw [f5 _ _ (by omega)]; exact h2)
  refine key 0 _ ⟨by decide, by decide⟩ (fun r j hn => ?_) ⟨?_, ?_⟩ (fun f f0 f1 => by omega)
  · have hn' : ¬ (o + 4 ≤ r ∧ r ≤ o + 10) := hn
    rw [upd2_n _ (by omega), f10 r j (by omega), f5 r j (by omega)]
  · rw [upd2_n _ (by omega), f10 _ _ (by omega)]; exact z5
  · rw [upd2_n _ (by omega)]; exact z10
theorem agF_frz {v V : VV} {t : Int} (hv : v 50 t = 2) (e50 : ∀ s, ¬ s = t → V 50 s = v 50 s) (e50t : V 50 t = 3) (e54 : ∀ s, ¬ s = t → V 54 s = v 54 s) (h : ∀ r j : Int, (r = 55 ∨ r = 58 ∨ r = 59) → V r j = v r j) : ∀ (f : Nat) (s : Int), agF V f s = agF v f s
  | 0, _ => rfl
  | f + 1, s => by
    have e : agF V f = agF v f := funext (agF_frz hv e50 e50t e54 h f)
    have e55 : (fun k => V 55 (3 * s + k)) = (fun k => v 55 (3 * s + k)) := funext fun k => h 55 _ (by omega)
    unfold agF
    by_cases z : s = t
    · rw [z, e50t, hv, if_neg (by decide), if_neg (by decide), h 58 _ (by omega), h 59 _ (by omega)]
    · unfold agB
      rw [e, e55, e50 s z, e54 s z, h 58 _ (by omega), h 59 _ (by omega)]
set_option maxRecDepth 100000 in
set_option maxHeartbeats 4000000 in
theorem k_freeze {G : GT} {cC : Int → Nat} {E : Int} {X : XX} {vc v : VV} (h : I1 G cC E X vc v) (t : Int) : CX mX10_freeze 2 [(2, 0), (0, t)] X vc (fun o w => (isT v t ∧ v 50 t = 2 ∧ I1 G cC E X w (upd2 (upd2 v 50 t 3) 54 t 0) ∧ (∀ r j : Int, r < 87 → w r j = vc r j) ∧ o = some (0, 1)) ∨ (¬ (isT v t ∧ v 50 t = 2) ∧ w = vc ∧ o = some (0, 0))) := by
  have hL := h.live t
  refine CX.of (by decide +kernel) rfl rfl rfl (bX10_freeze_0 t (Nat.le_refl _) h.1 (fun _ => ⟨_, k_tableAt h.1 t, fun r2 w3 hP => ?_⟩))
  obtain ⟨rfl, hr⟩ := hP
  by_cases hl : 0 ≤ t ∧ t < 16 ∧ ¬ X.2 37 t = -1
  · obtain rfl : r2 = X.2 37 t := by rw [if_pos ⟨hl.1, hl.2.1⟩] at hr; simpa using hr
    have hT := hL.mpr hl
    have hh := h.hi hT
    have hD := h.dsj
    obtain ⟨⟨B, I, W, ⟨hSh, hC6, hB3, hI4, hW4⟩, ⟨p5, p8, p9⟩, ⟨⟨k2, k3, k4⟩, k5⟩, ⟨k7, k8, k9⟩, k10⟩, ka⟩ := id (h.tab hT)
    obtain ⟨⟨s1, s2⟩, s3, s4, ⟨s5, s6⟩, ⟨s7, s8⟩, s9⟩ := id hSh
    rw [p5, s5, s7]
    refine ⟨fun g => absurd g hl.2.2, fun _ => ⟨hh.2.1, ⟨by omega, hh.2.2⟩, fun g2 => ?_, fun g2 => ⟨rfl, Or.inr ⟨fun z => g2 z.2, rfl, rfl⟩⟩⟩⟩
    refine ⟨s6.1, s6.2.1, _, k_cut h.1 s6 0, fun w9 hP => ?_⟩
    have e9 : w9 = rCut (upd2 w3 (X.2 37 t) 5 3) (X.2 37 t + 2) 0 := hP
    have f9 : ∀ r j : Int, ¬ (r = X.2 37 t + 2 ∧ j = 1) → ¬ (r = X.2 37 t ∧ j = 5) → w9 r j = w3 r j := fun r j q1 q2 => by rw [e9, rCut_n q1, upd2_n _ q2]
    have z9 : w9 (X.2 37 t + 2) 1 = 0 := by
      rw [e9]; exact rCut_0 (by rw [upd2_n _ (by omega), k2]; exact k3)
    have z5 : w9 (X.2 37 t) 5 = 3 := by rw [e9, rCut_n (by omega), upd2_s]
    refine ⟨s8.1, ⟨by omega, by omega⟩, _, k_prgClear h.1 s8 (by rw [f9 _ _ (by omega) (by omega)]; exact k7.1) (by rw [f9 _ _ (by omega) (by omega)]; exact k8.1), fun w14 hP => ?_⟩
    obtain ⟨f14, ⟨c1, c2⟩, c3⟩ := hP
    have g14 : ∀ r j : Int, ¬ (X.2 37 t + 4 ≤ r ∧ r ≤ X.2 37 t + 10) → w14 r j = w9 r j := fun r j hn => f14 r j hn
    have gout : ∀ r j : Int, ¬ (X.2 37 t ≤ r ∧ r < X.2 37 t + 13) → w14 r j = w3 r j := fun r j hn => by rw [g14 r j (by omega), f9 r j (by omega) (by omega)]
    refine ⟨rfl, Or.inl ⟨hT, g2, ?_, fun r j hr => gout r j (by omega), rfl⟩⟩
    obtain ⟨h1, h2, h3, h4, h5⟩ := id h
    have hO := h4.obj
    have hK := h4.col
    have hM := h2.1.2.1
    have u : ∀ r j : Int, ¬ (r = 50 ∧ j = t) → ¬ (r = 54 ∧ j = t) → upd2 (upd2 v 50 t 3) 54 t 0 r j = v r j := fun r j q1 q2 => by rw [upd2_n _ q2, upd2_n _ q1]
    have u50 : upd2 (upd2 v 50 t 3) 54 t 0 50 t = 3 := by rw [upd2_n _ (by omega), upd2_s]
    have u54 : upd2 (upd2 v 50 t 3) 54 t 0 54 t = 0 := upd2_s _ _ _ _
    have hf : Fr (fun r _ => r = 50 ∨ r = 54) v (upd2 (upd2 v 50 t 3) 54 t 0) := fun r j q => u r j (by omega) (by omega)
    generalize upd2 (upd2 v 50 t 3) 54 t 0 = V at *
    have e0 : V 47 0 = v 47 0 := u 47 0 (by omega) (by omega)
    have hSm : SmT (v 47 0) v V := SmT.fr hf (fun r j q => by omega)
    have hTt : ∀ s, isT V s ↔ isT v s := fun s => by unfold isT; rw [e0, u 48 s (by omega) (by omega)]
    have hag : ∀ s, ag V s = ag v s := fun s => agF_frz g2 (fun s hs => u 50 s (fun q => hs q.2) (by omega)) u50 (fun s hs => u 54 s (by omega) (fun q => hs q.2)) (fun r j hr => u r j (by omega) (by omega)) 17 s
    have hM' : MT V := fun s q0 q1 => by
      rw [e0] at q1
      have hm := hM s q0 q1
      unfold MTt at hm ⊢
      rw [u 48 s (by omega) (by omega), u 51 s (by omega) (by omega), u 56 s (by omega) (by omega), u 57 s (by omega) (by omega), u 58 s (by omega) (by omega), u 59 s (by omega) (by omega)]
      obtain ⟨m1, m2, m3, m4, m5, m6, m7, m8⟩ := hm
      by_cases z : s = t
      · rw [z, u50, u54]
        rw [z] at m1 m3 m8
        exact ⟨m1, by decide, m3, by decide, fun k k0 k1 => by omega, fun _ => rfl, fun y => by omega, m8⟩
      · rw [u 50 s (fun q => z q.2) (by omega), u 54 s (by omega) (fun q => z q.2)]
        refine ⟨m1, m2, m3, m4, fun k k0 k1 => ?_, m6, m7, m8⟩
        rw [u 55 _ (by omega) (by omega), u 48 _ (by omega) (by omega)]; exact m5 k k0 k1
    have h51 : ∀ s, 0 ≤ s → s < v 47 0 → 0 ≤ v 51 s ∧ v 51 s ≤ 6 := fun s q0 q1 => by
      obtain ⟨-, -, m3, -⟩ := hM s q0 q1
      exact ⟨by omega, m3.2⟩
    refine ⟨h1, ?_, ?_, ⟨fun s q0 q1 hl' => ?_, h4.2⟩, ?_⟩
    · refine h2.sm (h2.1.1.fr hf (fun j _ => by omega)) hM' e0 hSm (fun s hs => ?_) (h2.2.1.fr hf (fun j j0 j1 => by omega)) ?_ (h2.2.2.2.1.sm e0 (u 47 59 (by omega) (by omega)) (fun r j hr => u r j (by omega) (by omega))) ?_ (fun s c hc => ?_)
      · have z : ¬ s = t := fun z => by have := hs.2; rw [z, u50] at this; omega
        exact ⟨⟨(hTt s).mp hs.1, by have := hs.2; rw [u 50 s (fun q => z q.2) (by omega)] at this; exact this⟩, u 54 s (by omega) (fun q => z q.2)⟩
      · rw [u 47 52 (by omega) (by omega), u 47 65 (by omega) (by omega), u 47 50 (by omega) (by omega)]; exact h2.2.2.1
      · have e68 : V 68 = v 68 := funext fun j => u 68 j (by omega) (by omega)
        rw [e68, u 47 22 (by omega) (by omega)]; exact h2.2.2.2.2.1
      · refine ⟨⟨(hTt s).mp hc.1, ?_⟩, u 53 _ (by omega) (by omega)⟩
        have := hc.2
        rw [u 51 s (by omega) (by omega)] at this
        exact this
    · refine (h3.cw (w := w14) (fun s q0 q1 hl' => ?_)).m hO hK e0 (fun s => u 48 s (by omega) (by omega)) hSm (fun s c _ _ _ _ => u 53 _ (by omega) (by omega))
      obtain ⟨n1, n2⟩ := h.nm (t := s) q0 q1 hl'
      refine ⟨?_, fun c _ _ => ⟨?_, gout _ _ (by omega)⟩⟩
      · by_cases z : s = t
        · rw [z, g14 _ _ (by omega), f9 _ _ (by omega) (by omega)]
        · have := hD.ne ⟨q0, q1⟩ ⟨hl.1, hl.2.1⟩ hl' hl.2.2 z
          exact gout _ _ (by omega)
      · rw [n1]
        by_cases z : s = t
        · rw [z, g14 _ _ (by omega), f9 _ _ (by omega) (by omega)]
        · have := hD.ne ⟨q0, q1⟩ ⟨hl.1, hl.2.1⟩ hl' hl.2.2 z
          exact gout _ _ (by omega)
    · by_cases z : s = t
      · subst z
        have gk : ∀ r j : Int, (r = X.2 37 s ∨ r = X.2 37 s + 11) → ¬ (r = X.2 37 s ∧ j = 5) → w14 r j = w3 r j := fun r j hr hn => by rw [g14 r j (by omega), f9 r j (by omega) hn]
        refine ⟨⟨B, I, W, ⟨hSh, hC6, hB3, hI4, hW4⟩, ⟨?_, ?_, ?_⟩, ⟨⟨?_, ?_, ?_⟩, fun k i0 i1 => ?_⟩, ⟨⟨?_, ?_⟩, ⟨?_, ?_⟩, fun _ f f0 f1 => ?_, fun y => ?_⟩, ?_, fun y => ?_⟩, ?_, ?_⟩
        · rw [g14 _ _ (by omega), z5, u50]
        · rw [gk _ _ (Or.inl rfl) (by omega), u 56 _ (by omega) (by omega)]; exact p8
        · rw [gk _ _ (Or.inl rfl) (by omega), u 57 _ (by omega) (by omega)]; exact p9
        · rw [g14 _ _ (by omega), z9, u54]
        · rw [u54]; exact Int.le_refl _
        · rw [u54]; omega
        · rw [u54] at i1; omega
        · rw [c1]; exact Int.le_refl _
        · rw [c1]; omega
        · rw [c2]; exact Int.le_refl _
        · rw [c2]; omega
        · obtain ⟨d1, d2⟩ := c3 f f0 f1
          unfold PartR
          rw [d1, d2, c1, c2]
          exact ⟨Int.le_refl _, rfl, Int.le_refl _, Int.le_refl _, trivial⟩
        · rw [u50] at y; omega
        · rw [gk _ _ (Or.inr rfl) (by omega)]; exact k10.1
        · rw [u50] at y; omega
        · rw [hag, gk _ _ (Or.inl rfl) (by omega)]; exact ka.1
        · rw [hag, gk _ _ (Or.inl rfl) (by omega)]; exact ka.2
      · have hd := hD.ne ⟨q0, q1⟩ ⟨hl.1, hl.2.1⟩ hl' hl.2.2 z
        obtain ⟨k1', k2', k3'⟩ := h4.1 s q0 q1 hl'
        have hs := (h3.2 s q0 q1).1.mpr hl'
        have gs : ∀ r j, X.2 37 s ≤ r → r < X.2 37 s + 13 → w14 r j = w3 r j := fun r j r0 r1 => gout r j (by omega)
        exact ⟨(k1'.c (fun r j r0 r1 _ => gs r j r0 r1)).m hSm ⟨q0, hs.1⟩ (u 50 s (fun q => z q.2) (by omega)) (u 54 s (by omega) (fun q => z q.2)) (u 56 s (by omega) (by omega)) (u 57 s (by omega) (by omega)) (hM s q0 hs.1).bh h51, by rw [hag, gs _ _ (by omega) (by omega)]; exact k2', by rw [hag, gs _ _ (by omega) (by omega)]; exact k3'⟩
    · exact (h5.tab (vc' := w3) (cC := cC) (G := G) (fun s q0 q1 hl' => (h4.1 s q0 q1 hl').1) (fun r j _ hn => gout r j (fun q => hn ⟨t, ⟨hl.1, hl.2.1⟩, hl.2.2, q.1, q.2⟩))).m (u 47 59 (by omega) (by omega)) (fun a' _ _ => ⟨u 83 a' (by omega) (by omega), u 84 a' (by omega) (by omega), u 85 a' (by omega) (by omega)⟩)
  · have hr2 : r2 = -1 := by
      by_cases z : 0 ≤ t ∧ t < 16
      · rw [if_pos z] at hr
        have e : X.2 37 t = -1 := Classical.byContradiction (fun y => hl ⟨z.1, z.2, y⟩)
        rw [e] at hr; simpa using hr
      · rw [if_neg z] at hr; simpa using hr
    exact ⟨fun g => ⟨rfl, Or.inr ⟨fun z => hl (hL.mp z.1), rfl, rfl⟩⟩, fun g => absurd hr2 g⟩
theorem s_freeze {G : GT} {cC : Int → Nat} {E : Int} {X : XX} {v : VV} (h : I2 G cC E X v (mp v)) (t : Int) : StpOK mX10_freeze mX11_freeze 2 1 [(0, t)] E X v := by
  obtain ⟨h1, hs⟩ := id h
  refine StpOK.cx h.1.1 (k_freeze h1 t) (fun o w hp => ?_)
  rcases hp with ⟨hT, h50, hI, hw, ho⟩ | ⟨hn, rfl, ho⟩
  · have em : mp w = mp v := Emq.mp (fun r j r0 r1 => hw r j (by omega))
    refine ⟨1, ho, (c_freeze h1.1 (show w 47 0 ≤ 16 by rw [hw 47 0 (by decide)]; exact h1.2.1.1.1.1.2) t).mono (fun o' w' hq => ?_)⟩
    rcases hq with ⟨-, -, rfl, ho'⟩ | ⟨q, -⟩
    · refine ⟨ho', G, cC, ?_⟩
      rw [mp_upd ⟨by decide, by decide⟩, mp_upd ⟨by decide, by decide⟩, em]
      exact I2.ecq ⟨hI.mono (by omega), hs.cm (fun r j _ q => hw r j (by omega)) (fun r j q => by rw [upd2_n _ (by omega), upd2_n _ (by omega)])⟩ (((Ecq.rf _).up ⟨by decide, by decide⟩).up ⟨by decide, by decide⟩)
    · refine absurd ⟨?_, ?_⟩ q
      · unfold isT; rw [hw 47 0 (by decide), hw 48 t (by decide)]; exact hT
      · rw [hw 50 t (by decide)]; exact h50
  · refine ⟨0, ho, (c_freeze h1.1 (show w 47 0 ≤ 16 from h1.2.1.1.1.1.2) t).mono (fun o' w' hq => ?_)⟩
    rcases hq with ⟨q1, q2, -⟩ | ⟨-, rfl, ho'⟩
    · exact absurd ⟨q1, q2⟩ hn
    · exact ⟨ho', G, cC, h.mono (by omega)⟩
