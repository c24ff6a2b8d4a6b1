/-! ===== one field of a table object: its owner, its lag ===== -/
theorem I1.nm {G : GT} {cC : Int → Nat} {E : Int} {X : XX} {vc v : VV} (h : I1 G cC E X vc v) {t : Int} (t0 : 0 ≤ t) (t1 : t < 16) (hl : ¬ X.2 37 t = -1) : X.2 (X.2 37 t) 1 = X.2 37 t + 1 ∧ 87 ≤ X.2 37 t := by
  obtain ⟨⟨B, I, W, ⟨⟨⟨s1, -⟩, -, ⟨s3, -⟩, -⟩, -⟩, -⟩, -⟩ := h.2.2.2.1.1 t t0 t1 hl
  exact ⟨s3, s1⟩
theorem I1.dsj {G : GT} {cC : Int → Nat} {E : Int} {X : XX} {vc v : VV} (h : I1 G cC E X vc v) : Dsj X := h.2.2.2.1.2
theorem I1.fld {G : GT} {cC : Int → Nat} {E : Int} {X : XX} {vc v : VV} (h : I1 G cC E X vc v) {t a f ρ : Int} (ht : isT v t) (hf : (f = 8 ∧ ρ = 56 ∧ -1 ≤ a ∧ a ≤ 9) ∨ (f = 9 ∧ ρ = 57 ∧ -1 ≤ a ∧ a ≤ 1000)) : I1 G cC E X (upd2 vc (X.2 37 t) f a) (upd2 v ρ t a) := by
  obtain ⟨l0, l1, l2⟩ := (h.live t).mp ht
  have hD := h.dsj
  have hnm := fun s s0 s1 hl => h.nm (t := s) s0 s1 hl
  obtain ⟨h1, h2, h3, h4, h5⟩ := h
  have hO := h4.obj
  have hK := h4.col
  have hM := h2.1.2.1
  have u : ∀ r j : Int, ¬ (r = ρ ∧ j = t) → upd2 v ρ t a r j = v r j := fun r j hh => upd2_n _ hh
  have g : ∀ r j : Int, ¬ (r = X.2 37 t ∧ j = f) → upd2 vc (X.2 37 t) f a r j = vc r j := fun r j hh => upd2_n _ hh
  have hSm : SmT (v 47 0) v (upd2 v ρ t a) := SmT.fr (S := fun r j => r = ρ ∧ j = t) (Fr.rf.up ⟨rfl, rfl⟩) (fun r j q => by omega)
  have e0 : upd2 v ρ t a 47 0 = v 47 0 := u 47 0 (by omega)
  have hM' : MT (upd2 v ρ t a) := fun s s0 s1 => by
    rw [e0] at s1
    have hm := hM s s0 s1
    unfold MTt at hm ⊢
    rw [u 48 s (by omega), u 50 s (by omega), u 51 s (by omega), u 54 s (by omega), u 58 s (by omega), u 59 s (by omega)]
    obtain ⟨m1, m2, m3, m4, m5, m6, m7, m8, m9, m10⟩ := hm
    refine ⟨m1, m2, m3, m4, fun k k0 k1 => ?_, m6, m7, ?_, ?_, m10⟩
    · rw [u 55 _ (by omega), u 48 _ (by omega)]; exact m5 k k0 k1
    · by_cases z : (56 : Int) = ρ ∧ s = t
      · rw [z.1, z.2, upd2_s]; omega
      · rw [u 56 s z]; exact m8
    · by_cases z : (57 : Int) = ρ ∧ s = t
      · rw [z.1, z.2, upd2_s]; omega
      · rw [u 57 s z]; exact m9
  have hb' : MB (upd2 v ρ t a) := by
    obtain ⟨b1, b2, b3, b4, b5⟩ := h2.1.1
    unfold MB
    rw [u 47 0 (by omega), u 47 22 (by omega), u 47 57 (by omega), u 47 59 (by omega), u 47 64 (by omega)]
    exact ⟨b1, b2, b3, b4, b5⟩
  have hTt : ∀ s, isT (upd2 v ρ t a) s ↔ isT v s := fun s => by unfold isT; rw [e0, u 48 s (by omega)]
  have hMI : MIn G E (upd2 v ρ t a) := by
    refine h2.sm hb' hM' e0 hSm (fun s hs => ⟨⟨(hTt s).mp hs.1, by have := hs.2; rw [u 50 s (by omega)] at this; exact this⟩, u 54 s (by omega)⟩) (h2.2.1.fr (S := fun r j => r = ρ ∧ j = t) (Fr.rf.up ⟨rfl, rfl⟩) (fun j j0 j1 => by omega)) ?_ (h2.2.2.2.1.sm e0 (u 47 59 (by omega)) (fun r j hr => u r j (by omega))) ?_ (fun s c hc => ?_)
    · rw [u 47 52 (by omega), u 47 65 (by omega), u 47 50 (by omega)]; exact h2.2.2.1
    · have e68 : upd2 v ρ t a 68 = v 68 := funext fun j => u 68 j (by omega)
      rw [e68, u 47 22 (by omega)]; exact h2.2.2.2.2.1
    · refine ⟨⟨(hTt s).mp hc.1, ?_⟩, u 53 _ (by omega)⟩
      have := hc.2
      rw [u 51 s (by omega)] at this
      exact this
  have h51 : ∀ s, 0 ≤ s → s < v 47 0 → 0 ≤ v 51 s ∧ v 51 s ≤ 6 := fun s s0 s1 => by
    obtain ⟨-, -, m3, -⟩ := hM s s0 s1
    exact ⟨by omega, m3.2⟩
  refine ⟨h1, hMI, ?_, ⟨fun s s0 s1 hl => ?_, h4.2⟩, ?_⟩
  · refine (h3.cw (w := upd2 vc (X.2 37 t) f a) (fun s s0 s1 hl => ?_)).m hO hK e0 (fun s => u 48 s (by omega)) hSm (fun s c _ _ _ _ => u 53 _ (by omega))
    obtain ⟨n1, n2⟩ := hnm s s0 s1 hl
    refine ⟨g _ _ (by omega), fun c _ _ => ⟨g _ _ (fun q => ?_), g _ _ (fun q => ?_)⟩⟩
    · rw [n1] at q
      by_cases z : s = t
      · rw [z] at q; omega
      · have := hD.ne ⟨s0, s1⟩ ⟨l0, l1⟩ hl l2 z
        omega
    · have := (hnm t l0 l1 l2).2; omega
  · obtain ⟨k1, k2, k3⟩ := h4.1 s s0 s1 hl
    have hs := (h3.2 s s0 s1).1.mpr hl
    have e := ag_sm (v := v) (V := upd2 v ρ t a) (fun r j hr => u r j (by omega)) s
    by_cases z : s = t
    · subst z
      obtain ⟨B, I, W, p1, ⟨p2, p3, p4⟩, p5, ⟨p6, p7, p8⟩, p9⟩ := k1
      have hk2 : TabN G X vc (upd2 (upd2 v ρ s a) ρ s (v ρ s)) (cC s) s (X.2 37 s) := by rw [upd2_uu, upd2_id]; exact ⟨B, I, W, p1, ⟨p2, p3, p4⟩, p5, ⟨p6, p7, p8⟩, p9⟩
      have gc : ∀ r j : Int, X.2 37 s ≤ r → ¬ (r = X.2 37 s ∧ j = f) → upd2 vc (X.2 37 s) f a r j = vc r j := fun r j _ hh => g r j hh
      have hsh := p1.1
      refine ⟨⟨B, I, W, p1, ⟨?_, ?_, ?_⟩, ⟨?_, fun k i0 i1 => ?_⟩, ⟨?_, ?_, ?_⟩, ?_, fun y => ?_⟩, ?_, ?_⟩
      · rw [g _ 5 (by omega), u 50 _ (by omega)]; exact p2
      · by_cases y : (8 : Int) = f
        · have : ρ = 56 := by omega
          rw [← y, this, upd2_s, upd2_s]
        · rw [g _ 8 (by omega), u 56 _ (by omega)]; exact p3
      · by_cases y : (9 : Int) = f
        · have : ρ = 57 := by omega
          rw [← y, this, upd2_s, upd2_s]
        · rw [g _ 9 (by omega), u 57 _ (by omega)]; exact p4
      · rw [g _ 1 (by omega), u 54 _ (by omega)]; exact p5.1
      · rw [u 54 _ (by omega)] at i1
        rw [g _ k (by omega), u 55 _ (by omega)]; exact p5.2 k i0 i1
      · rw [g _ 1 (by omega)]; exact p6
      · rw [g _ 1 (by omega)]; exact p7
      · exact (p8.c (w := upd2 vc (X.2 37 s) f a) (fun r j r0 r1 => g r j (by omega))).m p1.2.1.2 hSm ⟨s0, hs.1⟩ (u 50 _ (by omega)) (u 54 _ (by omega)) (hM s s0 hs.1).bh h51
      · rw [g _ 1 (by omega)]; exact p9.1
      · rw [u 50 _ (by omega)] at y
        rw [u 60 _ (by omega)]
        obtain ⟨y1, y2⟩ := p9.2 y
        exact ⟨by rw [g _ 1 (by omega)]; exact y1, fun i x hx => by rw [g _ _ (by omega)]; exact y2 i x hx⟩
      · rw [e, g _ 6 (by omega)]; exact k2
      · rw [e, g _ 7 (by omega)]; exact k3
    · have hd := hD.ne ⟨s0, s1⟩ ⟨l0, l1⟩ hl l2 z
      have gs : ∀ r j, X.2 37 s ≤ r → r < X.2 37 s + 13 → upd2 vc (X.2 37 t) f a r j = vc r j := fun r j r0 r1 => g r j (by omega)
      refine ⟨(k1.c (fun r j r0 r1 _ => gs r j r0 r1)).m hSm ⟨s0, hs.1⟩ (u 50 s (by omega)) (u 54 s (by omega)) (u 56 s (by omega)) (u 57 s (by omega)) (hM s s0 hs.1).bh h51, ?_, ?_⟩
      · rw [e, gs _ 6 (by omega) (by omega)]; exact k2
      · rw [e, gs _ 7 (by omega) (by omega)]; exact k3
  · exact (h5.tab (vc' := vc) (cC := cC) (G := G) (fun s s0 s1 hl => (h4.1 s s0 s1 hl).1) (fun r j _ hn => g r j (fun q => hn ⟨t, ⟨l0, l1⟩, l2, by omega, by omega⟩))).m (u 47 59 (by omega)) (fun a' _ _ => ⟨u 83 a' (by omega), u 84 a' (by omega), u 85 a' (by omega)⟩)
/-- a table object is none of the class's own cells -/
theorem I1.hi {G : GT} {cC : Int → Nat} {E : Int} {X : XX} {vc v : VV} (h : I1 G cC E X vc v) {t : Int} (ht : isT v t) : 87 ≤ X.2 37 t ∧ X.1.2 (X.2 37 t) = (7, 0) ∧ X.2 37 t < X.1.1 := by
  obtain ⟨l0, l1, l2⟩ := (h.live t).mp ht
  rcases h.2.2.2.1.obj t l0 l1 with z | ⟨z1, z2⟩
  · exact absurd z l2
  · exact ⟨z2.1, z1, z2.2⟩
theorem Scal.cm {vc w v V : VV} (h : Scal vc v) (e : ∀ r j : Int, 0 ≤ r → r < 47 → w r j = vc r j) (e2 : ∀ r j : Int, (r = 47 ∨ r = 68 ∨ r = 81) → V r j = v r j) : Scal w V := by
  have h2 := h.eq e
  unfold Scal at h2 ⊢
  have e68 : V 68 = v 68 := funext fun j => e2 68 j (by omega)
  have e81 : V 81 = v 81 := funext fun j => e2 81 j (by omega)
  have e47 : V 47 = v 47 := funext fun j => e2 47 j (by omega)
  rw [e68, e81, e47]
  exact h2
set_option maxRecDepth 100000 in
set_option maxHeartbeats 4000000 in
theorem k_promise {X : XX} {v : VV} (hW : SW X) (hTO : TObj X) (a1 a2 : Int) : CX mX10_promise 1 [(2, 0), (0, a1), (0, a2)] X v (fun o v1 => ((0 ≤ a1 ∧ a1 < 16 ∧ ¬ X.2 37 a1 = -1) ∧ (-1 ≤ a2 ∧ a2 ≤ 1000) ∧ v1 = upd2 v (X.2 37 a1) 9 a2 ∧ o = some (0, 1)) ∨ (¬ ((0 ≤ a1 ∧ a1 < 16 ∧ ¬ X.2 37 a1 = -1) ∧ (-1 ≤ a2 ∧ a2 ≤ 1000)) ∧ v1 = v ∧ o = some (0, 0))) := by
  refine CX.of (by decide +kernel) rfl rfl rfl (bX10_promise_0 a1 a2 (Nat.le_refl _) hW (fun _ _ => ⟨_, k_tableAt hW a1, fun r2 w3 hP => ?_⟩))
  obtain ⟨rfl, hr⟩ := hP
  by_cases ha : 0 ≤ a1 ∧ a1 < 16
  · obtain rfl : r2 = X.2 37 a1 := by rw [if_pos ha] at hr; simpa using hr
    refine ⟨fun g => ⟨rfl, Or.inr ⟨fun z => z.1.2.2 g, rfl, rfl⟩⟩, fun g => ⟨fun g2 => ⟨rfl, Or.inr ⟨fun z => by omega, rfl, rfl⟩⟩, fun g2 => ⟨fun g3 => ?_, fun g3 => ⟨rfl, Or.inr ⟨fun z => by omega, rfl, rfl⟩⟩⟩⟩⟩
    obtain ⟨o1, o2⟩ := (hTO a1 ha.1 ha.2).elim (fun z => absurd z g) id
    exact ⟨o1, ⟨by omega, o2.2⟩, rfl, Or.inl ⟨⟨ha.1, ha.2, g⟩, ⟨g2, g3⟩, rfl, rfl⟩⟩
  · obtain rfl : r2 = -1 := by rw [if_neg ha] at hr; simpa using hr
    exact ⟨fun g => ⟨rfl, Or.inr ⟨fun z => ha ⟨z.1.1, z.1.2.1⟩, rfl, rfl⟩⟩, fun g => absurd rfl g⟩
set_option maxRecDepth 100000 in
set_option maxHeartbeats 4000000 in
theorem k_own {X : XX} {v : VV} (hW : SW X) (hTO : TObj X) (a1 a2 : Int) : CX mX10_own 1 [(2, 0), (0, a1), (0, a2)] X v (fun o v1 => ((0 ≤ a1 ∧ a1 < 16 ∧ ¬ X.2 37 a1 = -1) ∧ (-1 ≤ a2 ∧ a2 ≤ 9) ∧ v1 = upd2 v (X.2 37 a1) 8 a2 ∧ o = some (0, 1)) ∨ (¬ ((0 ≤ a1 ∧ a1 < 16 ∧ ¬ X.2 37 a1 = -1) ∧ (-1 ≤ a2 ∧ a2 ≤ 9)) ∧ v1 = v ∧ o = some (0, 0))) := by
  refine CX.of (by decide +kernel) rfl rfl rfl (bX10_own_0 a1 a2 (Nat.le_refl _) hW (fun _ _ => ⟨_, k_tableAt hW a1, fun r2 w3 hP => ?_⟩))
  obtain ⟨rfl, hr⟩ := hP
  by_cases ha : 0 ≤ a1 ∧ a1 < 16
  · obtain rfl : r2 = X.2 37 a1 := by rw [if_pos ha] at hr; simpa using hr
    refine ⟨fun g => ⟨rfl, Or.inr ⟨fun z => z.1.2.2 g, rfl, rfl⟩⟩, fun g => ⟨fun g2 => ⟨rfl, Or.inr ⟨fun z => by omega, rfl, rfl⟩⟩, fun g2 => ⟨fun g3 => ?_, fun g3 => ⟨rfl, Or.inr ⟨fun z => by omega, rfl, rfl⟩⟩⟩⟩⟩
    obtain ⟨o1, o2⟩ := (hTO a1 ha.1 ha.2).elim (fun z => absurd z g) id
    exact ⟨o1, ⟨by omega, o2.2⟩, rfl, Or.inl ⟨⟨ha.1, ha.2, g⟩, ⟨g2, g3⟩, rfl, rfl⟩⟩
  · obtain rfl : r2 = -1 := by rw [if_neg ha] at hr; simpa using hr
    exact ⟨fun g => ⟨rfl, Or.inr ⟨fun z => ha ⟨z.1.1, z.1.2.1⟩, rfl, rfl⟩⟩, fun g => absurd rfl g⟩
theorem s_promise {G : GT} {cC : Int → Nat} {E : Int} {X : XX} {v : VV} (h : I2 G cC E X v (mp v)) (a b : Int) : StpOK mX10_promise mX11_promise 1 1 [(0, a), (0, b)] E X v := by
  obtain ⟨h1, hs⟩ := id h
  have hL := h1.live a
  refine StpOK.cx h.1.1 (k_promise h1.1 h1.2.2.2.1.obj a b) (fun o w hp => ?_)
  rcases hp with ⟨l, hb, rfl, ho⟩ | ⟨hn, rfl, ho⟩
  · have ht := hL.mpr l
    have hhi := (h1.hi ht).1
    have em : mp (upd2 v (X.2 37 a) 9 b) = mp v := (Fr.rf.up (S := fun r j => r = X.2 37 a ∧ j = 9) ⟨rfl, rfl⟩).emq (fun r j q => by omega)
    have e0 : upd2 v (X.2 37 a) 9 b 47 0 = v 47 0 := upd2_n _ (by omega)
    have e48 : upd2 v (X.2 37 a) 9 b 48 a = v 48 a := upd2_n _ (by omega)
    refine ⟨1, ho, (c_promise h1.1 (by rw [e0]; exact h1.2.1.1.1.1.2) a b).mono (fun o' w' hq => ?_)⟩
    have ht' : isT (upd2 v (X.2 37 a) 9 b) a := by unfold isT; rw [e0, e48]; exact ht
    rcases hq with ⟨-, -, rfl, ho'⟩ | ⟨q, -⟩
    · refine ⟨ho', G, cC, ?_⟩
      rw [mp_upd ⟨by decide, by decide⟩, em]
      exact I2.ecq ⟨(h1.fld ht (Or.inr ⟨rfl, rfl, hb.1, hb.2⟩)).mono (by omega), hs.cm (fun r j _ q => upd2_n _ (by omega)) (fun r j q => upd2_n _ (by omega))⟩ ((Ecq.rf _).up ⟨by decide, by decide⟩)
    · exact absurd ⟨ht', hb⟩ q
  · refine ⟨0, ho, (c_promise h1.1 (show w 47 0 ≤ 16 from h1.2.1.1.1.1.2) a b).mono (fun o' w' hq => ?_)⟩
    rcases hq with ⟨q1, q2, -⟩ | ⟨-, rfl, ho'⟩
    · exact absurd ⟨hL.mp q1, q2⟩ hn
    · exact ⟨ho', G, cC, h.mono (by omega)⟩
theorem s_own {G : GT} {cC : Int → Nat} {E : Int} {X : XX} {v : VV} (h : I2 G cC E X v (mp v)) (a b : Int) : StpOK mX10_own mX11_own 1 1 [(0, a), (0, b)] E X v := by
  obtain ⟨h1, hs⟩ := id h
  have hL := h1.live a
  refine StpOK.cx h.1.1 (k_own h1.1 h1.2.2.2.1.obj a b) (fun o w hp => ?_)
  rcases hp with ⟨l, hb, rfl, ho⟩ | ⟨hn, rfl, ho⟩
  · have ht := hL.mpr l
    have hhi := (h1.hi ht).1
    have em : mp (upd2 v (X.2 37 a) 8 b) = mp v := (Fr.rf.up (S := fun r j => r = X.2 37 a ∧ j = 8) ⟨rfl, rfl⟩).emq (fun r j q => by omega)
    have e0 : upd2 v (X.2 37 a) 8 b 47 0 = v 47 0 := upd2_n _ (by omega)
    have e48 : upd2 v (X.2 37 a) 8 b 48 a = v 48 a := upd2_n _ (by omega)
    refine ⟨1, ho, (c_own h1.1 (by rw [e0]; exact h1.2.1.1.1.1.2) a b).mono (fun o' w' hq => ?_)⟩
    have ht' : isT (upd2 v (X.2 37 a) 8 b) a := by unfold isT; rw [e0, e48]; exact ht
    rcases hq with ⟨-, -, rfl, ho'⟩ | ⟨q, -⟩
    · refine ⟨ho', G, cC, ?_⟩
      rw [mp_upd ⟨by decide, by decide⟩, em]
      exact I2.ecq ⟨(h1.fld ht (Or.inl ⟨rfl, rfl, hb.1, hb.2⟩)).mono (by omega), hs.cm (fun r j _ q => upd2_n _ (by omega)) (fun r j q => upd2_n _ (by omega))⟩ ((Ecq.rf _).up ⟨by decide, by decide⟩)
    · exact absurd ⟨ht', hb⟩ q
  · refine ⟨0, ho, (c_own h1.1 (show w 47 0 ≤ 16 from h1.2.1.1.1.1.2) a b).mono (fun o' w' hq => ?_)⟩
    rcases hq with ⟨q1, q2, -⟩ | ⟨-, rfl, ho'⟩
    · exact absurd ⟨hL.mp q1, q2⟩ hn
    · exact ⟨ho', G, cC, h.mono (by omega)⟩
