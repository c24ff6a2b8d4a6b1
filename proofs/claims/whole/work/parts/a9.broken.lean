/-! ===== what is found, on either side ===== -/
def S43 (r j : Int) : Prop := (r = 43 ∧ j = 1) ∨ r = 44
def Fnd (p : Int → Prop) (v : VV) (x : Int) (V : VV) : Prop := Fr S43 v V ∧ FLx p x (V 43 1) (V 44) ∧ 0 ≤ V 43 1 ∧ V 43 1 ≤ x
theorem Fnd.skip {p : Int → Prop} {v V : VV} {x : Int} (h : Fnd p v x V) (h0 : 0 ≤ x) (hp : ¬ p x) : Fnd p v (x + 1) V := ⟨h.1, h.2.1.skip h0 hp, h.2.2.1, by have := h.2.2.2; omega⟩
theorem Fnd.add {p : Int → Prop} {v V : VV} {x : Int} (h : Fnd p v x V) (h0 : 0 ≤ x) (hp : p x) : Fnd p v (x + 1) (rAdd V 43 44 x) := by
  obtain ⟨h1, h2, h3, h4⟩ := h
  have e1 : rAdd V 43 44 x 43 1 = V 43 1 + 1 := by unfold rAdd; rw [upd2_s]
  refine ⟨h1.via (rAdd_fr (S := S43) (Or.inl ⟨rfl, rfl⟩) (fun _ => Or.inr rfl)) (fun _ _ q => q) (fun _ _ q => q), ?_, by omega, by omega⟩
  rw [e1]
  refine h2.add h0 hp ?_ (fun i hi => ?_)
  · unfold rAdd; rw [upd2_n _ (by omega), upd2_s]
  · unfold rAdd; rw [upd2_n _ (by omega), upd2_n _ (by omega)]
theorem Fnd.zero {p : Int → Prop} {v : VV} (h : 0 ≤ v 43 1) : Fnd p v 0 (rCut v 43 0) := by
  have e := rCut_0 h
  exact ⟨fun r j hn => rCut_n (fun q => hn (Or.inl q)), by rw [e]; exact FLx.zero _ _, by omega, by omega⟩
/-- both found the same -/
theorem I2.found {G : GT} {cC : Int → Nat} {E : Int} {X : XX} {v w w' : VV} (h : I2 G cC E X v (mp v)) (hf : Fr (fun r j => (35 ≤ r ∧ r ≤ 36) ∨ r = 39 ∨ (41 ≤ r ∧ r ≤ 46)) v w) (h45 : 0 ≤ w 45 1) (hr : Fr (fun r j => (r = 47 ∧ j = 57) ∨ (78 ≤ r ∧ r ≤ 81)) w w') {p : Int → Prop} {N : Nat} (hN : w 43 1 ≤ 128) (hc : FLs p N (w 43 1) (w 44)) (hm : FLs p N (w' 47 57) (w' 81)) : I2 G cC (E + 10000) X w' (mp w') ∧ w 43 1 = w' 47 57 := by
  obtain ⟨h1, hs⟩ := h
  obtain ⟨q1, q2⟩ := hc.unique hm
  have hN2 := cnt_bd p N
  have hl : w 43 1 = cnt p N := hc.1
  have em : mp w = mp v := hf.emq (fun r j q => by omega)
  have g : ∀ r j : Int, ¬ ((35 ≤ r ∧ r ≤ 36) ∨ r = 39 ∨ (41 ≤ r ∧ r ≤ 46)) → w r j = v r j := hf
  have u : ∀ r j : Int, ¬ ((r = 47 ∧ j = 57) ∨ (78 ≤ r ∧ r ≤ 81)) → w' r j = w r j := hr
  have hEc : Ecq w w' := fun r j hh => u r j (by omega)
  have um : ∀ r j : Int, 47 ≤ r → r ≤ 86 → ¬ ((r = 47 ∧ j = 57) ∨ (78 ≤ r ∧ r ≤ 81)) → mp w' r j = mp v r j := fun r j r0 r1 hn => by rw [mp_in w' j ⟨r0, r1⟩, u r j hn, ← em, mp_in w j ⟨r0, r1⟩]
  have hI : I2 G cC (E + 10000) X w (mp w') := by
    have hfm : Fr RSc (mp v) (mp w') := fun r j hn => by
      by_cases z : 47 ≤ r ∧ r ≤ 86
      · exact um r j z.1 z.2 (fun q => hn (by unfold RSc; omega))
      · rw [mp_out _ _ z, mp_out _ _ z]
    obtain ⟨b1, b2, b3, b4, b5⟩ := h1.2.1.1.1
    obtain ⟨c1, c2, c3, c4⟩ := h1.2.1.2.2.1
    refine ⟨(h1.c (hf.mono (fun r j hn q => hn (by unfold Scr; omega)))).rs hfm ⟨?_, ?_, ?_, ?_, ?_⟩ ⟨?_, ?_, ?_, ?_⟩ ?_, ?_⟩
    · rw [um 47 0 (by decide) (by decide) (by omega)]; exact b1
    · rw [um 47 22 (by decide) (by decide) (by omega)]; exact b2
    · have e : mp w' 47 57 = w' 47 57 := rfl
      rw [e, ← q1]; omega
    · rw [um 47 59 (by decide) (by decide) (by omega)]; exact b4
    · rw [um 47 64 (by decide) (by decide) (by omega)]; exact b5
    · rw [um 47 52 (by decide) (by decide) (by omega)]; exact c1
    · rw [um 47 65 (by decide) (by decide) (by omega)]; exact c2
    · rw [um 47 50 (by decide) (by decide) (by omega)]; exact c3
    · rw [um 47 50 (by decide) (by decide) (by omega)]; omega
    · have e68 : mp w' 68 = mp v 68 := funext fun j => um 68 j (by decide) (by decide) (by omega)
      rw [e68, um 47 22 (by decide) (by decide) (by omega)]; exact h1.2.1.2.2.2.2.1
    · obtain ⟨⟨t1, t2, t3, t4, t5⟩, ⟨s2, s3⟩, s4, ⟨d1, d2, d3, d4, d5, d6⟩, s6⟩ := hs
      refine ⟨⟨?_, ?_, ?_, ?_, ?_⟩, ⟨?_, fun i i0 i1 => ?_⟩, ⟨q1, by omega, fun i i0 i1 => ?_⟩, ⟨?_, ?_, ?_, ?_, ?_, h45⟩, ?_⟩
      · rw [g 0 11 (by omega), um 47 0 (by decide) (by decide) (by omega)]; exact t1
      · rw [g 0 12 (by omega), um 47 59 (by decide) (by decide) (by omega)]; exact t2
      · rw [g 0 13 (by omega), um 47 64 (by decide) (by decide) (by omega)]; exact t3
      · rw [g 0 14 (by omega), um 47 27 (by decide) (by decide) (by omega)]; exact t4
      · rw [g 0 15 (by omega), um 47 28 (by decide) (by decide) (by omega)]; exact t5
      · rw [g 1 1 (by omega), um 47 22 (by decide) (by decide) (by omega)]; exact s2
      · rw [um 47 22 (by decide) (by decide) (by omega)] at i1
        rw [g 2 i (by omega), um 68 i (by decide) (by decide) (by omega)]; exact s3 i i0 i1
      · have e : mp w' 47 57 = w' 47 57 := rfl
        rw [e] at i1
        exact q2 i i0 (by omega)
      · rw [g 6 1 (by omega)]; exact d1
      · rw [g 8 1 (by omega)]; exact d2
      · rw [g 10 1 (by omega)]; exact d3
      · rw [g 13 1 (by omega)]; exact d4
      · rw [g 15 1 (by omega)]; exact d5
      · exact s6.eq (fun r j hr => g r j (by omega))
  exact ⟨hI.ecq hEc, q1⟩
/-! ===== broken, late ===== -/
set_option maxRecDepth 100000 in
set_option maxHeartbeats 4000000 in
theorem k_isBelow {X : XX} {v : VV} {o : Int} (hW : SW X) (hs : X.1.2 o = (7, 0) ∧ (0 ≤ o ∧ o < X.1.1)) (lim : Int) : CX mX10_isBelow 0 [(2, o), (0, lim)] X v (fun o1 v1 => v1 = v ∧ o1 = some (0, bI (v o 7 = -1 ∨ v o 7 < lim))) := by
  refine CX.of (by decide +kernel) rfl rfl rfl (bX10_isBelow_0 o lim (Nat.le_refl _) hW (fun _ => ⟨hs.1, hs.2, fun g => ⟨rfl, rfl, ?_⟩, fun g => ⟨fun g2 => ⟨rfl, rfl, ?_⟩, fun g2 => ⟨rfl, rfl, ?_⟩⟩⟩))
  · rw [bI_t (Or.inl g)]
  · rw [bI_f (fun z => z.elim g (fun y => by omega))]
  · rw [bI_t (Or.inr g2)]
set_option maxRecDepth 100000 in
set_option maxHeartbeats 4000000 in
theorem k_isBroken {X : XX} {v : VV} {o : Int} (hW : SW X) (hs : ¬ o = -1 → X.1.2 o = (7, 0) ∧ (0 ≤ o ∧ o < X.1.1)) (hd : 0 ≤ v 0 13 ∧ v 0 13 ≤ 30000) (hl : ¬ o = -1 → -1 ≤ v o 9 ∧ v o 9 ≤ 1000) : CX mX10_isBroken 1 [(2, 0), (2, o)] X v (fun o1 v1 => v1 = v ∧ o1 = some (0, bI (¬ o = -1 ∧ ¬ v o 9 = -1 ∧ (v o 7 = -1 ∨ v o 7 < v 0 13 - v o 9)))) := by
  refine CX.of (by decide +kernel) rfl rfl rfl (bX10_isBroken_0 o (Nat.le_refl _) hW ⟨fun g => ⟨rfl, rfl, ?_⟩, fun g => ?_⟩)
  · rw [bI_f (fun z => z.1 g)]
  · have hl' := hl g
    refine ⟨(hs g).1, (hs g).2, fun g2 => ⟨rfl, rfl, ?_⟩, fun g2 => ⟨fun _ _ => ⟨by omega, by omega⟩, _, k_isBelow hW (hs g) _, fun r3 w4 hP => ?_⟩⟩
    · rw [bI_f (fun z => z.2.1 g2)]
    · obtain ⟨rfl, hr⟩ := hP
      obtain rfl : r3 = bI (w4 o 7 = -1 ∨ w4 o 7 < w4 0 13 - w4 o 9) := by simpa using hr
      refine ⟨fun g3 => ⟨rfl, rfl, ?_⟩, fun g3 => ⟨rfl, rfl, ?_⟩⟩
      · rw [bI_f (fun z => bI_0.mp g3 z.2.2)]
      · rw [bI_t ⟨g, g2, bI_n0.mp g3⟩]
theorem brk_iff {G : GT} {cC : Int → Nat} {E : Int} {X : XX} {vc w v : VV} (h : I1 G cC E X vc v) (h13 : vc 0 13 = v 47 64) (hw : ∀ r j : Int, (r = 0 ∨ 87 ≤ r) → w r j = vc r j) {t : Int} (ht : isT v t) : (¬ X.2 37 t = -1 ∧ ¬ w (X.2 37 t) 9 = -1 ∧ (w (X.2 37 t) 7 = -1 ∨ w (X.2 37 t) 7 < w 0 13 - w (X.2 37 t) 9)) ↔ brk v t := by
  have hh := (h.hi ht).1
  obtain ⟨⟨B, I, W, -, ⟨-, -, p9⟩, -⟩, a6, a7⟩ := h.tab ht
  rw [hw _ _ (Or.inr hh), hw _ _ (Or.inr hh), hw 0 13 (Or.inl rfl), h13, p9, a7]
  unfold brk
  exact ⟨fun z => z.2, fun z => ⟨by omega, z⟩⟩
set_option maxRecDepth 100000 in
set_option maxHeartbeats 4000000 in
theorem k_broken {G : GT} {cC : Int → Nat} {E : Int} {X : XX} {vc v : VV} (h : I1 G cC E X vc v) (h13 : vc 0 13 = v 47 64) (h43 : 0 ≤ vc 43 1) : CX mX10_broken 2 [(2, 0)] X vc (fun o w => Fnd (fun t => isT v t ∧ brk v t) vc 16 w ∧ o = some (0, w 43 1)) := by
  have hM := h.2.1.1.2.1
  have h64 := h.2.1.1.1.2.2.2.2
  have key : ∀ (x : Int) (V : VV), (0 ≤ x ∧ x ≤ 16) → Fnd (fun t => isT v t ∧ brk v t) vc x V → Ex mX10_broken 2 10 [(2, 0), (0, x)] [] X V 0 0 (fun o X1 w => X1 = X ∧ Fnd (fun t => isT v t ∧ brk v t) vc 16 w ∧ o = some (0, w 43 1)) := by
    refine loop2 (fun (x : Int) (_ : VV) => (16 - x).toNat) (fun (x : Int) (V : VV) => (0 ≤ x ∧ x ≤ 16) → Fnd (fun t => isT v t ∧ brk v t) vc x V → Ex mX10_broken 2 10 [(2, 0), (0, x)] [] X V 0 0 (fun o X1 w => X1 = X ∧ Fnd (fun t => isT v t ∧ brk v t) vc 16 w ∧ o = some (0, w 43 1))) (fun x V ih => ?_)
    intro hx hF
    have g0 : ∀ r j : Int, (r = 0 ∨ 87 ≤ r) → V r j = vc r j := fun r j hr => hF.1 r j (by unfold S43; omega)
    have hlx := h.live x
    refine bX10_broken_10 x (Nat.le_refl _) h.1 (fun _ => ⟨fun g => ⟨_, k_size h.1 (rowS43 h.1), fun r6 w7 hP => ?_⟩, fun g => ⟨⟨hx.1, g⟩, _, k_isBroken h.1 (fun z => ?_) (by rw [g0 0 13 (Or.inl rfl), h13]; exact h64) (fun z => ?_), fun r10 w11 hP => ?_⟩⟩)
    · obtain ⟨rfl, hr⟩ := hP
      have e : x = 16 := by omega
      rw [e] at hF
      exact ⟨rfl, hF, hr⟩
    · have := h.hi (hlx.mpr ⟨hx.1, g, z⟩)
      exact ⟨this.2.1, by omega, this.2.2⟩
    · have ht := hlx.mpr ⟨hx.1, g, z⟩
      obtain ⟨⟨B, I, W, -, ⟨-, -, p9⟩, -⟩, -⟩ := h.tab ht
      rw [g0 _ _ (Or.inr (h.hi ht).1), p9]
      obtain ⟨-, -, -, -, -, -, -, -, m9, -⟩ := hM x ht.1 ht.2.1
      exact m9
    · obtain ⟨rfl, hr⟩ := hP
      have hiff : (¬ X.2 37 x = -1 ∧ ¬ w11 (X.2 37 x) 9 = -1 ∧ (w11 (X.2 37 x) 7 = -1 ∨ w11 (X.2 37 x) 7 < w11 0 13 - w11 (X.2 37 x) 9)) ↔ (isT v x ∧ brk v x) := by
        constructor
        · intro z
          have ht := hlx.mpr ⟨hx.1, g, z.1⟩
          exact ⟨ht, (brk_iff h h13 g0 ht).mp z⟩
        · rintro ⟨z1, z2⟩
          exact (brk_iff h h13 g0 z1).mpr z2
      obtain rfl : r10 = bI (isT v x ∧ brk v x) := by rw [bI_iff hiff] at hr; simpa using hr
      refine ⟨fun g2 => ⟨⟨by omega, by omega⟩, ih (x + 1) w11 (by omega) ⟨by omega, by omega⟩ (hF.skip hx.1 (bI_0.mp g2))⟩, fun g2 => ⟨_, k_add h.1 (rowS43 h.1) (by decide) ⟨hF.2.2.1, by have := hF.2.2.2; show w11 43 1 < ((128 : Nat) : Int); omega⟩ x, fun w15 hP => ⟨⟨by omega, by omega⟩, ?_⟩⟩⟩
      have e : w15 = rAdd w11 43 44 x := hP
      rw [e]
      exact ih (x + 1) _ (by omega) ⟨by omega, by omega⟩ (hF.add hx.1 (bI_n0.mp g2))
  refine CX.of (by decide +kernel) rfl rfl rfl (bX10_broken_0 (Nat.le_refl _) h.1 ⟨_, k_cut h.1 (rowS43 h.1) 0, fun w3 hP => ?_⟩)
  have e : w3 = rCut vc 43 0 := hP
  rw [e]
  exact key 0 _ ⟨by decide, by decide⟩ (Fnd.zero h43)
theorem brk_mp (v : VV) (t : Int) : brk (mp v) t ↔ brk v t := by
  unfold brk
  rw [ag_mp]
  exact Iff.rfl
theorem Fnd.fr {p : Int → Prop} {v V : VV} {x : Int} (h : Fnd p v x V) : Fr (fun r j => (35 ≤ r ∧ r ≤ 36) ∨ r = 39 ∨ (41 ≤ r ∧ r ≤ 46)) v V := h.1.mono (fun r j hn q => hn (by unfold S43 at q; omega))
theorem s_broken {G : GT} {cC : Int → Nat} {E : Int} {X : XX} {v : VV} (h : I2 G cC E X v (mp v)) : StpOK mX10_broken mX11_broken 2 2 [] E X v := by
  obtain ⟨h1, hs⟩ := id h
  have hb16 := h1.2.1.1.1.1
  refine StpOK.cx h.1.1 (k_broken h1 hs.1.2.2.1 (by rw [hs.2.2.1.1]; exact h1.2.1.1.1.2.2.1.1)) (fun o w hp => ?_)
  obtain ⟨hF, ho⟩ := hp
  have em : mp w = mp v := hF.1.emq (fun r j q => by unfold S43 at q; omega)
  have hMw := h1.at em
  refine ⟨_, ho, (c_broken h1.1 hMw.1.1 hMw.1.2.1).mono (fun o' w' hq => ?_)⟩
  obtain ⟨⟨-, k2, k3, k4, k5⟩, ho'⟩ := hq
  have e0 : w 47 0 = mp v 47 0 := by rw [← em]; rfl
  have hm := k3.fin
  have hm2 : FLs (fun t => isT (mp v) t ∧ brk (mp v) t) 16 (w' 47 57) (w' 81) := by
    refine hm.congr (fun i i0 i1 => ?_) (by omega) (fun i i0 i1 z => ?_)
    · rw [Int.toNat_of_nonneg (by omega)] at i1
      rw [← em, brk_mp]
      exact ⟨fun z => ⟨⟨i0, i1, z.1⟩, z.2⟩, fun z => ⟨z.1.2.2, z.2⟩⟩
    · have := z.1.2.1
      omega
  obtain ⟨q1, q2⟩ := h.found hF.fr (by rw [hF.1 45 1 (by unfold S43; omega)]; exact hs.2.2.2.1.2.2.2.2.2) (fun r j hn => k2 r j (by omega)) (N := 16) (by have := hF.2.2.2; omega) hF.2.1.fin hm2
  exact ⟨by rw [ho', q2], G, cC, q1⟩
