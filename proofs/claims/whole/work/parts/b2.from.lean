/-! ===== from, touch, asked ===== -/
/-- a table's program is read -/
theorem k_markT {G : GT} {cC : Int → Nat} {E : Int} {X : XX} {vc v V : VV} {M : Int → Prop} (h : I1 G cC E X vc v) {t c : Int} (ht : isT v t) (hc : 0 ≤ c ∧ c < cC t) (hf : ∀ r j, 87 ≤ r → V r j = vc r j) (hM : MKc M V) : CX mX5_markUsed 1 [(2, X.2 37 t + 4), (0, c), (2, 41)] X V (fun _ v1 => Fr S42 V v1 ∧ MKc (fun j => M j ∨ (isS v t ∧ Use G v t c j)) v1) := by
  have hh := (h.hi ht).1
  obtain ⟨⟨B, I, W, ⟨⟨-, -, -, -, ⟨-, hP⟩, -⟩, hC, -, hI4, -⟩, -, -, ⟨k1, -⟩, -⟩, -⟩ := h.tab ht
  obtain ⟨L, hL⟩ := prg_of h ht
  have hL' := hL.fr (w := V) (fun r j r0 r1 => hf r j (by omega))
  obtain ⟨u1, u2, u3⟩ := hL'
  refine (k_markUsed h.1 hP (by rw [hf _ _ (by omega)]; exact k1.2) (by omega) ⟨by omega, by omega, by omega⟩ ⟨hc.1, by omega⟩ (u1 c hc.1 (by omega)).1 (u1 c hc.1 (by omega)).2 hM).mono (fun o v1 hP => ⟨hP.1, hP.2.cg (fun j _ _ => or_congr Iff.rfl (u2 c hc.1 hc.2 j))⟩)
/-- column c's formula uses a marked column -/
theorem k_usesT {G : GT} {cC : Int → Nat} {E : Int} {X : XX} {vc v V : VV} {M : Int → Prop} (h : I1 G cC E X vc v) {t c : Int} (ht : isT v t) (hc : 0 ≤ c ∧ c < cC t) (hf : ∀ r j, 87 ≤ r → V r j = vc r j) (hM : MKc M V) : CX mX5_usesMarked 2 [(2, X.2 37 t + 4), (0, c), (2, 41)] X V (fun o v1 => v1 = V ∧ o = some (0, bI (isS v t ∧ ∃ j, Use G v t c j ∧ M j))) := by
  have hh := (h.hi ht).1
  obtain ⟨⟨B, I, W, ⟨⟨-, -, -, -, ⟨-, hP⟩, -⟩, hC, -, hI4, -⟩, -, -, ⟨k1, -⟩, -⟩, -⟩ := h.tab ht
  obtain ⟨L, hL⟩ := prg_of h ht
  have hL' := hL.fr (w := V) (fun r j r0 r1 => hf r j (by omega))
  obtain ⟨u1, u2, u3⟩ := hL'
  refine (k_usesMarked h.1 hP (by rw [hf _ _ (by omega)]; exact k1.2) (by omega) ⟨hc.1, by omega⟩ (u1 c hc.1 (by omega)).1 (u1 c hc.1 (by omega)).2 hM).mono (fun o v1 hP => ⟨hP.1, ?_⟩)
  rw [hP.2]
  congr 2
  refine bI_iff ⟨fun ⟨j, j1, j2⟩ => ?_, fun ⟨z, j, j1, j2⟩ => ⟨j, (u2 c hc.1 hc.2 j).mpr ⟨z, j1⟩, j2⟩⟩
  have := (u2 c hc.1 hc.2 j).mp j1
  exact ⟨this.1, j, this.2, j2⟩
/-- the where uses a marked column -/
theorem k_usesW {G : GT} {cC : Int → Nat} {E : Int} {X : XX} {vc v V : VV} {M : Int → Prop} (h : I1 G cC E X vc v) {t : Int} (ht : isT v t) (hf : ∀ r j, 87 ≤ r → V r j = vc r j) (hM : MKc M V) : CX mX5_usesMarked 2 [(2, X.2 37 t + 4), (0, 6), (2, 41)] X V (fun o v1 => v1 = V ∧ o = some (0, bI (isS v t ∧ rowsM G v M t))) := by
  have hh := (h.hi ht).1
  obtain ⟨⟨B, I, W, ⟨⟨-, -, -, -, ⟨-, hP⟩, -⟩, hC, -, hI4, -⟩, -, -, ⟨k1, -⟩, -⟩, -⟩ := h.tab ht
  obtain ⟨L, hL⟩ := prg_of h ht
  have hL' := hL.fr (w := V) (fun r j r0 r1 => hf r j (by omega))
  obtain ⟨u1, u2, u3⟩ := hL'
  refine (k_usesMarked h.1 hP (by rw [hf _ _ (by omega)]; exact k1.2) (by omega) ⟨by decide, by decide⟩ (u1 6 (by decide) (by decide)).1 (u1 6 (by decide) (by decide)).2 hM).mono (fun o v1 hP => ⟨hP.1, ?_⟩)
  rw [hP.2]
  congr 2
  unfold rowsM
  refine bI_iff ⟨fun ⟨j, j1, j2⟩ => ?_, fun ⟨z, z2, z3⟩ => ?_⟩
  · have := (u3 j).mp j1
    exact ⟨this.1, this.2.1, this.2.2.imp (fun y => ⟨j, y, j2⟩) (fun y => ⟨j, y, j2⟩)⟩
  · rcases z3 with ⟨j, j1, j2⟩ | ⟨j, j1, j2⟩
    · exact ⟨j, (u3 j).mpr ⟨z, z2, Or.inl j1⟩, j2⟩
    · exact ⟨j, (u3 j).mpr ⟨z, z2, Or.inr j1⟩, j2⟩
set_option maxRecDepth 100000 in
set_option maxHeartbeats 4000000 in
theorem k_findMarked {G : GT} {cC : Int → Nat} {E : Int} {X : XX} {vc v V0 : VV} {M : Int → Prop} (h : I1 G cC E X vc v) (a : Int) (hf : ∀ r j, 87 ≤ r → V0 r j = vc r j) (hM : MKc M V0) (h43 : 0 ≤ V0 43 1) : CX mX10_findMarked 2 [(2, 0), (0, a)] X V0 (fun o w => Fnd (fun j => (isT v (j / 8) ∧ (a = 0 ∨ v 50 (j / 8) = 0)) ∧ M j) V0 128 w ∧ o = some (0, w 43 1)) := by
  have key : ∀ (x : Int) (V : VV), (0 ≤ x ∧ x ≤ 128) → Fnd (fun j => (isT v (j / 8) ∧ (a = 0 ∨ v 50 (j / 8) = 0)) ∧ M j) V0 x V → Ex mX10_findMarked 2 10 [(2, 0), (0, a), (0, x), (3, 0)] [] X V 0 0 (fun o X1 w => X1 = X ∧ Fnd (fun j => (isT v (j / 8) ∧ (a = 0 ∨ v 50 (j / 8) = 0)) ∧ M j) V0 128 w ∧ o = some (0, w 43 1)) := by
    refine loop2 (fun (x : Int) (_ : VV) => (128 - x).toNat) (fun (x : Int) (V : VV) => (0 ≤ x ∧ x ≤ 128) → Fnd (fun j => (isT v (j / 8) ∧ (a = 0 ∨ v 50 (j / 8) = 0)) ∧ M j) V0 x V → Ex mX10_findMarked 2 10 [(2, 0), (0, a), (0, x), (3, 0)] [] X V 0 0 (fun o X1 w => X1 = X ∧ Fnd (fun j => (isT v (j / 8) ∧ (a = 0 ∨ v 50 (j / 8) = 0)) ∧ M j) V0 128 w ∧ o = some (0, w 43 1))) (fun x V ih => ?_)
    intro hx hF
    have hMV : MKc M V := fun t t0 t1 => by rw [hF.1 42 t (by unfold S43; omega)]; exact hM t t0 t1
    have hfV : ∀ r j, 87 ≤ r → V r j = vc r j := fun r j hr => (hF.1 r j (by unfold S43; omega)).trans (hf r j hr)
    have hlx := h.live (x / 8)
    refine bX10_findMarked_10 a x (Nat.le_refl _) h.1 (fun _ _ => ⟨fun g => ⟨_, k_size h.1 (rowS43 h.1), fun r6 w7 hP => ?_⟩, fun g => ⟨hx.1, _, k_tableAt h.1 _, fun r10 w11 hP => ?_⟩⟩)
    · obtain ⟨rfl, hr⟩ := hP
      have e : x = 128 := by omega
      rw [e] at hF
      exact ⟨rfl, hF, hr⟩
    · obtain ⟨rfl, hr⟩ := hP
      obtain rfl : r10 = X.2 37 (x / 8) := by rw [if_pos ⟨by omega, by omega⟩] at hr; simpa using hr
      have nxt : ¬ (isT v (x / 8) ∧ (a = 0 ∨ v 50 (x / 8) = 0)) → i32 (x + 1) ∧ Ex mX10_findMarked 2 10 [(2, 0), (0, a), (0, x + 1), (3, 0)] [] X w11 0 0 (fun o X1 w => X1 = X ∧ Fnd (fun j => (isT v (j / 8) ∧ (a = 0 ∨ v 50 (j / 8) = 0)) ∧ M j) V0 128 w ∧ o = some (0, w 43 1)) := fun hn => ⟨⟨by omega, by omega⟩, ih (x + 1) w11 (by omega) ⟨by omega, by omega⟩ (hF.skip hx.1 (fun z => hn z.1))⟩
      have k44 : isT v (x / 8) → (a = 0 ∨ v 50 (x / 8) = 0) → Ex mX10_findMarked 2 44 [(2, 0), (0, a), (0, x), (2, X.2 37 (x / 8))] [] X w11 0 0 (fun o X1 w => X1 = X ∧ Fnd (fun j => (isT v (j / 8) ∧ (a = 0 ∨ v 50 (j / 8) = 0)) ∧ M j) V0 128 w ∧ o = some (0, w 43 1)) := fun ht ha => by
        refine bX10_findMarked_44 a x _ (Nat.le_refl _) h.1 (fun _ _ => ⟨_, k_mhas h.1 hMV x (by omega), fun r15 w16 hP => ?_⟩)
        obtain ⟨rfl, hr15⟩ := hP
        obtain rfl : r15 = bI (0 ≤ x ∧ M x) := by simpa using hr15
        refine ⟨fun g2 => ⟨⟨by omega, by omega⟩, ih (x + 1) w16 (by omega) ⟨by omega, by omega⟩ (hF.skip hx.1 (fun z => bI_0.mp g2 ⟨hx.1, z.2⟩))⟩, fun g2 => ⟨_, k_add h.1 (rowS43 h.1) (by decide) ⟨hF.2.2.1, by have := hF.2.2.2; show w16 43 1 < ((128 : Nat) : Int); omega⟩ x, fun w20 hP => ⟨⟨by omega, by omega⟩, ?_⟩⟩⟩
        have e : w20 = rAdd w16 43 44 x := hP
        rw [e]
        exact ih (x + 1) _ (by omega) ⟨by omega, by omega⟩ (hF.add hx.1 ⟨⟨ht, ha⟩, (bI_n0.mp g2).2⟩)
      refine ⟨fun g2 => nxt (fun z => (hlx.mp z.1).2.2 g2), fun g2 => ?_⟩
      have ht := hlx.mpr ⟨by omega, by omega, g2⟩
      refine ⟨fun g3 => k44 ht (Or.inl g3), fun g3 => ?_⟩
      obtain ⟨⟨B, I, W, -, ⟨p5, -⟩, -⟩, -⟩ := h.tab ht
      have hh := h.hi ht
      rw [hfV _ _ hh.1, p5]
      exact ⟨hh.2.1, ⟨by omega, hh.2.2⟩, fun g4 => k44 ht (Or.inr g4), fun g4 => nxt (fun z => z.2.elim g3 g4)⟩
  refine CX.of (by decide +kernel) rfl rfl rfl (bX10_findMarked_0 a (Nat.le_refl _) h.1 (fun _ => ⟨_, k_cut h.1 (rowS43 h.1) 0, fun w3 hP => ?_⟩))
  have e : w3 = rCut V0 43 0 := hP
  rw [e]
  exact key 0 _ ⟨by decide, by decide⟩ (Fnd.zero h43)
set_option maxRecDepth 100000 in
set_option maxHeartbeats 4000000 in
theorem k_earlier {G : GT} {cC : Int → Nat} {E : Int} {X : XX} {vc v V0 : VV} {M0 : Int → Prop} (h : I1 G cC E X vc v) (t : Int) (ht : 0 ≤ t ∧ t ≤ 16) (hf : ∀ r j, 87 ≤ r → V0 r j = vc r j) (hM : MKc M0 V0) : CX mX10_markEarlierSteps 2 [(2, 0), (0, t)] X V0 (fun _ w => Fr S42 V0 w ∧ MKc (dnM G v t.toNat M0) w) := by
  have h51 : ∀ q, isT v q → v 51 q = cC q := fun q hq => by
    obtain ⟨q0, q1, q2⟩ := (h.live q).mp hq
    exact ((h.2.2.1.2 q q0 q1).2 q2).2.1
  have key : ∀ (x : Nat) (M : Int → Prop) (V : VV), x ≤ 16 → Fr S42 V0 V → MKc M V → (∀ j, dnM G v x M j ↔ dnM G v t.toNat M0 j) → Ex mX10_markEarlierSteps 2 4 [(2, 0), (0, t), (0, (x : Int) - 1), (3, 0), (3, 0)] [] X V 0 0 (fun _ X1 w => X1 = X ∧ Fr S42 V0 w ∧ MKc (dnM G v t.toNat M0) w) := by
    intro x
    induction x with
    | zero =>
      intro M V _ hfr hMV hR
      refine bX10_markEarlierSteps_4 t _ (Nat.le_refl _) h.1 (fun _ _ => ⟨fun _ => ⟨rfl, hfr, hMV.cg (fun j _ _ => hR j)⟩, fun g => by omega⟩)
    | succ x ih =>
      intro M V hx hfr hMV hR
      rw [show ((x + 1 : Nat) : Int) - 1 = x by omega]
      have e1 : (x : Int) + -1 = (x : Int) - 1 := by omega
      refine bX10_markEarlierSteps_4 t x (Nat.le_refl _) h.1 (fun _ _ => ⟨fun g => by omega, fun _ => ⟨_, k_tableAt h.1 x, fun r2 w3 hP => ?_⟩⟩)
      obtain ⟨rfl, hr⟩ := hP
      obtain rfl : r2 = X.2 37 x := by rw [if_pos ⟨by omega, by omega⟩] at hr; simpa using hr
      have hlx := h.live x
      refine ⟨fun g => ?_, fun g => ⟨⟨by omega, by omega⟩, ?_⟩⟩
      · have hT := hlx.mpr ⟨by omega, by omega, g⟩
        have hh := h.hi hT
        obtain ⟨⟨B, I, W, ⟨⟨-, -, ⟨c1, c2⟩, -, ⟨c3, -⟩, -⟩, hC, -⟩, -⟩, -⟩ := h.tab hT
        have hsz := h.tab hT
        have k24 : ∀ (k : Nat) (V : VV), k ≤ cC x → Fr S42 V0 V → MKc (inQ G v M x k) V → Ex mX10_markEarlierSteps 2 24 [(2, 0), (0, t), (0, (x : Int)), (2, X.2 37 x), (0, (k : Int))] [] X V 0 0 (fun _ X1 w => X1 = X ∧ Fr S42 V0 w ∧ MKc (dnM G v t.toNat M0) w) := by
          refine loop2 (fun (k : Nat) (_ : VV) => cC x - k) (fun (k : Nat) (V : VV) => k ≤ cC x → Fr S42 V0 V → MKc (inQ G v M x k) V → Ex mX10_markEarlierSteps 2 24 [(2, 0), (0, t), (0, (x : Int)), (2, X.2 37 x), (0, (k : Int))] [] X V 0 0 (fun _ X1 w => X1 = X ∧ Fr S42 V0 w ∧ MKc (dnM G v t.toNat M0) w)) (fun k V ih2 => ?_)
          intro hk hfk hMk
          have hfV : ∀ r j, 87 ≤ r → V r j = vc r j := fun r j hr => (hfk r j (by unfold S42; omega)).trans (hf r j hr)
          refine bX10_markEarlierSteps_24 t x _ k (Nat.le_refl _) h.1 (fun _ _ _ => ⟨hh.2.1, ⟨by omega, hh.2.2⟩, _, k_columnCount h.1 ⟨hh.2.1, by omega, hh.2.2⟩ ⟨c1, c2, by omega, ?_⟩, fun r7 w8 hP => ?_⟩)
          · obtain ⟨⟨B', I', W', ⟨⟨⟨-, z⟩, -⟩, -⟩, -⟩, -⟩ := hsz
            omega
          obtain ⟨rfl, hr7⟩ := hP
          obtain rfl : r7 = (cC x : Int) := by simpa using hr7
          refine ⟨fun g3 => ⟨⟨by omega, by omega⟩, ?_⟩, fun g3 => ?_⟩
          · have ek : k = cC x := by omega
            rw [e1]
            refine ih _ w8 (by omega) hfk hMk (fun j => ?_)
            rw [← hR j]
            show dnM G v x (inQ G v M x k) j ↔ dnM G v x (inQ G v M x (v 51 x).toNat) j
            rw [h51 x hT, ek, show ((cC x : Nat) : Int).toNat = cC x by omega]
          · have onw : ∀ W, Fr S42 V0 W → MKc (inQ G v M x (k + 1)) W → i32 ((k : Int) + 1) ∧ Ex mX10_markEarlierSteps 2 24 [(2, 0), (0, t), (0, (x : Int)), (2, X.2 37 x), (0, (k : Int) + 1)] [] X W 0 0 (fun _ X1 w => X1 = X ∧ Fr S42 V0 w ∧ MKc (dnM G v t.toNat M0) w) := fun W hw1 hw2 => ⟨⟨by omega, by omega⟩, ih2 (k + 1) W (by omega) (by omega) hw1 hw2⟩
            refine ⟨⟨by omega, by omega⟩, fun _ => ⟨by omega, by omega⟩, _, k_mhas h.1 hMk _ (by omega), fun r11 w12 hP => ?_⟩
            obtain ⟨rfl, hr11⟩ := hP
            obtain rfl : r11 = bI (0 ≤ (x : Int) * 8 + k ∧ inQ G v M x k ((x : Int) * 8 + k)) := by simpa using hr11
            have e8 : (x : Int) * 8 + k = 8 * x + k := by omega
            refine ⟨fun g4 => onw w12 hfk (hMk.cg (fun j _ _ => ⟨Or.inl, fun z => z.elim id (fun y => absurd ⟨by omega, by rw [e8]; exact y.2.1⟩ (bI_0.mp g4))⟩)), fun g4 => ?_⟩
            rw [c3]
            obtain ⟨⟨B', I', W', ⟨⟨⟨-, z13⟩, -, -, -, ⟨-, zP⟩, -⟩, -⟩, -⟩, -⟩ := hsz
            have g4' := bI_n0.mp g4
            rw [e8] at g4'
            refine ⟨zP.1, ⟨by omega, by omega⟩, _, k_markT h hT ⟨by omega, g3⟩ hfV hMk, fun w17 hP => ?_⟩
            refine onw w17 (hfk.via hP.1 (fun _ _ z => z) (fun _ _ z => z)) (hP.2.cg (fun j _ _ => ?_))
            exact ⟨fun z => z.imp id (fun y => ⟨y.1, g4'.2, y.2⟩), fun z => z.imp id (fun y => ⟨y.1, y.2.2⟩)⟩
        exact k24 0 w3 (Nat.zero_le _) hfr hMV
      · rw [e1]
        refine ih M w3 (by omega) hfr hMV (fun j => ?_)
        rw [← hR j]
        exact dnM_cg x (fun i => (inQ_no (fun z => (hlx.mp z.1).2.2 g) _ i).symm) j
  refine CX.of (by decide +kernel) rfl rfl rfl (bX10_markEarlierSteps_0 t (Nat.le_refl _) h.1 (fun _ => ⟨⟨by omega, by omega⟩, ?_⟩))
  have hk := key t.toNat M0 V0 (by omega) Fr.rf hM (fun _ => Iff.rfl)
  rw [Int.toNat_of_nonneg ht.1] at hk
  exact hk
theorem Use_live {G : GT} {v : VV} {t f j : Int} (hI : MS G v) (hS : isS v t) (hp : PF v t f) (h : Use G v t f j) : isT v (j / 8) := by
  obtain ⟨k, k1, rfl⟩ := h
  obtain ⟨f1, f2, f3, f4, f5⟩ := (hI.2.2 t hS).2 f hp
  obtain ⟨⟨q1, q2, q3⟩, q4, q5⟩ := f5 k k1
  have hlt := hS.1.2.1
  obtain ⟨-, -, m3, -⟩ := hI.2.1 _ q1 (by omega)
  unfold uAt
  rw [show (8 * qOf v t (tW (G t).1 (G t).2 k) + cOf v (qOf v t (tW (G t).1 (G t).2 k)) (tW (G t).1 (G t).2 (k + 2))) / 8 = qOf v t (tW (G t).1 (G t).2 k) by omega]
  exact ⟨q1, by omega, q3⟩
theorem inQ_live {G : GT} {v : VV} {M : Int → Prop} {q : Int} (hI : MS G v) (hM : ∀ j, M j → isT v (j / 8)) : ∀ (k : Nat), (k : Int) ≤ v 51 q → ∀ j, inQ G v M q k j → isT v (j / 8)
  | 0, _, j, h => hM j h
  | k + 1, hk, j, h => by
    rcases h with h | ⟨h1, -, h3⟩
    · exact inQ_live hI hM k (by omega) j h
    · exact Use_live hI h1 (Or.inl ⟨by omega, by omega⟩) h3
theorem dnM_live {G : GT} {v : VV} (hI : MS G v) : ∀ (q : Nat) (M : Int → Prop), (∀ j, M j → isT v (j / 8)) → ∀ j, dnM G v q M j → isT v (j / 8)
  | 0, _, hM, j, h => hM j h
  | q + 1, M, hM, j, h => by
    by_cases hS : isS v q
    · obtain ⟨-, -, m3, -⟩ := hI.2.1 q (by omega) hS.1.2.1
      exact dnM_live hI q _ (fun i hi => inQ_live hI hM _ (by omega) i hi) j h
    · exact dnM_live hI q _ (fun i hi => hM i ((inQ_no hS _ i).mp hi)) j h
theorem upQ_live {G : GT} {v : VV} {M : Int → Prop} {q : Int} (hI : MS G v) (hM : ∀ j, M j → isT v (j / 8)) : ∀ (k : Nat), k ≤ 8 → ∀ j, upQ G v M q k j → isT v (j / 8)
  | 0, _, j, h => hM j h
  | k + 1, hk, j, h => by
    rcases h with h | ⟨h1, h2, -⟩
    · exact upQ_live hI hM k (by omega) j h
    · rw [h2, show (8 * q + (k : Int)) / 8 = q by omega]; exact h1.1
theorem upM_live {G : GT} {v : VV} (hI : MS G v) : ∀ (m : Nat) (q : Int) (M : Int → Prop), (∀ j, M j → isT v (j / 8)) → ∀ j, upM G v m q M j → isT v (j / 8)
  | 0, _, _, hM, j, h => hM j h
  | m + 1, q, M, hM, j, h => by
    by_cases hS : isS v q
    · obtain ⟨-, -, m3, -⟩ := hI.2.1 q hS.1.1 hS.1.2.1
      exact upM_live hI m (q + 1) _ (fun i hi => upQ_live hI hM _ (by omega) i hi) j h
    · exact upM_live hI m (q + 1) _ (fun i hi => hM i ((upQ_no hS _ i).mp hi)) j h
set_option maxRecDepth 100000 in
set_option maxHeartbeats 4000000 in
theorem k_from {G : GT} {cC : Int → Nat} {E : Int} {X : XX} {vc v : VV} (h : I1 G cC E X vc v) (h43 : 0 ≤ vc 43 1) (t c how : Int) : CX mX10_from 3 [(2, 0), (0, t), (0, c), (0, how)] X vc (fun o w => ((isC v t c ∧ 0 ≤ how ∧ how ≤ 2) ∧ Fr (fun r j => r = 42 ∨ S43 r j) vc w ∧ (FLs (fun j => isT v (j / 8) ∧ frP G v t c how j) 128 (w 43 1) (w 44) ∧ 0 ≤ w 43 1 ∧ w 43 1 ≤ 128) ∧ o = some (0, w 43 1)) ∨ (¬ (isC v t c ∧ 0 ≤ how ∧ how ≤ 2) ∧ w = vc ∧ o = some (0, -1))) := by
  have hI := h.2.1.1
  have hCl := h.cols t c
  have hL := h.live t
  have hTA := h.2.2.2.1
  refine CX.of (by decide +kernel) rfl rfl rfl (bX10_from_0 t c how (Nat.le_refl _) h.1 (fun _ _ _ => ⟨_, k_tableAt h.1 t, fun r2 w3 hP => ?_⟩))
  obtain ⟨rfl, hr⟩ := hP
  have no : ¬ isC v t c → ∀ (w : VV), w = w3 → X = X ∧ (((isC v t c ∧ 0 ≤ how ∧ how ≤ 2) ∧ Fr (fun r j => r = 42 ∨ S43 r j) w3 w ∧ (FLs (fun j => isT v (j / 8) ∧ frP G v t c how j) 128 (w 43 1) (w 44) ∧ 0 ≤ w 43 1 ∧ w 43 1 ≤ 128) ∧ some ((0 : Nat), (-1 : Int)) = some (0, w 43 1)) ∨ (¬ (isC v t c ∧ 0 ≤ how ∧ how ≤ 2) ∧ w = w3 ∧ some ((0 : Nat), (-1 : Int)) = some (0, -1))) := fun hn w hw => ⟨rfl, Or.inr ⟨fun z => hn z.1, hw, rfl⟩⟩
  by_cases hl : 0 ≤ t ∧ t < 16 ∧ ¬ X.2 37 t = -1
  · obtain rfl : r2 = X.2 37 t := by rw [if_pos ⟨hl.1, hl.2.1⟩] at hr; simpa using hr
    have hT := hL.mpr hl
    have hh := h.hi hT
    refine ⟨fun g => absurd g hl.2.2, fun _ => ⟨_, k_hasColumn h.1 hTA.obj hTA.col t c, fun r6 w7 hP => ?_⟩⟩
    obtain ⟨rfl, hr6⟩ := hP
    obtain rfl : r6 = bI (isC v t c) := by rw [bI_iff hCl.symm] at hr6; simpa using hr6
    refine ⟨fun g => no (bI_0.mp g) w7 rfl, fun g => ?_⟩
    have hC := bI_n0.mp g
    obtain ⟨-, c0, c1⟩ := hCl.mp hC
    have h51 : v 51 t = cC t := ((h.2.2.1.2 t hl.1 hl.2.1).2 hl.2.2).2.1
    refine ⟨fun g2 => ⟨rfl, Or.inr ⟨fun z => by omega, rfl, rfl⟩⟩, fun g2 => ⟨fun g3 => ⟨_, k_mclear h.1, fun w11 hP => ?_⟩, fun g3 => ⟨rfl, Or.inr ⟨fun z => by omega, rfl, rfl⟩⟩⟩⟩
    obtain ⟨f11, m11⟩ := hP
    obtain ⟨⟨B, I, W, ⟨⟨⟨-, z13⟩, -, -, -, ⟨c3, zP⟩, -⟩, hC6, -⟩, -⟩, -⟩ := h.tab hT
    rw [c3]
    refine ⟨hh.2.1, ⟨by omega, hh.2.2⟩, zP.1, ⟨by omega, by omega⟩, _, k_markT h hT ⟨c0, c1⟩ (fun r j hr => f11 r j (by unfold S42; omega)) m11, fun w17 hP => ?_⟩
    obtain ⟨f17, m17⟩ := hP
    have m17' : MKc (Dir G v t c) w17 := m17.cg (fun j _ _ => ⟨fun z => z.elim False.elim id, Or.inr⟩)
    have f17' : Fr S42 w7 w17 := f11.via f17 (fun _ _ z => z) (fun _ _ z => z)
    have hDl : ∀ j, Dir G v t c j → isT v (j / 8) := fun j hj => Use_live hI hj.1 (Or.inl ⟨c0, by rw [h51]; exact c1⟩) hj.2
    -- the marked ones are found
    have k61 : ∀ (W : VV), Fr S42 w7 W → MKc (frS G v t c how) W → Ex mX10_from 3 61 [(2, 0), (0, t), (0, c), (0, how), (2, X.2 37 t)] [] X W 0 0 (fun o X1 w => X1 = X ∧ (((isC v t c ∧ 0 ≤ how ∧ how ≤ 2) ∧ Fr (fun r j => r = 42 ∨ S43 r j) w7 w ∧ (FLs (fun j => isT v (j / 8) ∧ frP G v t c how j) 128 (w 43 1) (w 44) ∧ 0 ≤ w 43 1 ∧ w 43 1 ≤ 128) ∧ o = some (0, w 43 1)) ∨ (¬ (isC v t c ∧ 0 ≤ how ∧ how ≤ 2) ∧ w = w7 ∧ o = some (0, -1)))) := fun W hw1 hw2 => by
      have fin : ∀ (a : Int) (r : Int) (w : VV), (a = 0 ↔ how < 2) → (Fnd (fun j => (isT v (j / 8) ∧ (a = 0 ∨ v 50 (j / 8) = 0)) ∧ frS G v t c how j) W 128 w ∧ some ((0 : Nat), r) = some (0, w 43 1)) → X = X ∧ (((isC v t c ∧ 0 ≤ how ∧ how ≤ 2) ∧ Fr (fun r j => r = 42 ∨ S43 r j) w7 w ∧ (FLs (fun j => isT v (j / 8) ∧ frP G v t c how j) 128 (w 43 1) (w 44) ∧ 0 ≤ w 43 1 ∧ w 43 1 ≤ 128) ∧ some ((0 : Nat), r) = some (0, w 43 1)) ∨ (¬ (isC v t c ∧ 0 ≤ how ∧ how ≤ 2) ∧ w = w7 ∧ some ((0 : Nat), r) = some (0, -1))) := fun a r w ha hF => ⟨rfl, Or.inl ⟨⟨hC, g2, g3⟩, hw1.via hF.1.1 (fun _ _ z => Or.inl z) (fun _ _ z => Or.inr z), ⟨(hF.1.2.1.fin).congr (fun j _ _ => by
          unfold frP
          rw [ha]
          exact ⟨fun z => ⟨z.1.1, z.2, z.1.2⟩, fun z => ⟨⟨z.1, z.2.2⟩, z.2.1⟩⟩) (Nat.le_refl _) (fun j j0 j1 => by omega), hF.1.2.2⟩, hF.2⟩⟩
      refine bX10_from_61 t c how _ (Nat.le_refl _) h.1 (fun _ _ _ => ⟨fun g4 => ⟨_, k_findMarked h 0 (fun r j hr => hw1 r j (by unfold S42; omega)) hw2 (by rw [hw1 43 1 (by unfold S42; omega)]; exact h43), fun r24 w25 hP => fin 0 r24 w25 (by omega) hP⟩, fun g4 => ⟨_, k_findMarked h 1 (fun r j hr => hw1 r j (by unfold S42; omega)) hw2 (by rw [hw1 43 1 (by unfold S42; omega)]; exact h43), fun r28 w29 hP => fin 1 r28 w29 (by omega) hP⟩⟩)
    refine ⟨fun g4 => k61 w17 f17' (m17'.cg (fun j _ _ => ?_)), fun g4 => ⟨_, k_earlier h t ⟨hl.1, by omega⟩ (fun r j hr => f17' r j (by unfold S42; omega)) m17', fun w21 hP => ?_⟩⟩
    · unfold frS; exact ⟨fun z => Or.inl ⟨g4, z⟩, fun z => z.elim (fun y => y.2) (fun y => by omega)⟩
    · refine k61 w21 (f17'.via hP.1 (fun _ _ z => z) (fun _ _ z => z)) (hP.2.cg (fun j _ _ => ?_))
      unfold frS; exact ⟨fun z => Or.inr ⟨by omega, z⟩, fun z => z.elim (fun y => by omega) (fun y => y.2)⟩
  · have hr2 : r2 = -1 := by
      by_cases z : 0 ≤ t ∧ t < 16
      · rw [if_pos z] at hr
        have e : X.2 37 t = -1 := Classical.byContradiction (fun y => hl ⟨z.1, z.2, y⟩)
        rw [e] at hr; simpa using hr
      · rw [if_neg z] at hr; simpa using hr
    exact ⟨fun g => no (fun z => hl (hL.mp z.1)) w3 rfl, fun g => absurd hr2 g⟩
