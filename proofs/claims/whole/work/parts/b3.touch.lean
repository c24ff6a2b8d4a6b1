/-! ===== touch, asked of the class; the three steps ===== -/
set_option maxRecDepth 100000 in
set_option maxHeartbeats 4000000 in
theorem k_markTouched {G : GT} {cC : Int → Nat} {E : Int} {X : XX} {vc v : VV} (h : I1 G cC E X vc v) (t c : Int) (hC : isC v t c) : CX mX10_markTouched 3 [(2, 0), (0, t), (0, c)] X vc (fun _ w => Fr S42 vc w ∧ MKc (tchS G v t c) w) := by
  have h51 : ∀ q, isT v q → v 51 q = cC q := fun q hq => by
    obtain ⟨q0, q1, q2⟩ := (h.live q).mp hq
    exact ((h.2.2.1.2 q q0 q1).2 q2).2.1
  have hn16 := h.2.1.1.1.1.2
  obtain ⟨t0, t1, t2⟩ := (h.live t).mp hC.1
  have hC6 : cC t ≤ 6 := (h.2.2.2.1.col t t0 t1).elim (fun z => absurd z t2) (fun z => z.2.2)
  have hc6 : 0 ≤ c ∧ c < 6 := ⟨hC.2.1, by have := hC.2.2; rw [h51 t hC.1] at this; omega⟩
  have key : ∀ (x : Int) (M : Int → Prop) (V : VV), (0 ≤ x ∧ x ≤ 16) → Fr S42 vc V → MKc M V → (∀ j, upM G v (v 47 0 - x).toNat x M j ↔ tchS G v t c j) → Ex mX10_markTouched 3 24 [(2, 0), (0, t), (0, c), (0, x), (3, 0), (3, 0), (3, 0)] [] X V 0 0 (fun _ X1 w => X1 = X ∧ Fr S42 vc w ∧ MKc (tchS G v t c) w) := by
    refine loop3 (fun (x : Int) (_ : Int → Prop) (_ : VV) => (16 - x).toNat) (fun (x : Int) (M : Int → Prop) (V : VV) => (0 ≤ x ∧ x ≤ 16) → Fr S42 vc V → MKc M V → (∀ j, upM G v (v 47 0 - x).toNat x M j ↔ tchS G v t c j) → Ex mX10_markTouched 3 24 [(2, 0), (0, t), (0, c), (0, x), (3, 0), (3, 0), (3, 0)] [] X V 0 0 (fun _ X1 w => X1 = X ∧ Fr S42 vc w ∧ MKc (tchS G v t c) w)) (fun x M V ih => ?_)
    intro hx hf hM hR
    have hlx := h.live x
    refine bX10_markTouched_24 t c x (Nat.le_refl _) h.1 (fun _ _ _ => ⟨fun g => ?_, fun g => ⟨_, k_tableAt h.1 x, fun r10 w11 hP => ?_⟩⟩)
    · have e : (v 47 0 - x).toNat = 0 := by omega
      rw [e] at hR
      exact ⟨rfl, hf, hM.cg (fun j _ _ => hR j)⟩
    · obtain ⟨rfl, hr⟩ := hP
      obtain rfl : r10 = X.2 37 x := by rw [if_pos ⟨hx.1, g⟩] at hr; simpa using hr
      refine ⟨fun g2 => ?_, fun g2 => ⟨⟨by omega, by omega⟩, ih (x + 1) M w11 (by omega) ⟨by omega, by omega⟩ hf hM (fun j => ?_)⟩⟩
      · have hT := hlx.mpr ⟨hx.1, g, g2⟩
        have hh := h.hi hT
        have em : (v 47 0 - x).toNat = (v 47 0 - (x + 1)).toNat + 1 := by have := hT.2.1; omega
        obtain ⟨⟨B, I, W, ⟨⟨⟨-, z13⟩, -, ⟨c1, c2⟩, -, ⟨c3, zP⟩, -⟩, hC', -⟩, -⟩, -⟩ := h.tab hT
        have hfV : ∀ V, Fr S42 vc V → ∀ r j, 87 ≤ r → V r j = vc r j := fun V hV r j hr => hV r j (by unfold S42; omega)
        have k64 : ∀ (k : Nat) (V : VV), k ≤ cC x → Fr S42 vc V → MKc (upQ G v M x k) V → Ex mX10_markTouched 3 64 [(2, 0), (0, t), (0, c), (0, x), (2, X.2 37 x), (0, bI (isS v x ∧ rowsM G v M x)), (0, (k : Int))] [] X V 0 0 (fun _ X1 w => X1 = X ∧ Fr S42 vc w ∧ MKc (tchS G v t c) w) := by
          refine loop2 (fun (k : Nat) (_ : VV) => cC x - k) (fun (k : Nat) (V : VV) => k ≤ cC x → Fr S42 vc V → MKc (upQ G v M x k) V → Ex mX10_markTouched 3 64 [(2, 0), (0, t), (0, c), (0, x), (2, X.2 37 x), (0, bI (isS v x ∧ rowsM G v M x)), (0, (k : Int))] [] X V 0 0 (fun _ X1 w => X1 = X ∧ Fr S42 vc w ∧ MKc (tchS G v t c) w)) (fun k V ih2 => ?_)
          intro hk hfk hMk
          refine bX10_markTouched_64 t c x _ _ k (Nat.le_refl _) h.1 (fun _ _ _ _ _ => ⟨hh.2.1, ⟨by omega, hh.2.2⟩, _, k_columnCount h.1 ⟨hh.2.1, by omega, hh.2.2⟩ ⟨c1, c2, by omega, by omega⟩, fun r21 w22 hP => ?_⟩)
          obtain ⟨rfl, hr21⟩ := hP
          obtain rfl : r21 = (cC x : Int) := by simpa using hr21
          refine ⟨fun g3 => ⟨⟨by omega, by omega⟩, ?_⟩, fun g3 => ?_⟩
          · have ek : k = cC x := by omega
            refine ih (x + 1) _ w22 (by omega) ⟨by omega, by omega⟩ hfk hMk (fun j => ?_)
            rw [← hR j, em]
            show upM G v (v 47 0 - (x + 1)).toNat (x + 1) (upQ G v M x k) j ↔ upM G v (v 47 0 - (x + 1)).toNat (x + 1) (upQ G v M x (v 51 x).toNat) j
            rw [h51 x hT, ek, show ((cC x : Nat) : Int).toNat = cC x by omega]
          · have onw : ∀ W, Fr S42 vc W → MKc (upQ G v M x (k + 1)) W → i32 ((k : Int) + 1) ∧ Ex mX10_markTouched 3 64 [(2, 0), (0, t), (0, c), (0, x), (2, X.2 37 x), (0, bI (isS v x ∧ rowsM G v M x)), (0, (k : Int) + 1)] [] X W 0 0 (fun _ X1 w => X1 = X ∧ Fr S42 vc w ∧ MKc (tchS G v t c) w) := fun W hw1 hw2 => ⟨⟨by omega, by omega⟩, ih2 (k + 1) W (by omega) (by omega) hw1 hw2⟩
            have k96 : (isS v x ∧ (rowsM G v M x ∨ ∃ i, Use G v x k i ∧ upQ G v M x k i)) → Ex mX10_markTouched 3 96 [(2, 0), (0, t), (0, c), (0, x), (2, X.2 37 x), (0, bI (isS v x ∧ rowsM G v M x)), (0, (k : Int))] [] X w22 0 0 (fun _ X1 w => X1 = X ∧ Fr S42 vc w ∧ MKc (tchS G v t c) w) := fun hy => by
              refine bX10_markTouched_96 t c x _ _ k (Nat.le_refl _) h.1 (fun _ _ _ _ _ => ⟨⟨by omega, by omega⟩, fun _ => ⟨by omega, by omega⟩, _, k_madd h.1 hMk _, fun w31 hP => ?_⟩)
              refine onw w31 (hfk.via hP.1 (fun _ _ z => z) (fun _ _ z => z)) (hP.2.cg (fun j _ _ => ?_))
              exact ⟨fun z => z.imp id (fun y => ⟨hy.1, by omega, hy.2⟩), fun z => z.imp id (fun y => by have := y.2.1; omega)⟩
            refine ⟨fun g4 => k96 ⟨(bI_n0.mp g4).1, Or.inl (bI_n0.mp g4).2⟩, fun g4 => ?_⟩
            rw [c3]
            refine ⟨zP.1, ⟨by omega, by omega⟩, _, k_usesT h hT ⟨by omega, g3⟩ (hfV _ hfk) hMk, fun r26 w27 hP => ?_⟩
            obtain ⟨rfl, hr26⟩ := hP
            obtain rfl : r26 = bI (isS v x ∧ ∃ j, Use G v x k j ∧ upQ G v M x k j) := by simpa using hr26
            refine ⟨fun g5 => onw w27 hfk (hMk.cg (fun j _ _ => ⟨Or.inl, fun z => z.elim id (fun y => y.2.2.elim (fun q => absurd ⟨y.1, q⟩ (bI_0.mp g4)) (fun q => absurd ⟨y.1, q⟩ (bI_0.mp g5)))⟩)), fun g5 => k96 ⟨(bI_n0.mp g5).1, Or.inr (bI_n0.mp g5).2⟩⟩
        rw [c3]
        refine ⟨hh.2.1, ⟨by omega, hh.2.2⟩, zP.1, ⟨by omega, by omega⟩, _, k_usesW h hT (hfV _ hf) hM, fun r16 w17 hP => ?_⟩
        obtain ⟨rfl, hr16⟩ := hP
        obtain rfl : r16 = bI (isS v x ∧ rowsM G v M x) := by simpa using hr16
        exact k64 0 w17 (Nat.zero_le _) hf hM
      · rw [← hR j]
        have hnS : ¬ isS v x := fun z => (hlx.mp z.1).2.2 g2
        by_cases z : x < v 47 0
        · rw [show (v 47 0 - x).toNat = (v 47 0 - (x + 1)).toNat + 1 by omega]
          exact upM_cg _ (x + 1) (fun i => (upQ_no hnS _ i).symm) j
        · rw [show (v 47 0 - x).toNat = 0 by omega, show (v 47 0 - (x + 1)).toNat = 0 by omega]
          exact Iff.rfl
  refine CX.of (by decide +kernel) rfl rfl rfl (bX10_markTouched_0 t c (Nat.le_refl _) h.1 (fun _ _ => ⟨_, k_mclear h.1, fun w3 hP => ?_⟩))
  obtain ⟨f3, m3⟩ := hP
  refine ⟨⟨by omega, by omega⟩, fun _ => ⟨by omega, by omega⟩, _, k_madd h.1 m3 _, fun w7 hP => ⟨⟨by omega, by omega⟩, ?_⟩⟩
  refine key (t + 1) (fun j => j = 8 * t + c) w7 ⟨by omega, by omega⟩ (f3.via hP.1 (fun _ _ z => z) (fun _ _ z => z)) (hP.2.cg (fun j _ _ => ?_)) (fun j => Iff.rfl)
  exact ⟨fun z => z.elim False.elim (fun y => by omega), fun z => Or.inr (by omega)⟩
theorem tchS_live {G : GT} {v : VV} {t c : Int} (hI : MS G v) (hC : isC v t c) (h8 : c < 8) : ∀ j, tchS G v t c j → isT v (j / 8) := fun j hj => upM_live hI _ _ _ (fun i hi => by
  have := hC.2.1
  rw [hi, show (8 * t + c) / 8 = t by omega]
  exact hC.1) j hj
set_option maxRecDepth 100000 in
set_option maxHeartbeats 4000000 in
theorem k_touch {G : GT} {cC : Int → Nat} {E : Int} {X : XX} {vc v : VV} (h : I1 G cC E X vc v) (h43 : 0 ≤ vc 43 1) (t c : Int) : CX mX10_touch 4 [(2, 0), (0, t), (0, c)] X vc (fun o w => (isC v t c ∧ Fr (fun r j => r = 42 ∨ S43 r j) vc w ∧ (FLs (fun j => isT v (j / 8) ∧ (tchS G v t c j ∧ ¬ j = 8 * t + c)) 128 (w 43 1) (w 44) ∧ 0 ≤ w 43 1 ∧ w 43 1 ≤ 128) ∧ o = some (0, w 43 1)) ∨ (¬ isC v t c ∧ w = vc ∧ o = some (0, -1))) := by
  have hCl := h.cols t c
  have hTA := h.2.2.2.1
  refine CX.of (by decide +kernel) rfl rfl rfl (bX10_touch_0 t c (Nat.le_refl _) h.1 (fun _ _ => ⟨_, k_hasColumn h.1 hTA.obj hTA.col t c, fun r2 w3 hP => ?_⟩))
  obtain ⟨rfl, hr⟩ := hP
  obtain rfl : r2 = bI (isC v t c) := by rw [bI_iff hCl.symm] at hr; simpa using hr
  refine ⟨fun g => ?_, fun g => ⟨rfl, Or.inr ⟨bI_0.mp g, rfl, rfl⟩⟩⟩
  have hC := bI_n0.mp g
  obtain ⟨⟨t0, t1, t2⟩, c0, c1⟩ := hCl.mp hC
  have hC6 : cC t ≤ 6 := (hTA.col t t0 t1).elim (fun z => absurd z t2) (fun z => z.2.2)
  refine ⟨_, k_markTouched h t c hC, fun w7 hP => ?_⟩
  obtain ⟨f7, m7⟩ := hP
  refine ⟨⟨by omega, by omega⟩, fun _ => ⟨by omega, by omega⟩, _, k_mrem h.1 m7 _ ⟨by omega, by omega⟩, fun w11 hP => ?_⟩
  obtain ⟨f11, m11⟩ := hP
  have ff : Fr S42 w3 w11 := f7.via f11 (fun _ _ z => z) (fun _ _ z => z)
  refine ⟨_, k_findMarked h 0 (fun r j hr => ff r j (by unfold S42; omega)) m11 (by rw [ff 43 1 (by unfold S42; omega)]; exact h43), fun r14 w15 hP => ?_⟩
  obtain ⟨hF, hr14⟩ := hP
  refine ⟨rfl, Or.inl ⟨hC, ff.via hF.1 (fun _ _ z => Or.inl z) (fun _ _ z => Or.inr z), ⟨(hF.2.1.fin).congr (fun j _ _ => ?_) (Nat.le_refl _) (fun j j0 j1 => by omega), hF.2.2⟩, hr14⟩⟩
  exact ⟨fun z => ⟨z.1.1, z.2.1, fun y => z.2.2 (by omega)⟩, fun z => ⟨⟨z.1, Or.inl rfl⟩, z.2.1, fun y => z.2.2 (by omega)⟩⟩
set_option maxRecDepth 100000 in
set_option maxHeartbeats 4000000 in
theorem k_asked {G : GT} {cC : Int → Nat} {E : Int} {X : XX} {vc v : VV} (h : I1 G cC E X vc v) (h43 : 0 ≤ vc 43 1) (t c : Int) : CX mX10_asked 4 [(2, 0), (0, t), (0, c)] X vc (fun o w => (isC v t c ∧ Fr (fun r j => r = 42 ∨ S43 r j) vc w ∧ (FLs (fun a => a < v 47 59 ∧ akd v (tchS G v t c) a) 40 (w 43 1) (w 44) ∧ 0 ≤ w 43 1 ∧ w 43 1 ≤ 40) ∧ o = some (0, w 43 1)) ∨ (¬ isC v t c ∧ w = vc ∧ o = some (0, -1))) := by
  have hCl := h.cols t c
  have hTA := h.2.2.2.1
  have hAs := h.2.2.2.2
  have hK := h.2.1.2.2.2.1
  have hn16 := h.2.1.1.1.1.2
  refine CX.of (by decide +kernel) rfl rfl rfl (bX10_asked_0 t c (Nat.le_refl _) h.1 (fun _ _ => ⟨_, k_hasColumn h.1 hTA.obj hTA.col t c, fun r2 w3 hP => ?_⟩))
  obtain ⟨rfl, hr⟩ := hP
  obtain rfl : r2 = bI (isC v t c) := by rw [bI_iff hCl.symm] at hr; simpa using hr
  refine ⟨fun g => ?_, fun g => ⟨rfl, Or.inr ⟨bI_0.mp g, rfl, rfl⟩⟩⟩
  have hC := bI_n0.mp g
  refine ⟨_, k_markTouched h t c hC, fun w7 hP => ?_⟩
  obtain ⟨f7, m7⟩ := hP
  have key : ∀ (x : Int) (V : VV), (0 ≤ x ∧ x ≤ 40) → Fnd (fun a => a < v 47 59 ∧ akd v (tchS G v t c) a) w7 x V → Ex mX10_asked 4 27 [(2, 0), (0, t), (0, c), (0, x), (3, 0)] [] X V 0 0 (fun o X1 w => X1 = X ∧ ((isC v t c ∧ Fr (fun r j => r = 42 ∨ S43 r j) w3 w ∧ (FLs (fun a => a < v 47 59 ∧ akd v (tchS G v t c) a) 40 (w 43 1) (w 44) ∧ 0 ≤ w 43 1 ∧ w 43 1 ≤ 40) ∧ o = some (0, w 43 1)) ∨ (¬ isC v t c ∧ w = w3 ∧ o = some (0, -1)))) := by
    refine loop2 (fun (x : Int) (_ : VV) => (40 - x).toNat) (fun (x : Int) (V : VV) => (0 ≤ x ∧ x ≤ 40) → Fnd (fun a => a < v 47 59 ∧ akd v (tchS G v t c) a) w7 x V → Ex mX10_asked 4 27 [(2, 0), (0, t), (0, c), (0, x), (3, 0)] [] X V 0 0 (fun o X1 w => X1 = X ∧ ((isC v t c ∧ Fr (fun r j => r = 42 ∨ S43 r j) w3 w ∧ (FLs (fun a => a < v 47 59 ∧ akd v (tchS G v t c) a) 40 (w 43 1) (w 44) ∧ 0 ≤ w 43 1 ∧ w 43 1 ≤ 40) ∧ o = some (0, w 43 1)) ∨ (¬ isC v t c ∧ w = w3 ∧ o = some (0, -1))))) (fun x V ih => ?_)
    intro hx hF
    have onw : ∀ W, Fnd (fun a => a < v 47 59 ∧ akd v (tchS G v t c) a) w7 (x + 1) W → x < 40 → i32 (x + 1) ∧ Ex mX10_asked 4 27 [(2, 0), (0, t), (0, c), (0, x + 1), (3, 0)] [] X W 0 0 (fun o X1 w => X1 = X ∧ ((isC v t c ∧ Fr (fun r j => r = 42 ∨ S43 r j) w3 w ∧ (FLs (fun a => a < v 47 59 ∧ akd v (tchS G v t c) a) 40 (w 43 1) (w 44) ∧ 0 ≤ w 43 1 ∧ w 43 1 ≤ 40) ∧ o = some (0, w 43 1)) ∨ (¬ isC v t c ∧ w = w3 ∧ o = some (0, -1)))) := fun W hW hx40 => ⟨⟨by omega, by omega⟩, ih (x + 1) W (by omega) ⟨by omega, by omega⟩ hW⟩
    refine bX10_asked_27 t c x (Nat.le_refl _) h.1 (fun _ _ _ => ⟨fun g => ⟨_, k_size h.1 (rowS43 h.1), fun r14 w15 hP => ?_⟩, fun g => ⟨⟨hx.1, g⟩, fun g2 => ?_, fun g2 => ?_⟩⟩)
    · obtain ⟨rfl, hr14⟩ := hP
      have e : x = 40 := by omega
      rw [e] at hF
      exact ⟨rfl, Or.inl ⟨hC, f7.via hF.1 (fun _ _ z => Or.inl z) (fun _ _ z => Or.inr z), ⟨hF.2.1.fin, hF.2.2⟩, hr14⟩⟩
    · refine onw V (hF.skip hx.1 (fun z => ?_)) g
      rcases hAs x hx.1 g with q | ⟨-, q, -⟩
      · obtain ⟨z1, k, k0, k1, k2, -⟩ := z
        have h84 : v 84 x = 0 := Classical.byContradiction (fun y => q.2 ⟨z1, y⟩)
        rw [h84] at k2
        unfold bt at k2
        rw [Int.zero_ediv] at k2
        exact absurd k2 (by decide)
      · exact q g2
    · rcases hAs x hx.1 g with q | ⟨⟨q1, q2⟩, -, q3, q4, q5, q6, q7⟩
      · exact absurd q.1 g2
      · have eV : ∀ j, V (X.2 40 x) j = w3 (X.2 40 x) j := fun j => (hF.1 _ j (by unfold S43; omega)).trans (f7 _ j (by unfold S42; omega))
        refine ⟨q3, ⟨by omega, q4.2⟩, _, k_bitsOf h.1 _, fun r19 w20 hP => ?_⟩
        obtain ⟨rfl, hr19⟩ := hP
        rw [eV, q5] at hr19
        rw [eV, q6]
        obtain ⟨a1, a2, a3⟩ := hK x hx.1 q1
        have m20 := m7 (v 83 x) a1.1 (by omega)
        have e42 : w20 42 (v 83 x) = w7 42 (v 83 x) := hF.1 42 _ (by unfold S43; omega)
        obtain rfl : r19 = w20 42 (v 83 x) := by unfold bitsR at hr19; rw [if_pos ⟨a1.1, by omega⟩] at hr19; simpa using hr19
        rw [e42]
        intro z22 e22 h22
        have kb := bits_and (w7 42 (v 83 x)).toNat (by omega) (v 84 x).toNat (by omega)
        rw [Int.toNat_of_nonneg m20.1.1, Int.toNat_of_nonneg a2.1, e22, i32_eq h22 i32_0] at kb
        have hiff : z22 = 0 ↔ ¬ akd v (tchS G v t c) x := by
          rw [kb]
          constructor
          · rintro hn ⟨k, k0, k1, k2, k3⟩
            have b1 := (m20.2 k k0 (by omega)).mpr k3
            have b3 := bt_nat (w7 42 (v 83 x)).toNat k.toNat
            have b4 := bt_nat (v 84 x).toNat k.toNat
            rw [Int.toNat_of_nonneg m20.1.1, Int.toNat_of_nonneg k0] at b3
            rw [Int.toNat_of_nonneg a2.1, Int.toNat_of_nonneg k0] at b4
            exact hn k.toNat (by omega) ⟨b3.mp b1, b4.mp k2⟩
          · intro hn e he hb
            have b3 := bt_nat (w7 42 (v 83 x)).toNat e
            have b4 := bt_nat (v 84 x).toNat e
            rw [Int.toNat_of_nonneg m20.1.1] at b3
            rw [Int.toNat_of_nonneg a2.1] at b4
            exact hn ⟨e, by omega, by omega, b4.mpr hb.2, (m20.2 e (by omega) (by omega)).mp (b3.mpr hb.1)⟩
        refine ⟨fun g3 => onw w20 (hF.skip hx.1 (fun z => hiff.mp g3 z.2)) g, fun g3 => ⟨_, k_add h.1 (rowS43 h.1) (by decide) ⟨hF.2.2.1, by have := hF.2.2.2; show w20 43 1 < ((128 : Nat) : Int); omega⟩ x, fun w25 hP => ?_⟩⟩
        have e : w25 = rAdd w20 43 44 x := hP
        rw [e]
        exact onw _ (hF.add hx.1 ⟨q1, Classical.byContradiction (fun y => g3 (hiff.mpr y))⟩) g
  refine ⟨_, k_cut h.1 (rowS43 h.1) 0, fun w11 hP => ?_⟩
  have e : w11 = rCut w7 43 0 := hP
  rw [e]
  exact key 0 _ ⟨by decide, by decide⟩ (Fnd.zero (by rw [f7 43 1 (by unfold S42; omega)]; exact h43))
/-! ===== the same, read in the reference's half ===== -/
theorem inQ_mp (G : GT) (v : VV) (M : Int → Prop) (q : Int) : ∀ (k : Nat) (j : Int), inQ G (mp v) M q k j ↔ inQ G v M q k j
  | 0, _ => Iff.rfl
  | k + 1, j => by
    show (inQ G (mp v) M q k j ∨ (isS v q ∧ inQ G (mp v) M q k (8 * q + k) ∧ Use G v q k j)) ↔ (inQ G v M q k j ∨ (isS v q ∧ inQ G v M q k (8 * q + k) ∧ Use G v q k j))
    rw [inQ_mp G v M q k j, inQ_mp G v M q k]
theorem dnM_mp (G : GT) (v : VV) : ∀ (q : Nat) (M : Int → Prop) (j : Int), dnM G (mp v) q M j ↔ dnM G v q M j
  | 0, _, _ => Iff.rfl
  | q + 1, M, j => by
    show dnM G (mp v) q (inQ G (mp v) M q (v 51 q).toNat) j ↔ dnM G v q (inQ G v M q (v 51 q).toNat) j
    rw [dnM_mp G v q]
    exact dnM_cg q (fun i => inQ_mp G v M q _ i) j
theorem frP_mp (G : GT) (v : VV) (t c how j : Int) : frP G (mp v) t c how j ↔ frP G v t c how j := by
  show (((how = 0 ∧ Dir G v t c j) ∨ (0 < how ∧ dnM G (mp v) t.toNat (Dir G v t c) j)) ∧ (how < 2 ∨ v 50 (j / 8) = 0)) ↔ _
  rw [dnM_mp]
  exact Iff.rfl
theorem upQ_mp (G : GT) (v : VV) (M : Int → Prop) (q : Int) : ∀ (k : Nat) (j : Int), upQ G (mp v) M q k j ↔ upQ G v M q k j
  | 0, _ => Iff.rfl
  | k + 1, j => by
    show (upQ G (mp v) M q k j ∨ (isS v q ∧ j = 8 * q + k ∧ (rowsM G v M q ∨ ∃ i, Use G v q k i ∧ upQ G (mp v) M q k i))) ↔ (upQ G v M q k j ∨ (isS v q ∧ j = 8 * q + k ∧ (rowsM G v M q ∨ ∃ i, Use G v q k i ∧ upQ G v M q k i)))
    have e : ∀ i, upQ G (mp v) M q k i ↔ upQ G v M q k i := fun i => upQ_mp G v M q k i
    simp only [e]
theorem upM_mp (G : GT) (v : VV) : ∀ (m : Nat) (q : Int) (M : Int → Prop) (j : Int), upM G (mp v) m q M j ↔ upM G v m q M j
  | 0, _, _, _ => Iff.rfl
  | m + 1, q, M, j => by
    show upM G (mp v) m (q + 1) (upQ G (mp v) M q (v 51 q).toNat) j ↔ upM G v m (q + 1) (upQ G v M q (v 51 q).toNat) j
    rw [upM_mp G v m]
    exact upM_cg m (q + 1) (fun i => upQ_mp G v M q _ i) j
theorem tchS_mp (G : GT) (v : VV) (t c j : Int) : tchS G (mp v) t c j ↔ tchS G v t c j := upM_mp G v _ _ _ j
theorem s_from {G : GT} {cC : Int → Nat} {E : Int} {X : XX} {v : VV} (h : I2 G cC E X v (mp v)) (t c how : Int) : StpOK mX10_from mX11_from 3 3 [(0, t), (0, c), (0, how)] E X v := by
  obtain ⟨h1, hs⟩ := id h
  have hMv : MIn G E v := h1.at rfl
  refine StpOK.cx h.1.1 (k_from h1 (by rw [hs.2.2.1.1]; exact h1.2.1.1.1.2.2.1.1) t c how) (fun o w hp => ?_)
  rcases hp with ⟨hC, hf, ⟨hF, hb0, hb1⟩, ho⟩ | ⟨hn, rfl, ho⟩
  · have em : mp w = mp v := hf.emq (fun r j q => by unfold S43 at q; omega)
    have hMw := h1.at em
    refine ⟨_, ho, (c_from h1.1 hMw.1 t c how).mono (fun o' w' hq => ?_)⟩
    obtain ⟨hF', ⟨-, hL, ho'⟩ | ⟨q, -⟩⟩ := hq
    · have hI := h1.2.1.1
      have hcl := (h1.cols t c).mp hC.1
      have hlv : ∀ j, frP G (mp v) t c how j → isT (mp v) (j / 8) := fun j hj => by
        have hD : ∀ j, Dir G (mp v) t c j → isT (mp v) (j / 8) := fun j hj => Use_live hI hj.1 (Or.inl ⟨hC.1.2.1, hC.1.2.2⟩) hj.2
        rcases hj.1 with z | z
        · exact hD j z.2
        · exact dnM_live hI _ _ hD j z.2
      have hn16 := hI.1.1.2
      have hc : FLs (frP G (mp v) t c how) 136 (w 43 1) (w 44) := hF.congr (fun j _ _ => ⟨fun z => z.2, fun z => ⟨hlv j z, z⟩⟩) (by decide) (fun j j0 j1 z => by have := (hlv j z).2.1; omega)
      have hm : FLs (frP G (mp v) t c how) 136 (w' 47 57) (w' 81) := hL.congr (fun j _ _ => by rw [← em, frP_mp]) (Nat.le_refl _) (fun j j0 j1 => by omega)
      obtain ⟨q1, q2⟩ := h.found (hf.mono (fun r j hn z => hn (by unfold S43 at z; omega))) (by rw [hf 45 1 (by unfold S43; omega)]; exact hs.2.2.2.1.2.2.2.2.2) (fun r j hn => hF' r j (by unfold SFd; omega)) hb1 hc hm
      exact ⟨by rw [ho', q2], G, cC, q1⟩
    · refine absurd ?_ q
      have e : isC w t c = isC (mp v) t c := by rw [← em]; rfl
      rw [e]; exact hC
  · refine ⟨_, ho, (c_from h1.1 hMv.1 t c how).mono (fun o' w' hq => ?_)⟩
    obtain ⟨-, ⟨q, -⟩ | ⟨-, rfl, ho'⟩⟩ := hq
    · exact absurd q hn
    · exact ⟨ho', G, cC, h.mono (by omega)⟩
theorem s_touch {G : GT} {cC : Int → Nat} {E : Int} {X : XX} {v : VV} (h : I2 G cC E X v (mp v)) (t c : Int) : StpOK mX10_touch mX11_touch 4 4 [(0, t), (0, c)] E X v := by
  obtain ⟨h1, hs⟩ := id h
  have hMv : MIn G E v := h1.at rfl
  refine StpOK.cx h.1.1 (k_touch h1 (by rw [hs.2.2.1.1]; exact h1.2.1.1.1.2.2.1.1) t c) (fun o w hp => ?_)
  rcases hp with ⟨hC, hf, ⟨hF, hb0, hb1⟩, ho⟩ | ⟨hn, rfl, ho⟩
  · have em : mp w = mp v := hf.emq (fun r j q => by unfold S43 at q; omega)
    have hMw := h1.at em
    refine ⟨_, ho, (c_touch h1.1 hMw.1 t c).mono (fun o' w' hq => ?_)⟩
    obtain ⟨hF', ⟨-, hL, ho'⟩ | ⟨q, -⟩⟩ := hq
    · have hI := h1.2.1.1
      have hn16 := hI.1.1.2
      obtain ⟨-, -, m3, -⟩ := hI.2.1 t hC.1.1 hC.1.2.1
      have hlv := tchS_live hI hC (by have := hC.2.2; omega)
      have hc : FLs (fun j => tchS G (mp v) t c j ∧ ¬ j = 8 * t + c) 136 (w 43 1) (w 44) := hF.congr (fun j _ _ => ⟨fun z => z.2, fun z => ⟨hlv j z.1, z⟩⟩) (by decide) (fun j j0 j1 z => by have := (hlv j z.1).2.1; omega)
      have hm : FLs (fun j => tchS G (mp v) t c j ∧ ¬ j = 8 * t + c) 136 (w' 47 57) (w' 81) := hL.congr (fun j _ _ => by rw [← em, tchS_mp]) (Nat.le_refl _) (fun j j0 j1 => by omega)
      obtain ⟨q1, q2⟩ := h.found (hf.mono (fun r j hn z => hn (by unfold S43 at z; omega))) (by rw [hf 45 1 (by unfold S43; omega)]; exact hs.2.2.2.1.2.2.2.2.2) (fun r j hn => hF' r j (by unfold SFd; omega)) hb1 hc hm
      exact ⟨by rw [ho', q2], G, cC, q1⟩
    · refine absurd ?_ q
      have e : isC w t c = isC (mp v) t c := by rw [← em]; rfl
      rw [e]; exact hC
  · refine ⟨_, ho, (c_touch h1.1 hMv.1 t c).mono (fun o' w' hq => ?_)⟩
    obtain ⟨-, ⟨q, -⟩ | ⟨-, rfl, ho'⟩⟩ := hq
    · exact absurd q hn
    · exact ⟨ho', G, cC, h.mono (by omega)⟩
theorem s_asked {G : GT} {cC : Int → Nat} {E : Int} {X : XX} {v : VV} (h : I2 G cC E X v (mp v)) (t c : Int) : StpOK mX10_asked mX11_asked 4 4 [(0, t), (0, c)] E X v := by
  obtain ⟨h1, hs⟩ := id h
  have hMv : MIn G E v := h1.at rfl
  refine StpOK.cx h.1.1 (k_asked h1 (by rw [hs.2.2.1.1]; exact h1.2.1.1.1.2.2.1.1) t c) (fun o w hp => ?_)
  rcases hp with ⟨hC, hf, ⟨hF, hb0, hb1⟩, ho⟩ | ⟨hn, rfl, ho⟩
  · have em : mp w = mp v := hf.emq (fun r j q => by unfold S43 at q; omega)
    have hMw := h1.at em
    refine ⟨_, ho, (c_asked h1.1 hMw.1 hMw.2.2.2.1 t c).mono (fun o' w' hq => ?_)⟩
    obtain ⟨hF', ⟨-, hL, ho'⟩ | ⟨q, -⟩⟩ := hq
    · have h40 := h1.2.1.1.1.2.2.2.1
      have e59 : w 47 59 = mp v 47 59 := by rw [← em]; rfl
      have hm : FLs (fun a => a < mp v 47 59 ∧ akd (mp v) (tchS G (mp v) t c) a) 40 (w' 47 57) (w' 81) := by
        refine hL.congr (fun a a0 a1 => ?_) (by omega) (fun a a0 a1 z => by have := z.1; omega)
        have ek : akd w (tchS G w t c) a ↔ akd (mp v) (tchS G (mp v) t c) a := by
          rw [← em]
          show (∃ k, 0 ≤ k ∧ k < 6 ∧ bt (w 84 a) k ∧ tchS G w t c (8 * w 83 a + k)) ↔ ∃ k, 0 ≤ k ∧ k < 6 ∧ bt (w 84 a) k ∧ tchS G (mp w) t c (8 * w 83 a + k)
          simp only [tchS_mp]
        rw [ek]
        exact ⟨fun z => ⟨by omega, z⟩, fun z => z.2⟩
      obtain ⟨q1, q2⟩ := h.found (hf.mono (fun r j hn z => hn (by unfold S43 at z; omega))) (by rw [hf 45 1 (by unfold S43; omega)]; exact hs.2.2.2.1.2.2.2.2.2) (fun r j hn => hF' r j (by unfold SFd; omega)) (by omega) hF hm
      exact ⟨by rw [ho', q2], G, cC, q1⟩
    · refine absurd ?_ q
      have e : isC w t c = isC (mp v) t c := by rw [← em]; rfl
      rw [e]; exact hC
  · refine ⟨_, ho, (c_asked h1.1 hMv.1 hMv.2.2.2.1 t c).mono (fun o' w' hq => ?_)⟩
    obtain ⟨-, ⟨q, -⟩ | ⟨-, rfl, ho'⟩⟩ := hq
    · exact absurd q hn
    · exact ⟨ho', G, cC, h.mono (by omega)⟩
