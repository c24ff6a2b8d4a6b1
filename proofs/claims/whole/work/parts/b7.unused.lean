/-! ===== bits ===== -/
theorem shr_bv (a : Int32) (t : Nat) (ht : t < 32) : (a >>> (Int32.ofInt (t : Int) &&& 31)).toBitVec = a.toBitVec.sshiftRight t := by
  have e : ∀ t : Nat, t < 32 → ((Int32.ofInt (t : Int) &&& 31).toBitVec.smod 32).toNat = t := by decide +kernel
  show BitVec.sshiftRight' a.toBitVec ((Int32.ofInt (t : Int) &&& 31).toBitVec.smod 32) = _
  rw [BitVec.sshiftRight_eq', e t ht]
theorem ushr_bv (a : Int32) (t : Nat) (ht : t < 32) : ((a.toUInt32 >>> ((Int32.ofInt (t : Int)).toUInt32 &&& Int32.toUInt32 31)).toInt32).toBitVec = a.toBitVec >>> t := by
  have e : ∀ t : Nat, t < 32 → (UInt32.mod ((Int32.ofInt (t : Int)).toUInt32 &&& Int32.toUInt32 31) 32).toBitVec.toNat = t := by decide +kernel
  show a.toBitVec >>> (UInt32.mod ((Int32.ofInt (t : Int)).toUInt32 &&& Int32.toUInt32 31) 32).toBitVec = _
  rw [BitVec.ushiftRight_eq', e t ht]
/-- the bits of u are P -/
def UB (u : Int) (P : Int → Prop) : Prop := i32 u ∧ ∀ t : Nat, t < 16 → ((Int32.ofInt u).toBitVec.getLsbD t = true ↔ P t)
theorem UB.cg {u : Int} {P P' : Int → Prop} (h : UB u P) (e : ∀ t : Int, 0 ≤ t → t < 16 → (P t ↔ P' t)) : UB u P' := ⟨h.1, fun t ht => (h.2 t ht).trans (e t (by omega) (by omega))⟩
theorem UB.zero : UB 0 (fun _ => False) := ⟨i32_0, fun t ht => by
  have e : ∀ t : Nat, t < 16 → (Int32.ofInt 0).toBitVec.getLsbD t = false := by decide +kernel
  rw [e t ht]; simp⟩
theorem UB.or {u k z2 z3 : Int} {P : Int → Prop} (h : UB u P) (hk : 0 ≤ k ∧ k < 16) (e2 : Int32.ofInt 1 <<< (Int32.ofInt k &&& 31) = Int32.ofInt z2) (e3 : Int32.ofInt u ||| Int32.ofInt z2 = Int32.ofInt z3) (h3 : i32 z3) : UB z3 (fun t => P t ∨ t = k) := by
  refine ⟨h3, fun t ht => ?_⟩
  have e : ∀ k : Nat, k < 16 → ∀ t : Nat, t < 16 → (Int32.ofInt 1 <<< (Int32.ofInt (k : Int) &&& 31)).toBitVec.getLsbD t = decide (t = k) := by decide +kernel
  have ek := e k.toNat (by omega) t ht
  rw [Int.toNat_of_nonneg hk.1, e2] at ek
  have eo : (Int32.ofInt z3).toBitVec = (Int32.ofInt u).toBitVec ||| (Int32.ofInt z2).toBitVec := by rw [← e3]; rfl
  rw [eo, BitVec.getLsbD_or, ek, Bool.or_eq_true, h.2 t ht]
  refine or_congr Iff.rfl ?_
  rw [decide_eq_true_iff]
  omega
theorem UB.test {u k z4 z5 : Int} {P : Int → Prop} (h : UB u P) (hk : 0 ≤ k ∧ k < 16) (e4 : Int32.ofInt u >>> (Int32.ofInt k &&& 31) = Int32.ofInt z4) (e5 : Int32.ofInt z4 &&& Int32.ofInt 1 = Int32.ofInt z5) (h5 : i32 z5) : z5 = 0 ↔ ¬ P k := by
  have hP := h.2 k.toNat (by omega)
  rw [Int.toNat_of_nonneg hk.1] at hP
  have es := shr_bv (Int32.ofInt u) k.toNat (by omega)
  rw [Int.toNat_of_nonneg hk.1, e4] at es
  have ea : (Int32.ofInt z5).toBitVec = (Int32.ofInt z4).toBitVec &&& 1#32 := by rw [← e5]; rfl
  have eb : (Int32.ofInt z4).toBitVec.getLsbD 0 = (Int32.ofInt u).toBitVec.getLsbD k.toNat := by
    rw [es, BitVec.getLsbD_sshiftRight]
    have h32 : k.toNat + 0 < 32 := by omega
    simp [show k.toNat < 32 by omega]
  have h1 : ∀ i : Nat, i < 32 → (1#32).getLsbD i = decide (i = 0) := by decide +kernel
  have hz : z5 = 0 ↔ (Int32.ofInt z5).toBitVec = 0#32 := by
    rw [← i32_eq h5 i32_0]
    exact ⟨fun q => by rw [q]; rfl, fun q => Int32.toBitVec.inj q⟩
  rw [hz, ea, ← hP, ← eb]
  constructor
  · intro q y
    have := congrArg (fun b => BitVec.getLsbD b 0) q
    simp only [BitVec.getLsbD_and] at this
    rw [y, h1 0 (by decide)] at this
    simp at this
  · intro q
    refine BitVec.eq_of_getLsbD_eq (fun i hi => ?_)
    rw [BitVec.getLsbD_and, h1 i hi]
    by_cases y : i = 0
    · rw [y]
      cases hb : (Int32.ofInt z4).toBitVec.getLsbD 0 with
      | false => simp
      | true => exact absurd hb q
    · simp [y]
/-! ===== unused ===== -/
set_option maxRecDepth 100000 in
set_option maxHeartbeats 4000000 in
theorem k_usedTables {G : GT} {cC : Int → Nat} {E : Int} {X : XX} {vc v : VV} (h : I1 G cC E X vc v) (since : Int) : CX mX10_usedTables 1 [(2, 0), (0, since)] X vc (fun o w => w = vc ∧ ∃ u, UB u (usd v since) ∧ o = some (0, u)) := by
  have hAs := h.2.2.2.2
  have hK := h.2.1.2.2.2.1
  have hM := h.2.1.1.2.1
  have hn16 := h.2.1.1.1.1.2
  have h40 := h.2.1.1.1.2.2.2.1
  -- down over the tables
  have k51 : ∀ (x : Nat) (u : Int), x ≤ 16 → UB u (usx v since ((x : Int) - 1)) → Ex mX10_usedTables 1 51 [(2, 0), (0, since), (0, u), (0, (x : Int) - 1), (3, 0), (3, 0)] [] X vc 0 0 (fun o X1 w => X1 = X ∧ w = vc ∧ ∃ u, UB u (usd v since) ∧ o = some (0, u)) := by
    intro x
    induction x with
    | zero =>
      intro u _ hU
      refine bX10_usedTables_51 since u _ (Nat.le_refl _) h.1 (fun _ _ _ => ⟨fun _ => ⟨rfl, rfl, u, hU.cg (fun t t0 t1 => ?_), rfl⟩, fun g => by omega⟩)
      rw [usd_eq hn16 t t0]
      unfold usx
      refine or_congr Iff.rfl ⟨fun ⟨s, s0, s1, s2, s3, s4⟩ => ⟨s, ?_, s1, s2, s3, s4⟩, fun ⟨s, s0, s1, s2, s3, s4⟩ => ⟨s, by omega, s1, s2, s3, s4⟩⟩
      obtain ⟨k, k0, k1, k2⟩ := s4
      obtain ⟨-, -, -, -, m5, -⟩ := hM s (by omega) s1
      have := m5 k k0 k1
      omega
    | succ x ih =>
      intro u hx hU
      rw [show ((x + 1 : Nat) : Int) - 1 = x by omega] at hU ⊢
      have e1 : (x : Int) + -1 = (x : Int) - 1 := by omega
      have hlx := h.live x
      have same : ¬ (isT v x ∧ usd v since x) → UB u (usx v since ((x : Int) - 1)) := fun hn => hU.cg (fun t t0 t1 => by
        unfold usx
        refine or_congr Iff.rfl ⟨fun ⟨s, s0, s1, s2, s3, s4⟩ => ⟨s, by omega, s1, s2, s3, s4⟩, fun ⟨s, s0, s1, s2, s3, s4⟩ => ⟨s, ?_, s1, s2, s3, s4⟩⟩
        by_cases z : s = x
        · rw [z] at s1 s2 s3; exact absurd ⟨⟨by omega, s1, s2⟩, s3⟩ hn
        · omega)
      have onw : UB u (usx v since ((x : Int) - 1)) → i32 ((x : Int) + -1) ∧ Ex mX10_usedTables 1 51 [(2, 0), (0, since), (0, u), (0, (x : Int) + -1), (3, 0), (3, 0)] [] X vc 0 0 (fun o X1 w => X1 = X ∧ w = vc ∧ ∃ u, UB u (usd v since) ∧ o = some (0, u)) := fun hU2 => ⟨⟨by omega, by omega⟩, by rw [e1]; exact ih u (by omega) hU2⟩
      refine bX10_usedTables_51 since u x (Nat.le_refl _) h.1 (fun _ _ _ => ⟨fun g => by omega, fun _ => ⟨⟨by omega, by omega⟩, fun g2 => onw (same (fun z => (hlx.mp z.1).2.2 g2)), fun g2 => ?_⟩⟩)
      have hT := hlx.mpr ⟨by omega, by omega, g2⟩
      intro z4 e4 h4 z5 e5 h5
      have hz := hU.test ⟨by omega, by omega⟩ e4 e5 h5
      have hux : usx v since x x ↔ usd v since x := (usd_eq hn16 (x : Int) (by omega)).symm
      rw [hux] at hz
      refine ⟨fun g3 => ?_, fun g3 => onw (same (fun z => hz.mp g3 z.2))⟩
      have hus : usd v since x := Classical.byContradiction (fun y => g3 (hz.mpr y))
      have hh := h.hi hT
      obtain ⟨⟨B, I, W, ⟨⟨s1, s2, -, ⟨s3, s4⟩, -⟩, -, hB3, -⟩, -, ⟨⟨k2, k3, k4⟩, k5⟩, -⟩, -⟩ := h.tab hT
      obtain ⟨-, -, -, m4, m5, -⟩ := hM x hT.1 hT.2.1
      have k82 : ∀ (k u' : Int), (0 ≤ k ∧ k ≤ v 54 x) → UB u' (fun q => usx v since x q ∨ ∃ i, 0 ≤ i ∧ i < k ∧ v 55 (3 * x + i) = q) → Ex mX10_usedTables 1 82 [(2, 0), (0, since), (0, u'), (0, (x : Int)), (2, X.2 37 x), (0, k)] [] X vc 0 0 (fun o X1 w => X1 = X ∧ w = vc ∧ ∃ u, UB u (usd v since) ∧ o = some (0, u)) := by
        refine loop2 (fun (k _ : Int) => (v 54 x - k).toNat) (fun (k u' : Int) => (0 ≤ k ∧ k ≤ v 54 x) → UB u' (fun q => usx v since x q ∨ ∃ i, 0 ≤ i ∧ i < k ∧ v 55 (3 * x + i) = q) → Ex mX10_usedTables 1 82 [(2, 0), (0, since), (0, u'), (0, (x : Int)), (2, X.2 37 x), (0, k)] [] X vc 0 0 (fun o X1 w => X1 = X ∧ w = vc ∧ ∃ u, UB u (usd v since) ∧ o = some (0, u))) (fun k u' ih2 => ?_)
        intro hk hU'
        refine bX10_usedTables_82 since u' x _ k (Nat.le_refl _) h.1 (fun _ _ _ _ => ?_)
        rw [s3]
        refine ⟨hh.2.1, ⟨by omega, hh.2.2⟩, s4.1, s4.2.1, _, k_size h.1 s4, fun r9 w10 hP => ?_⟩
        obtain ⟨rfl, hr9⟩ := hP
        obtain rfl : r9 = v 54 x := by rw [k2] at hr9; simpa using hr9
        refine ⟨fun g4 => ⟨⟨by omega, by omega⟩, ?_⟩, fun g4 => ⟨_, k_get h.1 s4 (by rw [k2]; exact k4) k, fun r13 w14 hP => ?_⟩⟩
        · have ek : k = v 54 x := by omega
          rw [e1]
          refine ih u' (by omega) (hU'.cg (fun t t0 t1 => ?_))
          rw [ek]
          unfold usx
          constructor
          · rintro ((z | ⟨s, q0, q1, q2, q3, q4⟩) | z)
            · exact Or.inl z
            · exact Or.inr ⟨s, by omega, q1, q2, q3, q4⟩
            · exact Or.inr ⟨x, by omega, hT.2.1, hT.2.2, hus, z⟩
          · rintro (z | ⟨s, q0, q1, q2, q3, q4⟩)
            · exact Or.inl (Or.inl z)
            · by_cases y : s = x
              · rw [y] at q4; exact Or.inr q4
              · exact Or.inl (Or.inr ⟨s, by omega, q1, q2, q3, q4⟩)
        · obtain ⟨rfl, hr13⟩ := hP
          obtain rfl : r13 = v 55 (3 * x + k) := by rw [rGet_in ⟨hk.1, by rw [k2]; exact g4⟩, k5 k hk.1 g4] at hr13; simpa using hr13
          obtain ⟨a1, a2, -⟩ := m5 k hk.1 g4
          intro z16 e16 h16 z17 e17 h17
          refine ⟨⟨by omega, by omega⟩, ih2 (k + 1) z17 (by omega) ⟨by omega, by omega⟩ ((hU'.or ⟨a1, by omega⟩ e16 e17 h17).cg (fun t t0 t1 => ?_))⟩
          constructor
          · rintro ((z | ⟨i, i0, i1, i2⟩) | z)
            · exact Or.inl z
            · exact Or.inr ⟨i, i0, by omega, i2⟩
            · exact Or.inr ⟨k, hk.1, by omega, z.symm⟩
          · rintro (z | ⟨i, i0, i1, i2⟩)
            · exact Or.inl (Or.inl z)
            · by_cases y : i = k
              · rw [y] at i2; exact Or.inr i2.symm
              · exact Or.inl (Or.inr ⟨i, i0, by omega, i2⟩)
      exact k82 0 u ⟨Int.le_refl _, m4.1⟩ (hU.cg (fun t _ _ => ⟨Or.inl, fun z => z.elim id (fun ⟨i, i0, i1, _⟩ => by omega)⟩))
  -- over the asks
  have k4 : ∀ (x u : Int), (0 ≤ x ∧ x ≤ 40) → UB u (fun q => ∃ a, (0 ≤ a ∧ a < x ∧ a < v 47 59) ∧ 0 < v 84 a ∧ since ≤ v 85 a ∧ v 83 a = q) → Ex mX10_usedTables 1 4 [(2, 0), (0, since), (0, u), (0, x), (3, 0), (3, 0)] [] X vc 0 0 (fun o X1 w => X1 = X ∧ w = vc ∧ ∃ u, UB u (usd v since) ∧ o = some (0, u)) := by
    refine loop2 (fun (x _ : Int) => (40 - x).toNat) (fun (x u : Int) => (0 ≤ x ∧ x ≤ 40) → UB u (fun q => ∃ a, (0 ≤ a ∧ a < x ∧ a < v 47 59) ∧ 0 < v 84 a ∧ since ≤ v 85 a ∧ v 83 a = q) → Ex mX10_usedTables 1 4 [(2, 0), (0, since), (0, u), (0, x), (3, 0), (3, 0)] [] X vc 0 0 (fun o X1 w => X1 = X ∧ w = vc ∧ ∃ u, UB u (usd v since) ∧ o = some (0, u))) (fun x u ih => ?_)
    intro hx hU
    have onw : ¬ (x < v 47 59 ∧ 0 < v 84 x ∧ since ≤ v 85 x) → x < 40 → i32 (x + 1) ∧ Ex mX10_usedTables 1 4 [(2, 0), (0, since), (0, u), (0, x + 1), (3, 0), (3, 0)] [] X vc 0 0 (fun o X1 w => X1 = X ∧ w = vc ∧ ∃ u, UB u (usd v since) ∧ o = some (0, u)) := fun hn hx4 => ⟨⟨by omega, by omega⟩, ih (x + 1) u (by omega) ⟨by omega, by omega⟩ (hU.cg (fun t _ _ => ⟨fun ⟨a, a0, a1⟩ => ⟨a, ⟨a0.1, by omega, a0.2.2⟩, a1⟩, fun ⟨a, a0, a1, a2, a3⟩ => ⟨a, ⟨a0.1, by
        by_cases z : a = x
        · rw [z] at a0 a1 a2; exact absurd ⟨a0.2.2, a1, a2⟩ hn
        · omega, a0.2.2⟩, a1, a2, a3⟩⟩))⟩
    refine bX10_usedTables_4 since u x (Nat.le_refl _) h.1 (fun _ _ _ => ⟨fun g => ?_, fun g => ⟨⟨hx.1, g⟩, fun g2 => ?_, fun g2 => ?_⟩⟩)
    · have hk := k51 16 u (Nat.le_refl _) (hU.cg (fun t t0 t1 => by
        unfold usx asd
        constructor
        · rintro ⟨a, a0, a1⟩; exact Or.inl ⟨a, a0.1, a0.2.2, a1⟩
        · rintro (⟨a, a0, a1, a2⟩ | ⟨s, s0, s1, _⟩)
          · exact ⟨a, ⟨a0, by omega, a1⟩, a2⟩
          · have s0' : (15 : Int) < s := s0
            omega))
      exact hk
    · refine onw (fun z => ?_) g
      rcases hAs x hx.1 g with q | ⟨-, q, -⟩
      · exact q.2 ⟨z.1, by omega⟩
      · exact q g2
    · rcases hAs x hx.1 g with q | ⟨⟨q1, q1'⟩, -, q3, q4, q5, q6, q7⟩
      · exact absurd q.1 g2
      · obtain ⟨a1, a2, a3⟩ := hK x hx.1 q1
        rw [q5, q7]
        refine ⟨q3, ⟨by omega, q4.2⟩, fun g3 => onw (fun z => by omega) g, fun g3 => ?_⟩
        intro z2 e2 h2 z3 e3 h3
        refine ⟨⟨by omega, by omega⟩, ih (x + 1) z3 (by omega) ⟨by omega, by omega⟩ ((hU.or ⟨a1.1, by omega⟩ e2 e3 h3).cg (fun t _ _ => ?_))⟩
        constructor
        · rintro (⟨a, a0, a1⟩ | z)
          · exact ⟨a, ⟨a0.1, by omega, a0.2.2⟩, a1⟩
          · exact ⟨x, ⟨hx.1, by omega, q1⟩, by omega, g3, z.symm⟩
        · rintro ⟨a, a0, a1, a2, a3⟩
          by_cases y : a = x
          · rw [y] at a3; exact Or.inr a3.symm
          · exact Or.inl ⟨a, ⟨a0.1, by omega, a0.2.2⟩, a1, a2, a3⟩
  exact CX.of (by decide +kernel) rfl rfl rfl (bX10_usedTables_0 since (Nat.le_refl _) h.1 (fun _ => k4 0 0 ⟨by decide, by decide⟩ (UB.zero.cg (fun t _ _ => ⟨fun z => z.elim, fun ⟨a, a0, _⟩ => by omega⟩))))
set_option maxRecDepth 100000 in
set_option maxHeartbeats 4000000 in
theorem k_unused {G : GT} {cC : Int → Nat} {E : Int} {X : XX} {vc v : VV} (h : I1 G cC E X vc v) (h43 : 0 ≤ vc 43 1) (since : Int) : CX mX10_unused 2 [(2, 0), (0, since)] X vc (fun o w => Fnd (fun t => isT v t ∧ ¬ usd v since t) vc 16 w ∧ o = some (0, w 43 1)) := by
  refine CX.of (by decide +kernel) rfl rfl rfl (bX10_unused_0 since (Nat.le_refl _) h.1 (fun _ => ⟨_, k_usedTables h since, fun r2 w3 hP => ?_⟩))
  obtain ⟨rfl, u, hU, hr⟩ := hP
  obtain rfl : r2 = u := by simpa using hr
  have key : ∀ (x : Int) (V : VV), (0 ≤ x ∧ x ≤ 16) → Fnd (fun t => isT v t ∧ ¬ usd v since t) w3 x V → Ex mX10_unused 2 16 [(2, 0), (0, since), (0, r2), (0, x)] [] X V 0 0 (fun o X1 w => X1 = X ∧ Fnd (fun t => isT v t ∧ ¬ usd v since t) w3 16 w ∧ o = some (0, w 43 1)) := by
    refine loop2 (fun (x : Int) (_ : VV) => (16 - x).toNat) (fun (x : Int) (V : VV) => (0 ≤ x ∧ x ≤ 16) → Fnd (fun t => isT v t ∧ ¬ usd v since t) w3 x V → Ex mX10_unused 2 16 [(2, 0), (0, since), (0, r2), (0, x)] [] X V 0 0 (fun o X1 w => X1 = X ∧ Fnd (fun t => isT v t ∧ ¬ usd v since t) w3 16 w ∧ o = some (0, w 43 1))) (fun x V ih => ?_)
    intro hx hF
    have hlx := h.live x
    refine bX10_unused_16 since r2 x (Nat.le_refl _) h.1 (fun _ _ _ => ⟨fun g => ⟨_, k_size h.1 (rowS43 h.1), fun r10 w11 hP => ?_⟩, fun g => ⟨⟨hx.1, g⟩, fun g2 => ⟨⟨by omega, by omega⟩, ih (x + 1) V (by omega) ⟨by omega, by omega⟩ (hF.skip hx.1 (fun z => (hlx.mp z.1).2.2 g2))⟩, fun g2 => ?_⟩⟩)
    · obtain ⟨rfl, hr10⟩ := hP
      have e : x = 16 := by omega
      rw [e] at hF
      exact ⟨rfl, hF, hr10⟩
    · have hT := hlx.mpr ⟨hx.1, g, g2⟩
      intro z13 e13 h13 z14 e14 h14
      have hz := hU.test ⟨hx.1, g⟩ e13 e14 h14
      refine ⟨fun g3 => ⟨⟨by omega, by omega⟩, ih (x + 1) V (by omega) ⟨by omega, by omega⟩ (hF.skip hx.1 (fun z => g3 (hz.mpr z.2)))⟩, fun g3 => ⟨_, k_add h.1 (rowS43 h.1) (by decide) ⟨hF.2.2.1, by have := hF.2.2.2; show V 43 1 < ((128 : Nat) : Int); omega⟩ x, fun w17 hP => ⟨⟨by omega, by omega⟩, ?_⟩⟩⟩
      have e : w17 = rAdd V 43 44 x := hP
      rw [e]
      exact ih (x + 1) _ (by omega) ⟨by omega, by omega⟩ (hF.add hx.1 ⟨hT, hz.mp g3⟩)
  refine ⟨_, k_cut h.1 (rowS43 h.1) 0, fun w7 hP => ?_⟩
  have e : w7 = rCut w3 43 0 := hP
  rw [e]
  exact key 0 _ ⟨by decide, by decide⟩ (Fnd.zero h43)
theorem usdF_mp (v : VV) (since : Int) : ∀ (f : Nat) (t : Int), usdF (mp v) since f t ↔ usdF v since f t
  | 0, _ => Iff.rfl
  | f + 1, t => by
    show (asd v since t ∨ ∃ s, t < s ∧ s < v 47 0 ∧ ¬ v 48 s = 0 ∧ usdF (mp v) since f s ∧ hasB v s t) ↔ (asd v since t ∨ ∃ s, t < s ∧ s < v 47 0 ∧ ¬ v 48 s = 0 ∧ usdF v since f s ∧ hasB v s t)
    have e : ∀ s, usdF (mp v) since f s ↔ usdF v since f s := fun s => usdF_mp v since f s
    simp only [e]
theorem s_unused {G : GT} {cC : Int → Nat} {E : Int} {X : XX} {v : VV} (h : I2 G cC E X v (mp v)) (since : Int) : StpOK mX10_unused mX11_unused 2 1 [(0, since)] E X v := by
  obtain ⟨h1, hs⟩ := id h
  have hb16 := h1.2.1.1.1.1
  refine StpOK.cx h.1.1 (k_unused h1 (by rw [hs.2.2.1.1]; exact h1.2.1.1.1.2.2.1.1) since) (fun o w hp => ?_)
  obtain ⟨hF, ho⟩ := hp
  have em : mp w = mp v := hF.1.emq (fun r j q => by unfold S43 at q; omega)
  have hMw := h1.at em
  refine ⟨_, ho, (c_unused h1.1 hMw.1.1 hMw.1.2.1 hMw.2.2.2.1 since).mono (fun o' w' hq => ?_)⟩
  obtain ⟨⟨-, k2, k3, k4, k5⟩, ho'⟩ := hq
  have e0 : w 47 0 = mp v 47 0 := by rw [← em]; rfl
  have hm2 : FLs (fun t => isT (mp v) t ∧ ¬ usd (mp v) since t) 16 (w' 47 57) (w' 81) := by
    refine k3.fin.congr (fun i i0 i1 => ?_) (by omega) (fun i i0 i1 z => ?_)
    · rw [Int.toNat_of_nonneg (by omega)] at i1
      have eu : usd (mp v) since i ↔ usd w since i := by rw [← em]; exact usdF_mp w since 17 i
      rw [eu, ← em]
      exact ⟨fun z => ⟨⟨i0, i1, z.1⟩, z.2⟩, fun z => ⟨z.1.2.2, z.2⟩⟩
    · have := z.1.2.1
      omega
  obtain ⟨q1, q2⟩ := h.found hF.fr (by rw [hF.1 45 1 (by unfold S43; omega)]; exact hs.2.2.2.1.2.2.2.2.2) (fun r j hn => k2 r j (by omega)) (N := 16) (by have := hF.2.2.2; omega) hF.2.1.fin hm2
  exact ⟨by rw [ho', q2], G, cC, q1⟩
