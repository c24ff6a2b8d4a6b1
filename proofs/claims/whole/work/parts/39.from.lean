/-! ===== from, touch, asked of the reference ===== -/
def inQ (G : GT) (v : VV) (M : Int → Prop) (q : Int) : Nat → Int → Prop
  | 0, j => M j
  | k + 1, j => inQ G v M q k j ∨ (isS v q ∧ inQ G v M q k (8 * q + k) ∧ Use G v q k j)
def dnM (G : GT) (v : VV) : Nat → (Int → Prop) → Int → Prop
  | 0, M, j => M j
  | q + 1, M, j => dnM G v q (inQ G v M q (v 51 q).toNat) j
theorem inQ_cg {G : GT} {v : VV} {M M' : Int → Prop} {q : Int} (h : ∀ j, M j ↔ M' j) : ∀ (k : Nat) (j : Int), inQ G v M q k j ↔ inQ G v M' q k j
  | 0, j => h j
  | k + 1, j => by unfold inQ; rw [inQ_cg h k j, inQ_cg h k (8 * q + k)]
theorem inQ_no {G : GT} {v : VV} {M : Int → Prop} {q : Int} (h : ¬ isS v q) : ∀ (k : Nat) (j : Int), inQ G v M q k j ↔ M j
  | 0, j => Iff.rfl
  | k + 1, j => by unfold inQ; rw [inQ_no h k j]; exact ⟨fun z => z.elim id (fun y => absurd y.1 h), Or.inl⟩
theorem dnM_cg {G : GT} {v : VV} : ∀ (q : Nat) {M M' : Int → Prop} (_ : ∀ j, M j ↔ M' j) (j : Int), dnM G v q M j ↔ dnM G v q M' j
  | 0, _, _, h, j => h j
  | q + 1, _, _, h, j => dnM_cg q (fun i => inQ_cg h _ i) j
theorem MKs.cg {M M' : Int → Prop} {v : VV} (h : MKs M v) (e : ∀ j, 0 ≤ j → j < 136 → (M j ↔ M' j)) : MKs M' v := fun j j0 j1 => ⟨(h j j0 j1).1, (h j j0 j1).2.trans (e j j0 j1)⟩
theorem Use_bd {G : GT} {v : VV} {t f j : Int} (hI : MS G v) (hS : isS v t) (hp : PF v t f) (h : Use G v t f j) : 0 ≤ j ∧ j < 8 * t ∧ j < 128 := by
  obtain ⟨k, k1, rfl⟩ := h
  exact uAt_bd hI.1 hI.2.1 hS ((hI.2.2 t hS).2 f hp) k1
def SFd (r j : Int) : Prop := r = 80 ∨ r = 81 ∨ (r = 47 ∧ j = 57)
/-- the found ones so far -/
def FDs (p : Int → Prop) (v : VV) (x : Int) : Prop := FLx p x (v 47 57) (v 81) ∧ 0 ≤ v 47 57 ∧ v 47 57 ≤ x
theorem FDs.zero {p : Int → Prop} {v : VV} (h : v 47 57 = 0) : FDs p v 0 := ⟨by rw [h]; exact FLx.zero _ _, by omega, by omega⟩
theorem FDs.skip {p : Int → Prop} {v : VV} {x : Int} (h : FDs p v x) (h0 : 0 ≤ x) (hp : ¬ p x) : FDs p v (x + 1) := ⟨h.1.skip h0 hp, h.2.1, by have := h.2.2; omega⟩
theorem FDs.add {p : Int → Prop} {v : VV} {x : Int} (h : FDs p v x) (h0 : 0 ≤ x) (hp : p x) : FDs p (upd2 (upd2 v 81 (v 47 57) x) 47 57 (v 47 57 + 1)) (x + 1) := by
  refine ⟨?_, ?_, ?_⟩
  · rw [upd2_s]
    refine h.1.add h0 hp ?_ (fun i hi => ?_)
    · rw [upd2_n _ (by omega), upd2_s]
    · rw [upd2_n _ (by omega), upd2_n _ (by omega)]
  · rw [upd2_s]; have := h.2.1; omega
  · rw [upd2_s]; have := h.2.2; omega
def Dir (G : GT) (v : VV) (t c j : Int) : Prop := isS v t ∧ Use G v t c j
/-- the columns from which a column comes -/
def frS (G : GT) (v : VV) (t c how j : Int) : Prop := (how = 0 ∧ Dir G v t c j) ∨ (0 < how ∧ dnM G v t.toNat (Dir G v t c) j)
def frP (G : GT) (v : VV) (t c how j : Int) : Prop := frS G v t c how j ∧ (how < 2 ∨ v 50 (j / 8) = 0)
set_option maxRecDepth 100000 in
set_option maxHeartbeats 4000000 in
theorem l_from157 {X : XX} {v : VV} {Q : QQ} {d mc ms : Nat} {G : GT} {M : Int → Prop} (hW : SW X) (hd : 3 ≤ d) (a1 a2 a3 : Int) (hQ : ∀ V, Fr SFd v V → FDs (fun j => M j ∧ (a3 < 2 ∨ v 50 (j / 8) = 0)) V 136 → Q (some (0, V 47 57)) X V) : ∀ (x : Int) (V : VV), (0 ≤ x ∧ x ≤ 136) → Fr SFd v V → MKs M V → FDs (fun j => M j ∧ (a3 < 2 ∨ v 50 (j / 8) = 0)) V x → Ex mX11_from d 157 [(2, 47), (0, a1), (0, a2), (0, a3), (0, x), (3, 0)] [] X V mc ms Q := by
  refine loop2 (fun (x : Int) (V : VV) => (136 - x).toNat) (fun (x : Int) (V : VV) => (0 ≤ x ∧ x ≤ 136) → Fr SFd v V → MKs M V → FDs (fun j => M j ∧ (a3 < 2 ∨ v 50 (j / 8) = 0)) V x → Ex mX11_from d 157 [(2, 47), (0, a1), (0, a2), (0, a3), (0, x), (3, 0)] [] X V mc ms Q) (fun x V ih => ?_)
  intro hx hf hM hF
  have hF2 := hF.2
  have hit : (M x ∧ (a3 < 2 ∨ v 50 (x / 8) = 0)) → ∀ w, w = upd2 (upd2 V 81 (V 47 57) x) 47 57 (V 47 57 + 1) → x < 136 → i32 (x + 1) ∧ Ex mX11_from d 157 [(2, 47), (0, a1), (0, a2), (0, a3), (0, x + 1), (3, 0)] [] X w mc ms Q := fun hp w hw hl => by
    rw [hw]
    exact ⟨⟨by omega, by omega⟩, ih (x + 1) _ (by omega) ⟨by omega, by omega⟩ ((hf.up (by unfold SFd; omega)).up (by unfold SFd; omega)) (fun j j0 j1 => by rw [upd2_n _ (by omega), upd2_n _ (by omega)]; exact hM j j0 j1) (hF.add hx.1 hp)⟩
  have miss_ : ¬ (M x ∧ (a3 < 2 ∨ v 50 (x / 8) = 0)) → x < 136 → i32 (x + 1) ∧ Ex mX11_from d 157 [(2, 47), (0, a1), (0, a2), (0, a3), (0, x + 1), (3, 0)] [] X V mc ms Q := fun hp hl =>
    ⟨⟨by omega, by omega⟩, ih (x + 1) V (by omega) ⟨by omega, by omega⟩ hf hM (hF.skip hx.1 hp)⟩
  refine bX11_from_157 a1 a2 a3 x hd hW (fun _ _ _ _ => ⟨fun g => ?_, fun g => ⟨⟨by omega, by omega⟩, fun g2 => ?_, fun g2 => ⟨fun g3 => ?_, fun g3 => ⟨by omega, ⟨by omega, by omega⟩, fun g4 => ?_, fun g4 => ?_⟩⟩⟩⟩)
  · exact hQ V hf (by rw [show x = 136 by omega] at hF; exact hF)
  · exact miss_ (fun z => ((hM x hx.1 g).2.mpr z.1) g2) g
  · refine ⟨_, c_finds hW (by omega) x, fun w19 hP => hit ⟨(hM x hx.1 g).2.mp g2, Or.inl g3⟩ w19 hP g⟩
  · rw [hf 50 _ (by unfold SFd; omega)] at g4
    exact miss_ (fun z => by rcases z.2 with y | y; omega; exact g4 y) g
  · rw [hf 50 _ (by unfold SFd; omega)] at g4
    refine ⟨_, c_finds hW (by omega) x, fun w23 hP => hit ⟨(hM x hx.1 g).2.mp g2, Or.inr g4⟩ w23 hP g⟩
set_option maxRecDepth 100000 in
set_option maxHeartbeats 4000000 in
theorem l_from101 {X : XX} {v : VV} {Q : QQ} {d mc ms : Nat} {G : GT} {M : Int → Prop} (hW : SW X) (hd : 3 ≤ d) (hI : MS G v) (a1 a2 a3 q : Int) (hS : isS v q) (next : ∀ V, Fr S80 v V → MKs (inQ G v M q (v 51 q).toNat) V → Ex mX11_from d 55 [(2, 47), (0, a1), (0, a2), (0, a3), (0, q + -1), (3, 0)] [] X V mc ms Q) : ∀ (x : Int) (V : VV), (0 ≤ x ∧ x ≤ v 51 q) → Fr S80 v V → MKs (inQ G v M q x.toNat) V → Ex mX11_from d 101 [(2, 47), (0, a1), (0, a2), (0, a3), (0, q), (0, x)] [] X V mc ms Q := by
  refine loop2 (fun (x : Int) (V : VV) => (v 51 q - x).toNat) (fun (x : Int) (V : VV) => (0 ≤ x ∧ x ≤ v 51 q) → Fr S80 v V → MKs (inQ G v M q x.toNat) V → Ex mX11_from d 101 [(2, 47), (0, a1), (0, a2), (0, a3), (0, q), (0, x)] [] X V mc ms Q) (fun x V ih => ?_)
  intro hx hf hM
  have ht := isT_b hI.1 hS.1
  obtain ⟨-, -, n3, -⟩ := hI.2.1 q hS.1.1 hS.1.2.1
  have e51 : V 51 q = v 51 q := hf 51 q (by unfold S80; omega)
  have es : ∀ j, inQ G v M q (x + 1).toNat j ↔ (inQ G v M q x.toNat j ∨ (isS v q ∧ inQ G v M q x.toNat (8 * q + x) ∧ Use G v q x j)) := fun j => by
    rw [show (x + 1).toNat = x.toNat + 1 by omega]
    show (_ ∨ (_ ∧ inQ G v M q x.toNat (8 * q + (x.toNat : Int)) ∧ Use G v q (x.toNat : Int) j)) ↔ _
    rw [Int.toNat_of_nonneg hx.1]
  refine bX11_from_101 a1 a2 a3 q x hd hW (fun _ _ _ _ _ => ?_)
  rw [e51]
  refine ⟨⟨by omega, by omega⟩, fun g => ⟨⟨by omega, by omega⟩, ?_⟩, fun g => ⟨⟨by omega, by omega⟩, fun _ => ⟨by omega, by omega⟩, ⟨by omega, by omega⟩, fun g2 => ⟨⟨by omega, by omega⟩, ?_⟩, fun g2 => ?_⟩⟩
  · rw [show x = v 51 q by omega] at hM
    exact next V hf hM
  · refine ih (x + 1) V (by omega) ⟨by omega, by omega⟩ hf (hM.cg (fun j j0 j1 => ?_))
    rw [es]
    have := (hM (8 * q + x) (by omega) (by omega)).2
    exact ⟨Or.inl, fun z => z.elim id (fun y => absurd (this.mpr y.2.1) (fun w => w g2))⟩
  · refine ⟨_, c_marksUsed (G := G) (M := inQ G v M q x.toNat) hW (MS80 hI hf) ((isS80 hf q).mpr hS) (Or.inl ⟨hx.1, by rw [e51]; exact g⟩) hM, fun w15 hP => ⟨⟨by omega, by omega⟩, ?_⟩⟩
    have g3 := (hM (8 * q + x) (by omega) (by omega)).2.mp g2
    refine ih (x + 1) w15 (by omega) ⟨by omega, by omega⟩ (hf.via hP.1 (fun _ _ z => z) (fun _ _ z => z)) (hP.2.cg (fun j j0 j1 => ?_))
    rw [es, Use80 hf]
    exact ⟨fun z => z.imp id (fun y => ⟨hS, g3, y⟩), fun z => z.imp id (fun y => y.2.2)⟩
set_option maxRecDepth 100000 in
set_option maxHeartbeats 4000000 in
theorem l_from55 {X : XX} {v : VV} {Q : QQ} {d mc ms : Nat} {G : GT} {R : Int → Prop} (hW : SW X) (hd : 3 ≤ d) (hI : MS G v) (a1 a2 a3 : Int) (next : ∀ V, Fr S80 v V → MKs R V → Ex mX11_from d 157 [(2, 47), (0, a1), (0, a2), (0, a3), (0, 0), (3, 0)] [] X (upd2 V 47 57 0) mc ms Q) : ∀ (x : Int) (V : VV) (M : Int → Prop), (-1 ≤ x ∧ x < v 47 0) → Fr S80 v V → MKs M V → (∀ j, (if 0 < a3 then dnM G v (x + 1).toNat M j else M j) ↔ R j) → Ex mX11_from d 55 [(2, 47), (0, a1), (0, a2), (0, a3), (0, x), (3, 0)] [] X V mc ms Q := by
  refine loop3 (fun (x : Int) (_ : VV) (_ : Int → Prop) => (x + 1).toNat) (fun (x : Int) (V : VV) (M : Int → Prop) => (-1 ≤ x ∧ x < v 47 0) → Fr S80 v V → MKs M V → (∀ j, (if 0 < a3 then dnM G v (x + 1).toNat M j else M j) ↔ R j) → Ex mX11_from d 55 [(2, 47), (0, a1), (0, a2), (0, a3), (0, x), (3, 0)] [] X V mc ms Q) (fun x V M ih => ?_)
  intro hx hf hM hR
  have hb1 := hI.1.1
  have g : ∀ r j, ¬ r = 80 → V r j = v r j := hf
  refine bX11_from_55 a1 a2 a3 x hd hW (fun _ _ _ _ => ⟨fun g1 => ?_, fun g1 => ⟨fun g2 => ?_, fun g2 => ?_⟩⟩)
  · refine next V hf (hM.cg (fun j _ _ => ?_))
    rw [← hR]
    have e : dnM G v (x + 1).toNat M j ↔ M j := by rw [show (x + 1).toNat = 0 by omega]; exact Iff.rfl
    split
    · exact e.symm
    · exact Iff.rfl
  · refine next V hf (hM.cg (fun j _ _ => ?_))
    rw [← hR, if_neg (by omega)]
  · have hR2 : ∀ j, dnM G v x.toNat (inQ G v M x (v 51 x).toNat) j ↔ R j := fun j => by
      rw [← hR, if_pos g2, show (x + 1).toNat = x.toNat + 1 by omega]
      show _ ↔ dnM G v x.toNat (inQ G v M (x.toNat : Int) (v 51 (x.toNat : Int)).toNat) j
      rw [Int.toNat_of_nonneg g1]
    have skip : ¬ isS v x → Ex mX11_from d 55 [(2, 47), (0, a1), (0, a2), (0, a3), (0, x + -1), (3, 0)] [] X V mc ms Q := fun hn => by
      refine ih (x + -1) V M (by omega) ⟨by omega, by omega⟩ hf hM (fun j => ?_)
      rw [if_pos g2, show (x + -1 + 1).toNat = x.toNat by omega, ← hR2 j]
      exact dnM_cg _ (fun i => (inQ_no hn _ i).symm) j
    rw [g 50 x (by omega), g 48 x (by omega)]
    refine ⟨⟨by omega, by omega⟩, fun g3 => ⟨⟨by omega, by omega⟩, skip (fun z => by have := z.2; omega)⟩, fun g3 => ⟨⟨by omega, by omega⟩, fun g4 => ⟨⟨by omega, by omega⟩, skip (fun z => by have := z.2; omega)⟩, fun g4 => ⟨⟨by omega, by omega⟩, fun g5 => ?_, fun g5 => ⟨⟨by omega, by omega⟩, skip (fun z => z.1.2.2 g5)⟩⟩⟩⟩
    have hT : isT v x := ⟨g1, hx.2, g5⟩
    obtain ⟨-, m2, n3, -⟩ := hI.2.1 x g1 hx.2
    have hS : isS v x := ⟨hT, by omega⟩
    refine l_from101 (M := M) hW hd hI a1 a2 a3 x hS (fun V2 f2 M2 => ?_) 0 V ⟨Int.le_refl _, by omega⟩ hf hM
    refine ih (x + -1) V2 _ (by omega) ⟨by omega, by omega⟩ f2 M2 (fun j => ?_)
    rw [if_pos g2, show (x + -1 + 1).toNat = x.toNat by omega]
    exact hR2 j
set_option maxRecDepth 100000 in
set_option maxHeartbeats 4000000 in
theorem c_from {X : XX} {v : VV} {G : GT} (hW : SW X) (hI : MS G v) (a1 a2 a3 : Int) : CX mX11_from 3 [(2, 47), (0, a1), (0, a2), (0, a3)] X v (fun o v1 => Fr SFd v v1 ∧ (((isC v a1 a2 ∧ 0 ≤ a3 ∧ a3 ≤ 2) ∧ FLs (frP G v a1 a2 a3) 136 (v1 47 57) (v1 81) ∧ o = some (0, v1 47 57)) ∨ (¬ (isC v a1 a2 ∧ 0 ≤ a3 ∧ a3 ≤ 2) ∧ v1 = v ∧ o = some (0, -1)))) := by
  have hb1 := hI.1.1
  refine CX.of (by decide +kernel) rfl rfl rfl (bX11_from_0 a1 a2 a3 (Nat.le_refl _) hW (fun _ _ _ => ⟨_, c_isColumn hW (by omega) a1 a2, fun r2 w3 hP => ?_⟩))
  obtain ⟨rfl, hr⟩ := hP
  obtain rfl : r2 = bI (isC w3 a1 a2) := by simpa using hr
  refine ⟨fun g => ?_, fun g => ⟨fun g2 => ?_, fun g2 => ⟨fun g3 => ⟨_, c_clears hW, fun w7 hP => ?_⟩, fun g3 => ?_⟩⟩⟩
  · rw [bI_0] at g; exact ⟨rfl, Fr.rf, Or.inr ⟨fun z => g z.1, rfl, rfl⟩⟩
  · exact ⟨rfl, Fr.rf, Or.inr ⟨fun z => by omega, rfl, rfl⟩⟩
  rotate_left
  · exact ⟨rfl, Fr.rf, Or.inr ⟨fun z => by omega, rfl, rfl⟩⟩
  rw [bI_n0] at g
  have ht := isT_b hI.1 g.1
  have hf : Fr S80 w3 w7 := hP.2
  have hM0 : MKs (fun _ => False) w7 := fun j j0 j1 => ⟨Or.inl (hP.1 j j0 j1), ⟨fun z => z (hP.1 j j0 j1), fun z => z.elim⟩⟩
  obtain ⟨-, m2, n3, -⟩ := hI.2.1 a1 g.1.1 g.1.2.1
  have g1 := g.1.1
  have g1b := g.1.2.1
  -- behind the first step
  have k55 : ∀ V, Fr S80 w3 V → MKs (Dir G w3 a1 a2) V → Ex mX11_from 3 55 [(2, 47), (0, a1), (0, a2), (0, a3), (0, a1 - 1), (3, 0)] [] X V 0 0 (fun o X1 v1 => X1 = X ∧ (Fr SFd w3 v1 ∧ (((isC w3 a1 a2 ∧ 0 ≤ a3 ∧ a3 ≤ 2) ∧ FLs (frP G w3 a1 a2 a3) 136 (v1 47 57) (v1 81) ∧ o = some (0, v1 47 57)) ∨ (¬ (isC w3 a1 a2 ∧ 0 ≤ a3 ∧ a3 ≤ 2) ∧ v1 = w3 ∧ o = some (0, -1))))) := fun V fV mV => by
    refine l_from55 (R := frS G w3 a1 a2 a3) hW (Nat.le_refl _) hI a1 a2 a3 (fun V2 f2 M2 => ?_) (a1 - 1) V _ ⟨by omega, by omega⟩ fV mV (fun j => ?_)
    · refine l_from157 (v := w3) (G := G) (M := frS G w3 a1 a2 a3) hW (Nat.le_refl _) a1 a2 a3 (fun V3 f3 F3 => ⟨rfl, f3, Or.inl ⟨⟨g, g2, g3⟩, F3.1.fin, rfl⟩⟩) 0 _ ⟨by omega, by omega⟩ ((f2.mono (fun r j h z => h (Or.inl z))).up (Or.inr (Or.inr ⟨rfl, rfl⟩))) (fun j j0 j1 => by rw [upd2_n _ (by omega)]; exact M2 j j0 j1) (FDs.zero (upd2_s _ _ _ _))
    · unfold frS
      by_cases h : 0 < a3
      · rw [if_pos h, show (a1 - 1 + 1).toNat = a1.toNat by omega]
        exact ⟨fun z => Or.inr ⟨h, z⟩, fun z => z.elim (fun y => by omega) (fun y => y.2)⟩
      · rw [if_neg h]
        exact ⟨fun z => Or.inl ⟨by omega, z⟩, fun z => z.elim (fun y => y.2) (fun y => absurd y.1 h)⟩
  have k44 : isS w3 a1 → Ex mX11_from 3 44 [(2, 47), (0, a1), (0, a2), (0, a3), (3, 0), (3, 0)] [] X w7 0 0 (fun o X1 v1 => X1 = X ∧ (Fr SFd w3 v1 ∧ (((isC w3 a1 a2 ∧ 0 ≤ a3 ∧ a3 ≤ 2) ∧ FLs (frP G w3 a1 a2 a3) 136 (v1 47 57) (v1 81) ∧ o = some (0, v1 47 57)) ∨ (¬ (isC w3 a1 a2 ∧ 0 ≤ a3 ∧ a3 ≤ 2) ∧ v1 = w3 ∧ o = some (0, -1))))) := fun hS => by
    refine bX11_from_44 a1 a2 a3 (Nat.le_refl _) hW (fun _ _ _ => ⟨_, c_marksUsed (G := G) (M := fun _ => False) hW (MS80 hI hf) ((isS80 hf a1).mpr hS) (Or.inl ⟨g.2.1, by rw [hf 51 _ (by unfold S80; omega)]; exact g.2.2⟩) hM0, fun w11 hP2 => ⟨⟨by omega, by omega⟩, ?_⟩⟩)
    refine k55 w11 (hf.via hP2.1 (fun _ _ z => z) (fun _ _ z => z)) (hP2.2.cg (fun j _ _ => ?_))
    rw [Use80 hf]
    exact ⟨fun z => ⟨hS, z.elim (fun y => y.elim) id⟩, fun z => Or.inr z.2⟩
  have kno : ¬ isS w3 a1 → Ex mX11_from 3 55 [(2, 47), (0, a1), (0, a2), (0, a3), (0, a1 - 1), (3, 0)] [] X w7 0 0 (fun o X1 v1 => X1 = X ∧ (Fr SFd w3 v1 ∧ (((isC w3 a1 a2 ∧ 0 ≤ a3 ∧ a3 ≤ 2) ∧ FLs (frP G w3 a1 a2 a3) 136 (v1 47 57) (v1 81) ∧ o = some (0, v1 47 57)) ∨ (¬ (isC w3 a1 a2 ∧ 0 ≤ a3 ∧ a3 ≤ 2) ∧ v1 = w3 ∧ o = some (0, -1))))) := fun hn =>
    k55 w7 hf (hM0.cg (fun j _ _ => ⟨fun z => z.elim, fun z => hn z.1⟩))
  rw [hf 50 _ (by unfold S80; omega)]
  exact ⟨⟨by omega, by omega⟩, fun z => k44 ⟨g.1, Or.inl z⟩, fun z => ⟨⟨by omega, by omega⟩, fun z2 => ⟨⟨by omega, by omega⟩, kno (fun y => by have := y.2; omega)⟩, fun z2 => k44 ⟨g.1, Or.inr z2⟩⟩⟩
def rowsM (G : GT) (v : VV) (M : Int → Prop) (q : Int) : Prop := 0 < v 66 (8 * q + 7) ∧ ((∃ j, Use G v q 6 j ∧ M j) ∨ ∃ j, Use G v q 7 j ∧ M j)
def upQ (G : GT) (v : VV) (M : Int → Prop) (q : Int) : Nat → Int → Prop
  | 0, j => M j
  | k + 1, j => upQ G v M q k j ∨ (isS v q ∧ j = 8 * q + k ∧ (rowsM G v M q ∨ ∃ i, Use G v q k i ∧ upQ G v M q k i))
def upM (G : GT) (v : VV) : Nat → Int → (Int → Prop) → Int → Prop
  | 0, _, M, j => M j
  | m + 1, q, M, j => upM G v m (q + 1) (upQ G v M q (v 51 q).toNat) j
theorem upQ_no {G : GT} {v : VV} {M : Int → Prop} {q : Int} (h : ¬ isS v q) : ∀ (k : Nat) (j : Int), upQ G v M q k j ↔ M j
  | 0, j => Iff.rfl
  | k + 1, j => by unfold upQ; rw [upQ_no h k j]; exact ⟨fun z => z.elim id (fun y => absurd y.1 h), Or.inl⟩
theorem rowsM_cg {G : GT} {v : VV} {M M' : Int → Prop} {q : Int} (h : ∀ j, M j ↔ M' j) : rowsM G v M q ↔ rowsM G v M' q := by
  unfold rowsM; simp only [h]
theorem upQ_cg {G : GT} {v : VV} {M M' : Int → Prop} {q : Int} (h : ∀ j, M j ↔ M' j) : ∀ (k : Nat) (j : Int), upQ G v M q k j ↔ upQ G v M' q k j
  | 0, j => h j
  | k + 1, j => by
    unfold upQ
    rw [upQ_cg h k j, rowsM_cg h]
    have e : ∀ i, upQ G v M q k i ↔ upQ G v M' q k i := fun i => upQ_cg h k i
    simp only [e]
theorem upM_cg {G : GT} {v : VV} : ∀ (m : Nat) (q : Int) {M M' : Int → Prop} (_ : ∀ j, M j ↔ M' j) (j : Int), upM G v m q M j ↔ upM G v m q M' j
  | 0, _, _, _, h, j => h j
  | m + 1, q, _, _, h, j => upM_cg m (q + 1) (fun i => upQ_cg h _ i) j
/-- beyond the tables nothing is marked -/
theorem upM_end {G : GT} {v : VV} : ∀ (m : Nat) (q : Int) {M : Int → Prop} (_ : v 47 0 ≤ q) (j : Int), upM G v m q M j ↔ M j
  | 0, _, _, _, j => Iff.rfl
  | m + 1, q, M, h, j => (upM_end m (q + 1) (by omega) j).trans (upQ_no (fun z => by have := z.1.2.1; omega) _ j)
def tchS (G : GT) (v : VV) (t c j : Int) : Prop := upM G v (v 47 0 - (t + 1)).toNat (t + 1) (fun j => j = 8 * t + c) j
theorem Use_MK {G : GT} {v V : VV} {t f : Int} {M : Int → Prop} (hI : MS G v) (hS : isS v t) (hp : PF v t f) (hM : MKs M V) : (∃ j, Use G v t f j ∧ ¬ V 80 j = 0) ↔ ∃ j, Use G v t f j ∧ M j :=
  ⟨fun ⟨j, h1, h2⟩ => ⟨j, h1, (hM j (Use_bd hI hS hp h1).1 (by have := (Use_bd hI hS hp h1).2.2; omega)).2.mp h2⟩, fun ⟨j, h1, h2⟩ => ⟨j, h1, (hM j (Use_bd hI hS hp h1).1 (by have := (Use_bd hI hS hp h1).2.2; omega)).2.mpr h2⟩⟩
theorem uses_at {X : XX} {v V : VV} {G : GT} {t f : Int} {M : Int → Prop} (hW : SW X) (hI : MS G v) (hf : Fr S80 v V) (hS : isS v t) (hp : PF v t f) (hM : MKs M V) : CX mX11_usesMarked 2 [(2, 47), (0, t), (0, f)] X V (fun o v1 => v1 = V ∧ ∃ p : Prop, (p ↔ ∃ j, Use G v t f j ∧ M j) ∧ o = some (0, bI p)) := by
  have hp2 : PF V t f := by
    unfold PF at hp ⊢
    rw [hf 51 _ (by unfold S80; omega), hf 66 _ (by unfold S80; omega)]
    exact hp
  refine (c_usesMarked (G := G) hW (MS80 hI hf) ((isS80 hf t).mpr hS) hp2).mono (fun o v1 ⟨h1, p, h2, h3⟩ => ⟨h1, p, ?_, h3⟩)
  rw [h2, ← Use_MK hI hS hp hM]
  simp only [Use80 hf]
set_option maxRecDepth 100000 in
set_option maxHeartbeats 4000000 in
theorem l_tch97 {X : XX} {v : VV} {Q : QQ} {d mc ms : Nat} {G : GT} {M : Int → Prop} (hW : SW X) (hd : 3 ≤ d) (hI : MS G v) (a1 a2 q x4 : Int) (hS : isS v q) (hx4 : ¬ x4 = 0 ↔ rowsM G v M q) (next : ∀ V, Fr S80 v V → MKs (upQ G v M q (v 51 q).toNat) V → Ex mX11_touches d 20 [(2, 47), (0, a1), (0, a2), (0, q + 1), (3, 0), (3, 0)] [] X V mc ms Q) : ∀ (x : Int) (V : VV), (0 ≤ x ∧ x ≤ v 51 q) → Fr S80 v V → MKs (upQ G v M q x.toNat) V → Ex mX11_touches d 97 [(2, 47), (0, a1), (0, a2), (0, q), (0, x4), (0, x)] [] X V mc ms Q := by
  refine loop2 (fun (x : Int) (V : VV) => (v 51 q - x).toNat) (fun (x : Int) (V : VV) => (0 ≤ x ∧ x ≤ v 51 q) → Fr S80 v V → MKs (upQ G v M q x.toNat) V → Ex mX11_touches d 97 [(2, 47), (0, a1), (0, a2), (0, q), (0, x4), (0, x)] [] X V mc ms Q) (fun x V ih => ?_)
  intro hx hf hM
  have ht := isT_b hI.1 hS.1
  obtain ⟨-, -, n3, -⟩ := hI.2.1 q hS.1.1 hS.1.2.1
  have e51 : V 51 q = v 51 q := hf 51 q (by unfold S80; omega)
  have es : ∀ j, upQ G v M q (x + 1).toNat j ↔ (upQ G v M q x.toNat j ∨ (isS v q ∧ j = 8 * q + x ∧ (rowsM G v M q ∨ ∃ i, Use G v q x i ∧ upQ G v M q x.toNat i))) := fun j => by
    rw [show (x + 1).toNat = x.toNat + 1 by omega]
    show (_ ∨ (_ ∧ j = 8 * q + (x.toNat : Int) ∧ (_ ∨ ∃ i, Use G v q (x.toNat : Int) i ∧ _))) ↔ _
    rw [Int.toNat_of_nonneg hx.1]
  have hit : x < v 51 q → (rowsM G v M q ∨ ∃ i, Use G v q x i ∧ upQ G v M q x.toNat i) → ∀ w, w = V → Ex mX11_touches d 123 [(2, 47), (0, a1), (0, a2), (0, q), (0, x4), (0, x)] [] X w mc ms Q := fun hl hh w hw => by
    subst hw
    refine bX11_touches_123 a1 a2 q x4 x hd hW (fun _ _ _ _ _ => ⟨⟨by omega, by omega⟩, fun _ => ⟨by omega, by omega⟩, ⟨by omega, by omega⟩, ⟨by omega, by omega⟩, ?_⟩)
    refine ih (x + 1) _ (by omega) ⟨by omega, by omega⟩ (hf.up rfl) (fun j j0 j1 => ?_)
    rw [es]
    by_cases hj : j = 8 * q + x
    · subst hj
      rw [upd2_s]
      exact ⟨Or.inr rfl, ⟨fun _ => Or.inr ⟨hS, rfl, hh⟩, fun _ => by decide⟩⟩
    · rw [upd2_n _ (by omega)]
      exact ⟨(hM j j0 j1).1, (hM j j0 j1).2.trans ⟨Or.inl, fun z => z.elim id (fun y => absurd y.2.1 hj)⟩⟩
  refine bX11_touches_97 a1 a2 q x4 x hd hW (fun _ _ _ _ _ => ?_)
  rw [e51]
  refine ⟨⟨by omega, by omega⟩, fun g => ⟨⟨by omega, by omega⟩, ?_⟩, fun g => ⟨fun g2 => hit g (Or.inl (hx4.mp g2)) V rfl, fun g2 => ?_⟩⟩
  · rw [show x = v 51 q by omega] at hM
    exact next V hf hM
  · refine ⟨_, uses_at hW hI hf hS (Or.inl ⟨hx.1, g⟩) hM, fun r18 w19 hP => ?_⟩
    obtain ⟨rfl, p, hp, hr⟩ := hP
    obtain rfl : r18 = bI p := by simpa using hr
    refine ⟨fun g3 => ⟨⟨by omega, by omega⟩, ?_⟩, fun g3 => ?_⟩
    · rw [bI_0, hp] at g3
      refine ih (x + 1) w19 (by omega) ⟨by omega, by omega⟩ hf (hM.cg (fun j _ _ => ?_))
      rw [es]
      exact ⟨Or.inl, fun z => z.elim id (fun y => by rcases y.2.2 with w | w; exact absurd (hx4.mpr w) (fun u => u g2); exact absurd w g3)⟩
    · rw [bI_n0, hp] at g3
      exact hit g (Or.inr g3) w19 rfl
set_option maxRecDepth 100000 in
set_option maxHeartbeats 4000000 in
theorem l_tch20 {X : XX} {v : VV} {Q : QQ} {d mc ms : Nat} {G : GT} {R : Int → Prop} (hW : SW X) (hd : 3 ≤ d) (hI : MS G v) (a1 a2 : Int) (hQ : ∀ V, Fr S80 v V → MKs R V → Q none X V) : ∀ (x : Int) (V : VV) (M : Int → Prop), (0 ≤ x) → Fr S80 v V → MKs M V → (∀ j, upM G v (v 47 0 - x).toNat x M j ↔ R j) → Ex mX11_touches d 20 [(2, 47), (0, a1), (0, a2), (0, x), (3, 0), (3, 0)] [] X V mc ms Q := by
  refine loop3 (fun (x : Int) (_ : VV) (_ : Int → Prop) => (v 47 0 - x).toNat) (fun (x : Int) (V : VV) (M : Int → Prop) => (0 ≤ x) → Fr S80 v V → MKs M V → (∀ j, upM G v (v 47 0 - x).toNat x M j ↔ R j) → Ex mX11_touches d 20 [(2, 47), (0, a1), (0, a2), (0, x), (3, 0), (3, 0)] [] X V mc ms Q) (fun x V M ih => ?_)
  intro hx hf hM hR
  have hb1 := hI.1.1
  have g : ∀ r j, ¬ r = 80 → V r j = v r j := hf
  refine bX11_touches_20 a1 a2 x hd hW (fun _ _ _ => ?_)
  rw [g 47 0 (by omega), g 48 x (by omega), g 50 x (by omega)]
  refine ⟨fun g1 => ?_, fun g1 => ?_⟩
  · refine hQ V hf (hM.cg (fun j _ _ => ?_))
    rw [← hR, show (v 47 0 - x).toNat = 0 by omega]
    exact Iff.rfl
  · have hR2 : ∀ j, upM G v (v 47 0 - (x + 1)).toNat (x + 1) (upQ G v M x (v 51 x).toNat) j ↔ R j := fun j => by
      rw [← hR, show (v 47 0 - x).toNat = (v 47 0 - (x + 1)).toNat + 1 by omega]
      exact Iff.rfl
    have skip : ¬ isS v x → Ex mX11_touches d 20 [(2, 47), (0, a1), (0, a2), (0, x + 1), (3, 0), (3, 0)] [] X V mc ms Q := fun hn =>
      ih (x + 1) V M (by omega) (by omega) hf hM (fun j => by rw [← hR2]; exact upM_cg _ _ (fun i => (upQ_no hn _ i).symm) j)
    refine ⟨⟨by omega, by omega⟩, fun g3 => ⟨⟨by omega, by omega⟩, skip (fun z => z.1.2.2 g3)⟩, fun g3 => ⟨⟨by omega, by omega⟩, fun g4 => ⟨⟨by omega, by omega⟩, skip (fun z => by have := z.2; omega)⟩, fun g4 => ⟨⟨by omega, by omega⟩, fun g5 => ?_, fun g5 => ⟨⟨by omega, by omega⟩, skip (fun z => by have := z.2; omega)⟩⟩⟩⟩
    have hT : isT v x := ⟨hx, g1, g3⟩
    obtain ⟨-, m2, n3, -⟩ := hI.2.1 x hx g1
    have hS : isS v x := ⟨hT, by omega⟩
    have k97 : ∀ x4 w, w = V → (¬ x4 = 0 ↔ rowsM G v M x) → Ex mX11_touches d 97 [(2, 47), (0, a1), (0, a2), (0, x), (0, x4), (0, 0)] [] X w mc ms Q := fun x4 w hw h4 => by
      subst hw
      exact l_tch97 (M := M) hW hd hI a1 a2 x x4 hS h4 (fun V2 f2 M2 => ih (x + 1) V2 _ (by omega) (by omega) f2 M2 hR2) 0 w ⟨Int.le_refl _, by omega⟩ hf hM
    refine ⟨_, c_hasWhere hW x ⟨by omega, by omega⟩, fun r6 w7 hP => ?_⟩
    obtain ⟨rfl, hr⟩ := hP
    obtain rfl : r6 = bI (0 < w7 66 (8 * x + 7)) := by simpa using hr
    have e66 : w7 66 (8 * x + 7) = v 66 (8 * x + 7) := g 66 _ (by omega)
    rw [e66]
    refine ⟨fun g6 => ?_, fun g6 => ?_⟩
    · rw [bI_0] at g6
      exact k97 0 w7 rfl ⟨fun z => absurd rfl z, fun z => absurd z.1 g6⟩
    · rw [bI_n0] at g6
      refine ⟨_, uses_at hW hI hf hS (Or.inr ⟨Or.inl rfl, g6⟩) hM, fun r10 w11 hP => ?_⟩
      obtain ⟨rfl, p, hp, hr⟩ := hP
      obtain rfl : r10 = bI p := by simpa using hr
      refine ⟨fun g7 => ?_, fun g7 => ?_⟩
      · rw [bI_n0, hp] at g7
        exact k97 1 w11 rfl ⟨fun _ => ⟨g6, Or.inl g7⟩, fun _ => by decide⟩
      · rw [bI_0, hp] at g7
        refine ⟨_, uses_at hW hI hf hS (Or.inr ⟨Or.inr rfl, g6⟩) hM, fun r14 w15 hP => ?_⟩
        obtain ⟨rfl, p2, hp2, hr⟩ := hP
        obtain rfl : r14 = bI p2 := by simpa using hr
        refine ⟨fun g8 => ?_, fun g8 => ?_⟩
        · rw [bI_0, hp2] at g8
          exact k97 0 w15 rfl ⟨fun z => absurd rfl z, fun z => z.2.elim (fun y => absurd y g7) (fun y => absurd y g8)⟩
        · rw [bI_n0, hp2] at g8
          exact k97 1 w15 rfl ⟨fun _ => ⟨g6, Or.inr g8⟩, fun _ => by decide⟩
set_option maxRecDepth 100000 in
set_option maxHeartbeats 4000000 in
theorem c_touches {X : XX} {v : VV} {G : GT} (hW : SW X) (hI : MS G v) (a1 a2 : Int) (hC : isC v a1 a2) : CX mX11_touches 3 [(2, 47), (0, a1), (0, a2)] X v (fun o v1 => Fr S80 v v1 ∧ MKs (tchS G v a1 a2) v1) := by
  have ht := isT_b hI.1 hC.1
  obtain ⟨-, -, n3, -⟩ := hI.2.1 a1 hC.1.1 hC.1.2.1
  have h2 := hC.2
  refine CX.of (by decide +kernel) rfl rfl rfl (bX11_touches_0 a1 a2 (Nat.le_refl _) hW (fun _ _ => ⟨_, c_clears hW, fun w3 hP => ⟨⟨by omega, by omega⟩, fun _ => ⟨by omega, by omega⟩, ⟨by omega, by omega⟩, ⟨by omega, by omega⟩, ?_⟩⟩))
  have hf : Fr S80 v w3 := hP.2
  refine l_tch20 (R := tchS G v a1 a2) hW (Nat.le_refl _) hI a1 a2 (fun V h1 h2 => ⟨rfl, h1, h2⟩) (a1 + 1) _ (fun j => j = 8 * a1 + a2) (by omega) (hf.up rfl) (fun j j0 j1 => ?_) (fun j => Iff.rfl)
  by_cases hj : j = 8 * a1 + a2
  · subst hj; rw [upd2_s]; exact ⟨Or.inr rfl, ⟨fun _ => rfl, fun _ => by decide⟩⟩
  · rw [upd2_n _ (by omega), hP.1 j j0 j1]
    exact ⟨Or.inl rfl, ⟨fun z => absurd rfl z, fun z => absurd z hj⟩⟩
set_option maxRecDepth 100000 in
set_option maxHeartbeats 4000000 in
theorem l_touch24 {X : XX} {v : VV} {Q : QQ} {d mc ms : Nat} {M : Int → Prop} (hW : SW X) (hd : 4 ≤ d) (a1 a2 : Int) (h8 : 0 ≤ 8 * a1 + a2 ∧ 8 * a1 + a2 < 136) (h1 : 0 ≤ a1 ∧ a1 < 17) (hQ : ∀ V, Fr SFd v V → FDs (fun j => M j ∧ ¬ j = 8 * a1 + a2) V 136 → Q (some (0, V 47 57)) X V) : ∀ (x : Int) (V : VV), (0 ≤ x ∧ x ≤ 136) → Fr SFd v V → MKs M V → FDs (fun j => M j ∧ ¬ j = 8 * a1 + a2) V x → Ex mX11_touch d 24 [(2, 47), (0, a1), (0, a2), (0, x)] [] X V mc ms Q := by
  refine loop2 (fun (x : Int) (V : VV) => (136 - x).toNat) (fun (x : Int) (V : VV) => (0 ≤ x ∧ x ≤ 136) → Fr SFd v V → MKs M V → FDs (fun j => M j ∧ ¬ j = 8 * a1 + a2) V x → Ex mX11_touch d 24 [(2, 47), (0, a1), (0, a2), (0, x)] [] X V mc ms Q) (fun x V ih => ?_)
  intro hx hf hM hF
  have hF2 := hF.2
  refine bX11_touch_24 a1 a2 x hd hW (fun _ _ _ => ⟨fun g => ?_, fun g => ⟨⟨by omega, by omega⟩, fun g2 => ⟨⟨by omega, by omega⟩, ?_⟩, fun g2 => ⟨⟨by omega, by omega⟩, fun _ => ⟨by omega, by omega⟩, fun g3 => ⟨⟨by omega, by omega⟩, ?_⟩, fun g3 => ⟨_, c_finds hW (by omega) x, fun w11 hP => ⟨⟨by omega, by omega⟩, ?_⟩⟩⟩⟩⟩)
  · exact hQ V hf (by rw [show x = 136 by omega] at hF; exact hF)
  · exact ih (x + 1) V (by omega) ⟨by omega, by omega⟩ hf hM (hF.skip hx.1 (fun z => ((hM x hx.1 g).2.mpr z.1) g2))
  · exact ih (x + 1) V (by omega) ⟨by omega, by omega⟩ hf hM (hF.skip hx.1 (fun z => z.2 g3))
  · have e : w11 = upd2 (upd2 V 81 (V 47 57) x) 47 57 (V 47 57 + 1) := hP
    rw [e]
    exact ih (x + 1) _ (by omega) ⟨by omega, by omega⟩ ((hf.up (by unfold SFd; omega)).up (by unfold SFd; omega)) (fun j j0 j1 => by rw [upd2_n _ (by omega), upd2_n _ (by omega)]; exact hM j j0 j1) (hF.add hx.1 ⟨(hM x hx.1 g).2.mp g2, g3⟩)
set_option maxRecDepth 100000 in
set_option maxHeartbeats 4000000 in
theorem c_touch {X : XX} {v : VV} {G : GT} (hW : SW X) (hI : MS G v) (a1 a2 : Int) : CX mX11_touch 4 [(2, 47), (0, a1), (0, a2)] X v (fun o v1 => Fr SFd v v1 ∧ ((isC v a1 a2 ∧ FLs (fun j => tchS G v a1 a2 j ∧ ¬ j = 8 * a1 + a2) 136 (v1 47 57) (v1 81) ∧ o = some (0, v1 47 57)) ∨ (¬ isC v a1 a2 ∧ v1 = v ∧ o = some (0, -1)))) := by
  have hb1 := hI.1.1
  refine CX.of (by decide +kernel) rfl rfl rfl (bX11_touch_0 a1 a2 (Nat.le_refl _) hW (fun _ _ => ⟨_, c_isColumn hW (by omega) a1 a2, fun r2 w3 hP => ?_⟩))
  obtain ⟨rfl, hr⟩ := hP
  obtain rfl : r2 = bI (isC w3 a1 a2) := by simpa using hr
  refine ⟨fun g => ?_, fun g => ?_⟩
  · rw [bI_n0] at g
    have ht := isT_b hI.1 g.1
    obtain ⟨-, -, n3, -⟩ := hI.2.1 a1 g.1.1 g.1.2.1
    have h2 := g.2
    refine ⟨_, c_touches hW hI a1 a2 g, fun w7 hP => ?_⟩
    refine l_touch24 (v := w3) (M := tchS G w3 a1 a2) hW (Nat.le_refl _) a1 a2 ⟨by omega, by omega⟩ ⟨by omega, by omega⟩ (fun V h1 h2 => ⟨rfl, h1, Or.inl ⟨g, h2.1.fin, rfl⟩⟩) 0 _ ⟨by omega, by omega⟩ ((hP.1.mono (fun r j h z => h (Or.inl z))).up (Or.inr (Or.inr ⟨rfl, rfl⟩))) (fun j j0 j1 => by rw [upd2_n _ (by omega)]; exact hP.2 j j0 j1) (FDs.zero (upd2_s _ _ _ _))
  · rw [bI_0] at g; exact ⟨rfl, Fr.rf, Or.inr ⟨g, rfl, rfl⟩⟩
def bt (x k : Int) : Prop := x / 2 ^ k.toNat % 2 = 1
theorem bt_shr {x k z z' : Int} (hx : 0 ≤ x ∧ x < 64) (hk : 0 ≤ k ∧ k < 6) (h1 : Int32.ofInt x >>> (Int32.ofInt k &&& 31) = Int32.ofInt z) (h2 : Int32.ofInt z &&& Int32.ofInt 1 = Int32.ofInt z') (hz : i32 z') : z' = 1 ↔ bt x k := by
  have key : ∀ a : Nat, a < 64 → ∀ c : Nat, c < 6 → (Int32.ofInt (a : Int) >>> (Int32.ofInt (c : Int) &&& 31)) &&& Int32.ofInt 1 = Int32.ofInt ((a : Int) / 2 ^ c % 2) := by decide +kernel
  have e := key x.toNat (by omega) k.toNat (by omega)
  rw [Int.toNat_of_nonneg hx.1, Int.toNat_of_nonneg hk.1, h1, h2] at e
  have hm := Int.emod_two_eq (x / 2 ^ k.toNat)
  have e2 := (i32_eq hz ⟨by omega, by omega⟩).mp e
  unfold bt
  rw [e2]
/-- ask a is of a marked column -/
def akd (v : VV) (M : Int → Prop) (a : Int) : Prop := ∃ k, 0 ≤ k ∧ k < 6 ∧ bt (v 84 a) k ∧ M (8 * v 83 a + k)
set_option maxRecDepth 100000 in
set_option maxHeartbeats 4000000 in
theorem l_asked38 {X : XX} {v V : VV} {Q : QQ} {d mc ms : Nat} {M : Int → Prop} (hW : SW X) (hd : 4 ≤ d) (hb : MB v) (a1 a2 a : Int) (ha : 0 ≤ a ∧ a < v 47 59) (hK : AKr v) (hf : Fr SFd v V) (hM : MKs M V) (h57 : 0 ≤ V 47 57 ∧ V 47 57 ≤ a) (hy : akd v M a → ∀ w, w = upd2 (upd2 V 81 (V 47 57) a) 47 57 (V 47 57 + 1) → Ex mX11_asked d 24 [(2, 47), (0, a1), (0, a2), (0, a + 1), (3, 0), (3, 0)] [] X w mc ms Q) (hn : ¬ akd v M a → Ex mX11_asked d 24 [(2, 47), (0, a1), (0, a2), (0, a + 1), (3, 0), (3, 0)] [] X V mc ms Q) : ∀ (x : Int) (x4 : Int), (0 ≤ x ∧ x ≤ 6) → (¬ x4 = 0 ↔ ∃ k, 0 ≤ k ∧ k < x ∧ bt (v 84 a) k ∧ M (8 * v 83 a + k)) → Ex mX11_asked d 38 [(2, 47), (0, a1), (0, a2), (0, a), (0, x4), (0, x)] [] X V mc ms Q := by
  have hb4 := hb.2.2.2.1
  have hb1 := hb.1
  obtain ⟨q1, q2, q3⟩ := hK a ha.1 ha.2
  have e84 : V 84 a = v 84 a := hf 84 a (by unfold SFd; omega)
  have e83 : V 83 a = v 83 a := hf 83 a (by unfold SFd; omega)
  refine loop2 (fun (x : Int) (_ : Int) => (6 - x).toNat) (fun (x : Int) (x4 : Int) => (0 ≤ x ∧ x ≤ 6) → (¬ x4 = 0 ↔ ∃ k, 0 ≤ k ∧ k < x ∧ bt (v 84 a) k ∧ M (8 * v 83 a + k)) → Ex mX11_asked d 38 [(2, 47), (0, a1), (0, a2), (0, a), (0, x4), (0, x)] [] X V mc ms Q) (fun x x4 ih => ?_)
  intro hx h4
  have nx : ∀ x4', x < 6 → ((¬ x4' = 0) ↔ (¬ x4 = 0 ∨ (bt (v 84 a) x ∧ M (8 * v 83 a + x)))) → i32 (x + 1) ∧ Ex mX11_asked d 38 [(2, 47), (0, a1), (0, a2), (0, a), (0, x4'), (0, x + 1)] [] X V mc ms Q := fun x4' hl h => by
    refine ⟨⟨by omega, by omega⟩, ih (x + 1) x4' (by omega) ⟨by omega, by omega⟩ ?_⟩
    rw [h, h4]
    constructor
    · rintro (⟨k, k0, k1, k2⟩ | h)
      · exact ⟨k, k0, by omega, k2⟩
      · exact ⟨x, hx.1, by omega, h⟩
    · rintro ⟨k, k0, k1, k2⟩
      by_cases hk : k = x
      · subst hk; exact Or.inr k2
      · exact Or.inl ⟨k, k0, by omega, k2⟩
  refine bX11_asked_38 a1 a2 a x4 x hd hW (fun _ _ _ _ _ => ?_)
  rw [e84, e83]
  refine ⟨fun g => ⟨fun g2 => ⟨⟨by omega, by omega⟩, hn (fun ⟨k, k0, k1, k2⟩ => (h4.mpr ⟨k, k0, by omega, k2⟩) g2)⟩, fun g2 => ⟨_, c_finds hW (by omega) a, fun w11 hP => ⟨⟨by omega, by omega⟩, hy (by obtain ⟨k, k0, k1, k2⟩ := h4.mp g2; exact ⟨k, k0, by omega, k2⟩) w11 hP⟩⟩⟩, fun g => ⟨fun g2 => nx 1 g ⟨fun _ => Or.inl g2, fun _ => by decide⟩, fun g2 => ⟨⟨by omega, by omega⟩, fun z13 ez13 hz13 z14 ez14 hz14 => ?_⟩⟩⟩
  have hbt := bt_shr q2 ⟨hx.1, g⟩ ez13 ez14 hz14
  have hm := hM (8 * v 83 a + x) (by omega) (by omega)
  refine ⟨fun g3 => nx 0 g ⟨fun z => absurd rfl z, fun z => z.elim (fun y => absurd g2 y) (fun y => absurd (hbt.mpr y.1) g3)⟩, fun g3 => ⟨⟨by omega, by omega⟩, fun _ => ⟨by omega, by omega⟩, fun _ => ⟨by omega, by omega⟩, ⟨by omega, by omega⟩, fun g5 => nx 0 g ⟨fun z => absurd rfl z, fun z => z.elim (fun y => absurd g2 y) (fun y => absurd g5 (hm.2.mpr y.2))⟩, fun g5 => nx 1 g ⟨fun _ => Or.inr ⟨hbt.mp g3, hm.2.mp g5⟩, fun _ => by decide⟩⟩⟩
set_option maxRecDepth 100000 in
set_option maxHeartbeats 4000000 in
theorem l_asked24 {X : XX} {v : VV} {Q : QQ} {d mc ms : Nat} {M : Int → Prop} (hW : SW X) (hd : 4 ≤ d) (hb : MB v) (hK : AKr v) (a1 a2 : Int) (hQ : ∀ V, Fr SFd v V → FDs (akd v M) V (v 47 59) → Q (some (0, V 47 57)) X V) : ∀ (x : Int) (V : VV), (0 ≤ x ∧ x ≤ v 47 59) → Fr SFd v V → MKs M V → FDs (akd v M) V x → Ex mX11_asked d 24 [(2, 47), (0, a1), (0, a2), (0, x), (3, 0), (3, 0)] [] X V mc ms Q := by
  have hb4 := hb.2.2.2.1
  refine loop2 (fun (x : Int) (V : VV) => (v 47 59 - x).toNat) (fun (x : Int) (V : VV) => (0 ≤ x ∧ x ≤ v 47 59) → Fr SFd v V → MKs M V → FDs (akd v M) V x → Ex mX11_asked d 24 [(2, 47), (0, a1), (0, a2), (0, x), (3, 0), (3, 0)] [] X V mc ms Q) (fun x V ih => ?_)
  intro hx hf hM hF
  have e59 : V 47 59 = v 47 59 := hf 47 59 (by unfold SFd; omega)
  refine bX11_asked_24 a1 a2 x hd hW (fun _ _ _ => ?_)
  rw [e59]
  refine ⟨fun g => hQ V hf (by rw [show x = v 47 59 by omega] at hF; exact hF), fun g => ?_⟩
  refine l_asked38 (M := M) hW hd hb a1 a2 x ⟨hx.1, g⟩ hK hf hM hF.2 (fun hh w hw => ?_) (fun hh => ?_) 0 0 ⟨by omega, by omega⟩ ⟨fun z => absurd rfl z, fun ⟨k, k0, k1, _⟩ => by omega⟩
  · rw [hw]
    exact ih (x + 1) _ (by omega) ⟨by omega, by omega⟩ ((hf.up (by unfold SFd; omega)).up (by unfold SFd; omega)) (fun j j0 j1 => by rw [upd2_n _ (by omega), upd2_n _ (by omega)]; exact hM j j0 j1) (hF.add hx.1 hh)
  · exact ih (x + 1) V (by omega) ⟨by omega, by omega⟩ hf hM (hF.skip hx.1 hh)
set_option maxRecDepth 100000 in
set_option maxHeartbeats 4000000 in
theorem c_asked {X : XX} {v : VV} {G : GT} (hW : SW X) (hI : MS G v) (hK : AKr v) (a1 a2 : Int) : CX mX11_asked 4 [(2, 47), (0, a1), (0, a2)] X v (fun o v1 => Fr SFd v v1 ∧ ((isC v a1 a2 ∧ FLs (akd v (tchS G v a1 a2)) (v 47 59).toNat (v1 47 57) (v1 81) ∧ o = some (0, v1 47 57)) ∨ (¬ isC v a1 a2 ∧ v1 = v ∧ o = some (0, -1)))) := by
  have hb1 := hI.1.1
  have hb4 := hI.1.2.2.2.1
  refine CX.of (by decide +kernel) rfl rfl rfl (bX11_asked_0 a1 a2 (Nat.le_refl _) hW (fun _ _ => ⟨_, c_isColumn hW (by omega) a1 a2, fun r2 w3 hP => ?_⟩))
  obtain ⟨rfl, hr⟩ := hP
  obtain rfl : r2 = bI (isC w3 a1 a2) := by simpa using hr
  refine ⟨fun g => ?_, fun g => ?_⟩
  · rw [bI_n0] at g
    refine ⟨_, c_touches hW hI a1 a2 g, fun w7 hP => ?_⟩
    refine l_asked24 (v := w3) (M := tchS G w3 a1 a2) hW (Nat.le_refl _) hI.1 hK a1 a2 (fun V h1 h2 => ⟨rfl, h1, Or.inl ⟨g, h2.1.fin, rfl⟩⟩) 0 _ ⟨by omega, by omega⟩ ((hP.1.mono (fun r j h z => h (Or.inl z))).up (Or.inr (Or.inr ⟨rfl, rfl⟩))) (fun j j0 j1 => by rw [upd2_n _ (by omega)]; exact hP.2 j j0 j1) (FDs.zero (upd2_s _ _ _ _))
  · rw [bI_0] at g; exact ⟨rfl, Fr.rf, Or.inr ⟨g, rfl, rfl⟩⟩
