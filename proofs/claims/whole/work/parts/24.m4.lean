/-! ===== the reference: broken, late, unused, drop, ask ===== -/
def clr (v V : VV) (x : Int) : Prop := (∀ j, 0 ≤ j → j < x → V 80 j = 0) ∧ ∀ r j, ¬ r = 80 → V r j = v r j
set_option maxRecDepth 100000 in
set_option maxHeartbeats 4000000 in
theorem l_clears {X : XX} {v : VV} {Q : QQ} {d mc ms : Nat} (hW : SW X) (hd : 0 ≤ d) (hQ : ∀ V, clr v V 136 → Q none X V) : ∀ (x1 : Int) (V : VV), (0 ≤ x1 ∧ x1 ≤ 136) → clr v V x1 → Ex mX11_clears d 2 [(2, 47), (0, x1)] [] X V mc ms Q := by
  refine loop2 (fun (x1 : Int) (V : VV) => (136 - x1).toNat) (fun (x1 : Int) (V : VV) => (0 ≤ x1 ∧ x1 ≤ 136) → clr v V x1 → Ex mX11_clears d 2 [(2, 47), (0, x1)] [] X V mc ms Q) (fun x1 V ih => ?_)
  intro hk hA
  refine bX11_clears_2 x1 hd hW ?_
  intro g1
  have g1a := g1.1
  have g1b := g1.2
  refine ⟨fun g2 => ?_, fun g3 => ?_⟩
  · exact hQ V (by rw [show x1 = 136 by omega] at hA; exact hA)
  · refine ⟨⟨by omega, by omega⟩, ?_⟩
    refine ⟨⟨by omega, by omega⟩, ?_⟩
    refine ih _ _ (by omega) ⟨by omega, by omega⟩ ⟨fun j h0 h1 => ?_, fun r j h => by rw [upd2_n _ (by omega)]; exact hA.2 r j h⟩
    by_cases hj : j = x1
    · subst hj; exact upd2_s _ _ _ _
    · rw [upd2_n _ (by omega)]; exact hA.1 j h0 (by omega)
set_option maxRecDepth 100000 in
set_option maxHeartbeats 4000000 in
theorem c_clears {X : XX} {v : VV} (hW : SW X) : CX mX11_clears 0 [(2, 47)] X v (fun o v1 => clr v v1 136) := by
  refine CX.of (by decide +kernel) rfl rfl rfl (bX11_clears_0  (Nat.le_refl _) hW ?_)
  exact l_clears hW (Nat.le_refl _) (fun V hV => ⟨rfl, hV⟩) 0 v ⟨by omega, by omega⟩ ⟨fun j h0 h1 => by omega, fun _ _ _ => rfl⟩
/-- a promise of t is broken, by the ages themselves -/
def brk (v : VV) (t : Int) : Prop := ¬ v 57 t = -1 ∧ ((ag v t).2 = -1 ∨ (ag v t).2 < v 47 64 - v 57 t)
theorem isBr_ag {v V : VV} (hA : AG v V (v 47 0)) {t : Int} (h0 : 0 ≤ t) (h1 : t < v 47 0) : isBr V t ↔ brk v t := by
  unfold isBr brk
  rw [hA.2 57 t (by omega), hA.2 47 64 (by omega), (hA.1 t h0 h1).2]
theorem isBr_cg {V W : VV} {t : Int} (h1 : W 57 t = V 57 t) (h2 : W 79 t = V 79 t) (h3 : W 47 64 = V 47 64) : isBr W t ↔ isBr V t := by
  unfold isBr
  rw [h1, h2, h3]
/-- behind ages and some finds -/
def BKs (v V : VV) (x : Int) : Prop := (∀ t, 0 ≤ t → t < v 47 0 → V 78 t = (ag v t).1 ∧ V 79 t = (ag v t).2) ∧ (∀ r j, ¬ (r = 78 ∨ r = 79 ∨ r = 81 ∨ (r = 47 ∧ j = 57)) → V r j = v r j) ∧ FLx (fun t => ¬ v 48 t = 0 ∧ brk v t) x (V 47 57) (V 81) ∧ 0 ≤ V 47 57 ∧ V 47 57 ≤ x
set_option maxRecDepth 100000 in
set_option maxHeartbeats 4000000 in
theorem l_broken {X : XX} {v : VV} {Q : QQ} {d mc ms : Nat} (hW : SW X) (hb : MB v) (hM : MT v) (hd : 2 ≤ d) (hQ : ∀ V, BKs v V (v 47 0) → Q (some (0, V 47 57)) X V) : ∀ (x1 : Int) (V : VV), (0 ≤ x1 ∧ x1 ≤ v 47 0) → BKs v V x1 → Ex mX11_broken d 11 [(2, 47), (0, x1)] [] X V mc ms Q := by
  refine loop2 (fun (x1 : Int) (V : VV) => (v 47 0 - x1).toNat) (fun (x1 : Int) (V : VV) => (0 ≤ x1 ∧ x1 ≤ v 47 0) → BKs v V x1 → Ex mX11_broken d 11 [(2, 47), (0, x1)] [] X V mc ms Q) (fun x1 V ih => ?_)
  intro hk hA
  have hb1 := hb.1
  have e0 : V 47 0 = v 47 0 := hA.2.1 47 0 (by omega)
  have h3 := hA.2.2.2
  have hbV : MB V := by
    have hb2 := hb
    unfold MB at hb2 ⊢
    rw [e0, hA.2.1 47 22 (by omega), hA.2.1 47 59 (by omega), hA.2.1 47 64 (by omega)]
    omega
  refine bX11_broken_11 x1 hd hW (fun _ => ⟨fun g => ?_, fun g => ?_⟩)
  · rw [e0] at g; refine hQ V ?_; rw [show x1 = v 47 0 by omega] at hA; exact hA
  · rw [e0] at g
    have h17 : 0 ≤ x1 ∧ x1 < 17 := ⟨hk.1, by omega⟩
    have e48 : V 48 x1 = v 48 x1 := hA.2.1 48 x1 (by omega)
    have hbr : isBr V x1 ↔ brk v x1 := by unfold isBr brk; rw [hA.2.1 57 _ (by omega), hA.2.1 47 64 (by omega), (hA.1 x1 hk.1 g).2]
    refine ⟨h17, fun g2 => ⟨⟨by omega, by omega⟩, ?_⟩, fun g2 => ?_⟩
    · rw [e48] at g2; exact ih _ _ (by omega) ⟨by omega, by omega⟩ ⟨hA.1, hA.2.1, hA.2.2.1.skip hk.1 (fun q => q.1 g2), h3.1, by omega⟩
    · rw [e48] at g2
      refine ⟨_, c_isBroken hW (v := V) hbV x1 h17 (by rw [hA.2.1 57 _ (by omega)]; exact (hM x1 hk.1 g).2.2.2.2.2.2.2.2.1), fun r6 w7 hP => ?_⟩
      obtain ⟨rfl, hr⟩ := hP
      obtain rfl : r6 = bI (isBr w7 x1) := by simpa using hr
      refine ⟨fun g3 => ⟨⟨by omega, by omega⟩, ?_⟩, fun g3 => ?_⟩
      · rw [bI_0, hbr] at g3; exact ih _ _ (by omega) ⟨by omega, by omega⟩ ⟨hA.1, hA.2.1, hA.2.2.1.skip hk.1 (fun q => g3 q.2), h3.1, by omega⟩
      · rw [bI_n0, hbr] at g3
        refine ⟨_, c_finds hW (by omega) x1, fun w11 hP => ⟨⟨by omega, by omega⟩, ?_⟩⟩
        obtain rfl := hP
        refine ih _ _ (by omega) ⟨by omega, by omega⟩ ⟨fun t h0 h1 => ?_, fun r j h => ?_, ?_, ?_⟩
        · rw [upd2_n _ (by omega), upd2_n _ (by omega), upd2_n _ (by omega), upd2_n _ (by omega)]; exact hA.1 t h0 h1
        · rw [upd2_n _ (by omega), upd2_n _ (by omega)]; exact hA.2.1 r j h
        · rw [upd2_s]
          refine hA.2.2.1.add hk.1 ⟨g2, g3⟩ ?_ (fun i hi => ?_)
          · rw [upd2_n _ (by omega), upd2_s]
          · rw [upd2_n _ (by omega), upd2_n _ (by omega)]
        · rw [upd2_s]; omega
set_option maxRecDepth 100000 in
set_option maxHeartbeats 4000000 in
theorem c_broken {X : XX} {v : VV} (hW : SW X) (hb : MB v) (hM : MT v) : CX mX11_broken 2 [(2, 47)] X v (fun o v1 => BKs v v1 (v 47 0) ∧ o = some (0, v1 47 57)) := by
  have hb1 := hb.1
  refine CX.of (by decide +kernel) rfl rfl rfl (bX11_broken_0  (Nat.le_refl _) hW ?_)
  refine ⟨_, c_ages hW hb hM, fun w3 hP => ?_⟩
  refine l_broken hW hb hM (Nat.le_refl _) (fun V hV => ⟨rfl, hV, rfl⟩) 0 _ ⟨by omega, by omega⟩ ⟨fun t h0 h1 => ?_, fun r j h => ?_, ?_, ?_⟩
  · rw [upd2_n _ (by omega), upd2_n _ (by omega)]; exact hP.1 t h0 h1
  · rw [upd2_n _ (by omega)]; exact hP.2 r j (by omega)
  · rw [upd2_s]; exact FLx.zero _ _
  · rw [upd2_s]; omega
/-- the first of a table's behind that is late -/
def isL (v : VV) (lim b : Int) : Prop := v 79 b = -1 ∨ v 79 b < lim
noncomputable def nbL (v : VV) (lim q : Int) : Int := if 0 < v 54 q ∧ bI (isL v lim (v 55 (3 * q))) = 1 then v 55 (3 * q) else if 1 < v 54 q ∧ bI (isL v lim (v 55 (3 * q + 1))) = 1 then v 55 (3 * q + 1) else if 2 < v 54 q ∧ bI (isL v lim (v 55 (3 * q + 2))) = 1 then v 55 (3 * q + 2) else -1
noncomputable def ltF (v : VV) (lim : Int) : Nat → Int → Int
  | 0, q => q
  | f + 1, q => if nbL v lim q = -1 then q else ltF v lim f (nbL v lim q)
theorem nbL_hit {v : VV} {lim q k : Int} (h54 : v 54 q ≤ 3) (h0 : 0 ≤ k) (h1 : k < v 54 q) (h2 : isL v lim (v 55 (3 * q + k))) (h3 : ∀ i, 0 ≤ i → i < k → ¬ isL v lim (v 55 (3 * q + i))) : nbL v lim q = v 55 (3 * q + k) := by
  unfold nbL
  rcases (show k = 0 ∨ k = 1 ∨ k = 2 by omega) with rfl | rfl | rfl
  · rw [Int.add_zero] at h2 ⊢
    rw [if_pos ⟨h1, bI_t h2⟩]
  · have a0 := h3 0 (by omega) (by omega)
    rw [Int.add_zero] at a0
    rw [if_neg (fun z => a0 (bI_1.mp z.2)), if_pos ⟨h1, bI_t h2⟩]
  · have a0 := h3 0 (by omega) (by omega)
    have a1 := h3 1 (by omega) (by omega)
    rw [Int.add_zero] at a0
    rw [if_neg (fun z => a0 (bI_1.mp z.2)), if_neg (fun z => a1 (bI_1.mp z.2)), if_pos ⟨h1, bI_t h2⟩]
theorem nbL_miss {v : VV} {lim q : Int} (h3 : ∀ i, 0 ≤ i → i < v 54 q → ¬ isL v lim (v 55 (3 * q + i))) : nbL v lim q = -1 := by
  unfold nbL
  rw [if_neg (fun z => by have := h3 0 (by omega) z.1; rw [Int.add_zero] at this; exact this (bI_1.mp z.2)), if_neg (fun z => h3 1 (by omega) z.1 (bI_1.mp z.2)), if_neg (fun z => h3 2 (by omega) z.1 (bI_1.mp z.2))]
set_option maxRecDepth 100000 in
set_option maxHeartbeats 4000000 in
theorem l_late37 {X : XX} {v : VV} {Q : QQ} {d mc ms : Nat} (hW : SW X) (hb : MB v) (hM : MT v) (a1 x2 : Int) (ha : 0 ≤ a1 ∧ a1 < v 47 0) (hx : 0 ≤ x2 ∧ x2 < v 47 0) (hd : 2 ≤ d) (hno : nbL v (v 47 64 - v 57 a1) x2 = -1 → Ex mX11_late d 28 [(2, 47), (0, a1), (0, x2), (0, 0), (3, 0), (3, 0)] [] X v mc ms Q) (hyes : ∀ b, nbL v (v 47 64 - v 57 a1) x2 = b → 0 ≤ b → b < x2 → Ex mX11_late d 28 [(2, 47), (0, a1), (0, b), (0, 1), (3, 0), (3, 0)] [] X v mc ms Q) : ∀ (x4 : Int), (0 ≤ x4 ∧ x4 ≤ v 54 x2) → (∀ i, 0 ≤ i → i < x4 → ¬ isL v (v 47 64 - v 57 a1) (v 55 (3 * x2 + i))) → Ex mX11_late d 37 [(2, 47), (0, a1), (0, x2), (0, 0), (0, x4), (3, 0)] [] X v mc ms Q := by
  refine loop1 (fun (x4 : Int) => (v 54 x2 - x4).toNat) (fun (x4 : Int) => (0 ≤ x4 ∧ x4 ≤ v 54 x2) → (∀ i, 0 ≤ i → i < x4 → ¬ isL v (v 47 64 - v 57 a1) (v 55 (3 * x2 + i))) → Ex mX11_late d 37 [(2, 47), (0, a1), (0, x2), (0, 0), (0, x4), (3, 0)] [] X v mc ms Q) (fun x4 ih => ?_)
  intro hk hp
  have hb1 := hb.1
  have hb5 := hb.2.2.2.2
  obtain ⟨-, -, -, m4, m5, -⟩ := hM x2 hx.1 hx.2
  obtain ⟨-, -, -, -, -, -, -, -, n9, -⟩ := hM a1 ha.1 ha.2
  have h17 : 0 ≤ x2 ∧ x2 < 17 := ⟨hx.1, by omega⟩
  have hit : x4 < v 54 x2 → isL v (v 47 64 - v 57 a1) (v 55 (3 * x2 + x4)) → i32 (x4 + 1) ∧ Ex mX11_late d 37 [(2, 47), (0, a1), (0, v 55 (3 * x2 + x4)), (0, 1), (0, x4 + 1), (3, 0)] [] X v mc ms Q := by
    intro g gl
    obtain ⟨q0, q1, -⟩ := m5 x4 hk.1 g
    have hn := nbL_hit (v := v) (lim := v 47 64 - v 57 a1) (q := x2) (k := x4) (by omega) hk.1 g gl hp
    have h28 := hyes _ hn q0 q1
    refine ⟨⟨by omega, by omega⟩, bX11_late_37 a1 _ 1 (x4 + 1) hd hW (fun _ _ _ _ => ⟨⟨q0, by omega⟩, fun _ => h28, fun _ => ⟨fun _ => h28, fun g9 => absurd g9 (by decide)⟩⟩)⟩
  refine bX11_late_37 a1 x2 0 x4 hd hW (fun _ _ _ _ => ⟨h17, fun g => ?_, fun g => ⟨fun g9 => absurd rfl g9, fun _ => ?_⟩⟩)
  · exact hno (nbL_miss (fun i i0 i1 => hp i i0 (by omega)))
  · obtain ⟨q0, q1, -⟩ := m5 x4 hk.1 g
    refine ⟨⟨by omega, by omega⟩, fun _ => ⟨by omega, by omega⟩, ⟨by omega, by omega⟩, ⟨q0, by omega⟩, fun g2 => hit g (Or.inl g2), fun g2 => ⟨⟨q0, by omega⟩, ⟨ha.1, by omega⟩, fun _ _ => ⟨by omega, by omega⟩, fun g3 => hit g (Or.inr g3), fun g3 => ⟨⟨by omega, by omega⟩, ?_⟩⟩⟩
    refine ih _ (by omega) ⟨by omega, by omega⟩ (fun i i0 i1 hh => ?_)
    by_cases hi : i = x4
    · subst hi; unfold isL at hh; omega
    · exact hp i i0 (by omega) hh
set_option maxRecDepth 100000 in
set_option maxHeartbeats 4000000 in
theorem l_late28 {X : XX} {v : VV} {Q : QQ} {d mc ms : Nat} (hW : SW X) (hb : MB v) (hM : MT v) (a1 : Int) (ha : 0 ≤ a1 ∧ a1 < v 47 0) (hd : 2 ≤ d) : ∀ (f : Nat) (x2 : Int), (0 ≤ x2 ∧ x2 < v 47 0) → x2.toNat < f → Q (some (0, ltF v (v 47 64 - v 57 a1) f x2)) X v → Ex mX11_late d 28 [(2, 47), (0, a1), (0, x2), (0, 1), (3, 0), (3, 0)] [] X v mc ms Q := by
  intro f
  induction f with
  | zero => intro x2 _ h; exact absurd h (Nat.not_lt_zero _)
  | succ f ih =>
    intro x2 hx hf hQ
    have hb1 := hb.1
    unfold ltF at hQ
    obtain ⟨-, -, -, m4, -, -⟩ := hM x2 hx.1 hx.2
    refine bX11_late_28 a1 x2 1 hd hW (fun _ _ _ => ⟨fun g => absurd g (by decide), fun _ => ?_⟩)
    refine l_late37 hW hb hM a1 x2 ha hx hd (fun hn => ?_) (fun b hn b0 b1 => ?_) 0 ⟨by omega, by omega⟩ (fun i i0 i1 => by omega)
    · rw [if_pos hn] at hQ; exact bX11_late_28 a1 x2 0 hd hW (fun _ _ _ => ⟨fun _ => hQ, fun g => absurd rfl g⟩)
    · rw [if_neg (by omega), hn] at hQ; exact ih b ⟨b0, by omega⟩ (by omega) hQ
set_option maxRecDepth 100000 in
set_option maxHeartbeats 4000000 in
theorem c_late {X : XX} {v : VV} (hW : SW X) (hb : MB v) (hM : MT v) (a1 : Int) : CX mX11_late 2 [(2, 47), (0, a1)] X v (fun o v1 => Fr S78 v v1 ∧ ((isT v a1 ∧ brk v a1 ∧ AG v v1 (v 47 0) ∧ o = some (0, ltF v1 (v 47 64 - v 57 a1) 17 a1)) ∨ (¬ (isT v a1 ∧ brk v a1) ∧ o = some (0, -1)))) := by
  have hb1 := hb.1
  refine CX.of (by decide +kernel) rfl rfl rfl (bX11_late_0 a1 (Nat.le_refl _) hW ?_)
  intro _
  refine ⟨_, c_isTable hW (by omega) a1, fun r2 w3 hP => ?_⟩
  obtain ⟨rfl, hr⟩ := hP
  obtain rfl : r2 = bI (isT w3 a1) := by simpa using hr
  refine ⟨fun g => ?_, fun g => ?_⟩
  · rw [bI_n0] at g
    refine ⟨_, c_ages hW hb hM, fun w7 hP => ?_⟩
    have hbV : MB w7 := by
      have hb2 := hb
      unfold MB at hb2 ⊢
      rw [hP.2 47 0 (by omega), hP.2 47 22 (by omega), hP.2 47 57 (by omega), hP.2 47 59 (by omega), hP.2 47 64 (by omega)]
      exact hb2
    have hTT := g.2.1
    have hbr := isBr_ag hP g.1 g.2.1
    refine ⟨_, c_isBroken hW hbV a1 ⟨g.1, by omega⟩ (by rw [hP.2 57 _ (by omega)]; exact (hM a1 g.1 g.2.1).2.2.2.2.2.2.2.2.1), fun r10 w11 hP2 => ?_⟩
    obtain ⟨rfl, hr⟩ := hP2
    obtain rfl : r10 = bI (isBr w11 a1) := by simpa using hr
    refine ⟨fun g2 => ?_, fun g2 => ?_⟩
    · rw [bI_n0, hbr] at g2
      refine l_late28 hW hbV (hM.keep hP.2) a1 ⟨g.1, by rw [hP.2 47 0 (by omega)]; exact g.2.1⟩ (Nat.le_refl _) 17 a1 ⟨g.1, by rw [hP.2 47 0 (by omega)]; exact g.2.1⟩ (by omega) ⟨rfl, hP.2, Or.inl ⟨g, g2, hP, ?_⟩⟩
      rw [hP.2 47 64 (by omega), hP.2 57 _ (by omega)]
    · rw [bI_0, hbr] at g2; exact ⟨rfl, hP.2, Or.inr ⟨fun q => g2 q.2, rfl⟩⟩
  · rw [bI_0] at g; exact ⟨rfl, Fr.rf, Or.inr ⟨fun q => g q.1, rfl⟩⟩
