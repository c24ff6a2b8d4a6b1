/-! ===== the class: its parser over its tokens ===== -/
def nm32 (b : Int → Int) (n i : Int) : Int := cdm 32 (fun j => b (tS b n i + j)) (if tL b n i ≤ 8 then tL b n i else 8).toNat
/-- the token rows -/
def TOK (b : Int → Int) (n N : Int) (v : VV) : Prop := TX b n ∧ (0 ≤ N ∧ N ≤ 400 ∧ tK b n N = 260 ∧ ∀ i, 0 ≤ i → i < N → ¬ tK b n i = 260) ∧ (v 6 1 = N + 1 ∧ v 8 1 = N + 1 ∧ v 10 1 = N + 1) ∧ (∀ i, 0 ≤ i → i ≤ N → v 7 i = tK b n i ∧ v 9 i = tS b n i ∧ v 11 i = tL b n i) ∧ (∀ i, 0 ≤ i → i < N → 97 ≤ b (tS b n i) → b (tS b n i) ≤ 122 → v 12 i = nm32 b n i) ∧ v 13 1 = n ∧ ∀ i, 0 ≤ i → i < n → v 14 i = b i
def TOs (r j : Int) : Prop := (r = 6 ∧ j = 1) ∨ (r = 8 ∧ j = 1) ∨ (r = 10 ∧ j = 1) ∨ r = 7 ∨ r = 9 ∨ r = 11 ∨ r = 12 ∨ (r = 13 ∧ j = 1) ∨ r = 14
theorem TOK.fr {S : Int → Int → Prop} {b : Int → Int} {n N : Int} {v V : VV} (h : TOK b n N v) (hf : Fr S v V) (hs : ∀ r j, TOs r j → ¬ S r j) : TOK b n N V := by
  have g : ∀ r j, TOs r j → V r j = v r j := fun r j q => hf r j (hs r j q)
  obtain ⟨h1, h2, ⟨h3, h4, h5⟩, h6, h7, h8, h9⟩ := h
  refine ⟨h1, h2, ⟨(g 6 1 (by unfold TOs; omega)).trans h3, (g 8 1 (by unfold TOs; omega)).trans h4, (g 10 1 (by unfold TOs; omega)).trans h5⟩, fun i i0 i1 => ?_, fun i i0 i1 z1 z2 => (g 12 i (by unfold TOs; omega)).trans (h7 i i0 i1 z1 z2), (g 13 1 (by unfold TOs; omega)).trans h8, fun i i0 i1 => (g 14 i (by unfold TOs; omega)).trans (h9 i i0 i1)⟩
  rw [g 7 i (by unfold TOs; omega), g 9 i (by unfold TOs; omega), g 11 i (by unfold TOs; omega)]
  exact h6 i i0 i1
theorem TOK.k {b : Int → Int} {n N : Int} {v : VV} (h : TOK b n N v) {a : Int} (h0 : 0 ≤ a) (h1 : a ≤ N) : rGet v 6 7 a = tK b n a ∧ rGet v 8 9 a = tS b n a ∧ rGet v 10 11 a = tL b n a := by
  obtain ⟨-, -, ⟨e1, e2, e3⟩, h6, -⟩ := h
  obtain ⟨k1, k2, k3⟩ := h6 a h0 h1
  exact ⟨by rw [rGet_in (by omega)]; exact k1, by rw [rGet_in (by omega)]; exact k2, by rw [rGet_in (by omega)]; exact k3⟩
/-- the kind of token a, read -/
theorem k_kind {X : XX} {v : VV} {b : Int → Int} {n N a : Int} (hW : SW X) (h : TOK b n N v) (h0 : 0 ≤ a) (h1 : a ≤ N) : CX mX6_get 0 [(2, 6), (0, a)] X v (fun o1 v1 => v1 = v ∧ o1 = some (0, tK b n a)) :=
  (k_get hW (rowS6 hW) (by have := h.2.2.1.1; have := h.2.1; omega) a).mono (fun o v1 q => ⟨q.1, by rw [q.2, (h.k h0 h1).1]⟩)
theorem k_start {X : XX} {v : VV} {b : Int → Int} {n N a : Int} (hW : SW X) (h : TOK b n N v) (h0 : 0 ≤ a) (h1 : a ≤ N) : CX mX6_get 0 [(2, 8), (0, a)] X v (fun o1 v1 => v1 = v ∧ o1 = some (0, tS b n a)) :=
  (k_get hW (rowS8 hW) (by have := h.2.2.1.2.1; have := h.2.1; omega) a).mono (fun o v1 q => ⟨q.1, by rw [q.2, (h.k h0 h1).2.1]⟩)
theorem k_long {X : XX} {v : VV} {b : Int → Int} {n N a : Int} (hW : SW X) (h : TOK b n N v) (h0 : 0 ≤ a) (h1 : a ≤ N) : CX mX6_get 0 [(2, 10), (0, a)] X v (fun o1 v1 => v1 = v ∧ o1 = some (0, tL b n a)) :=
  (k_get hW (rowS10 hW) (by have := h.2.2.1.2.2; have := h.2.1; omega) a).mono (fun o v1 q => ⟨q.1, by rw [q.2, (h.k h0 h1).2.2]⟩)
def SPa (r j : Int) : Prop := r = 3 ∧ (j = 1 ∨ j = 2)
theorem SPa_TO {r j : Int} (h : TOs r j) : ¬ SPa r j := by unfold TOs at h; unfold SPa; omega
/-- the sizes of the draft's rows -/
def DSz (v : VV) : Prop := 0 ≤ v 17 1 ∧ 0 ≤ v 19 1 ∧ 0 ≤ v 21 1 ∧ 0 ≤ v 23 1 ∧ 0 ≤ v 28 1 ∧ 0 ≤ v 30 1
theorem DSz.of {v w : VV} (h : DSz v) (e : ∀ r, (r = 17 ∨ r = 19 ∨ r = 21 ∨ r = 23 ∨ r = 28 ∨ r = 30) → w r 1 = v r 1 ∨ 0 ≤ w r 1) : DSz w := by
  obtain ⟨d1, d2, d3, d4, d5, d6⟩ := h
  have e1 := e 17 (by omega)
  have e2 := e 19 (by omega)
  have e3 := e 21 (by omega)
  have e4 := e 23 (by omega)
  have e5 := e 28 (by omega)
  have e6 := e 30 (by omega)
  unfold DSz
  omega
theorem dzi {S : Int → Int → Prop} {v w : VV} (hf : Fr S v w) (hs : ∀ r, 17 ≤ r → r ≤ 30 → ¬ S r 1) : DSz v → DSz w := fun h => h.of (fun r hr => Or.inl (hf r 1 (hs r (by omega) (by omega))))
theorem dza {v w : VV} (hf : Fr SPa v w) : DSz v → DSz w := dzi hf (fun r r0 r1 => by unfold SPa; omega)
/-- the parser stands at token a -/
def PA (b : Int → Int) (n N a : Int) (v : VV) : Prop := TOK b n N v ∧ v 3 1 = a ∧ (0 ≤ a ∧ a ≤ N) ∧ v 3 2 = 0
/-- behind a reading that answers r -/
def PP (b : Int → Int) (n N : Int) (S : Int → Int → Prop) (v : VV) (r : Bool × Int) (o : Option AV) (v1 : VV) : Prop := Fr S v v1 ∧ ((r.1 = true ∧ o = some (0, 1) ∧ v1 3 1 = r.2 ∧ v1 3 2 = 0 ∧ (0 ≤ r.2 ∧ r.2 ≤ N)) ∨ (r.1 = false ∧ o = some (0, 0) ∧ (0 ≤ v1 3 1 ∧ v1 3 1 ≤ N) ∧ tS b n (v1 3 1) + v1 3 2 = r.2 ∧ (0 ≤ v1 3 2 ∧ v1 3 2 ≤ 400) ∧ (DSz v → DSz v1)))
theorem PA.lt {b : Int → Int} {n N a : Int} {v : VV} (h : PA b n N a v) (hk : ¬ tK b n a = 260) : a < N := by
  have h1 := h.2.2.1
  have h2 := h.1.2.1.2.2.1
  rcases Int.lt_or_le a N with q | q
  · exact q
  · exact absurd (by rw [show a = N by omega]; exact h2) hk
theorem PA.up {b : Int → Int} {n N a : Int} {v : VV} (h : PA b n N a v) (hk : ¬ tK b n a = 260) : PA b n N (a + 1) (upd2 v 3 1 (a + 1)) := by
  have hl := h.lt hk
  have h1 := h.2.2.1
  exact ⟨h.1.fr (S := SPa) (Fr.rf.up (by unfold SPa; omega)) (fun r j q => SPa_TO q), upd2_s _ _ _ _, ⟨by omega, by omega⟩, by rw [upd2_n _ (by omega)]; exact h.2.2.2⟩
theorem PP.ok {b : Int → Int} {n N a : Int} {v v1 : VV} {S : Int → Int → Prop} (h : PA b n N a v1) (hf : Fr S v v1) : PP b n N S v (true, a) (some (0, 1)) v1 := ⟨hf, Or.inl ⟨rfl, rfl, h.2.1, h.2.2.2, h.2.2.1⟩⟩
theorem PP.no {b : Int → Int} {n N a : Int} {v v1 : VV} {S : Int → Int → Prop} (h : PA b n N a v1) (hf : Fr S v v1) (hd : DSz v → DSz v1) : PP b n N S v (false, tS b n a) (some (0, 0)) v1 := ⟨hf, Or.inr ⟨rfl, rfl, by rw [h.2.1]; exact h.2.2.1, by rw [h.2.1, h.2.2.2]; show tS b n a + 0 = tS b n a; omega, by rw [h.2.2.2]; omega, hd⟩⟩
theorem PP.at {b : Int → Int} {n N : Int} {v v1 : VV} {S : Int → Int → Prop} {r : Bool × Int} {o : Option AV} (h : PP b n N S v r o v1) (hT : TOK b n N v) (hs : ∀ r j, TOs r j → ¬ S r j) (hr : r.1 = true) : PA b n N r.2 v1 := by
  obtain ⟨hf, ⟨-, -, h1, h2, h3⟩ | ⟨h1, -⟩⟩ := h
  · exact ⟨hT.fr hf hs, h1, h3, h2⟩
  · rw [hr] at h1; exact Bool.noConfusion h1
theorem PP.mono {b : Int → Int} {n N : Int} {v0 v v1 : VV} {S S' : Int → Int → Prop} {r : Bool × Int} {o : Option AV} (h : PP b n N S v r o v1) (h0 : Fr S' v0 v) (hs : ∀ r j, S r j → S' r j) (hd : DSz v0 → DSz v) : PP b n N S' v0 r o v1 := ⟨h0.via h.1 (fun _ _ q => q) hs, h.2.elim Or.inl (fun ⟨k1, k2, k3, k4, k5, k6⟩ => Or.inr ⟨k1, k2, k3, k4, k5, fun z => k6 (hd z)⟩)⟩
set_option maxRecDepth 100000 in
set_option maxHeartbeats 4000000 in
theorem k_take2 {X : XX} {v : VV} {b : Int → Int} {n N a : Int} (hW : SW X) (h : PA b n N a v) (s : Int) (hs : ¬ s = 260) : CX mX4_take 1 [(2, 3), (0, s)] X v (fun o v1 => PP b n N SPa v (rTake b n s a) o v1 ∧ ((rTake b n s a).1 = false → v1 = v)) := by
  obtain ⟨h1, h2, h3, h4⟩ := id h
  refine CX.of (by decide +kernel) rfl rfl rfl (bX4_take_0 s (Nat.le_refl _) hW (fun _ => ?_))
  rw [h2]
  refine ⟨_, k_kind hW h1 h3.1 h3.2, fun r2 w3 hP => ?_⟩
  obtain ⟨rfl, hr⟩ := hP
  obtain rfl : r2 = tK b n a := by simpa using hr
  rw [h2]
  have hN := h1.2.1
  refine ⟨fun g => ⟨fun _ => ⟨by omega, by omega⟩, rfl, ?_⟩, fun g => ⟨rfl, ?_⟩⟩
  · unfold rTake
    rw [if_pos g]
    exact ⟨PP.ok (h.up (by omega)) (Fr.rf.up (by unfold SPa; omega)), fun q => Bool.noConfusion q⟩
  · unfold rTake
    rw [if_neg g]
    exact ⟨PP.no h Fr.rf id, fun _ => rfl⟩
theorem k_take {X : XX} {v : VV} {b : Int → Int} {n N a : Int} (hW : SW X) (h : PA b n N a v) (s : Int) (hs : ¬ s = 260) : CX mX4_take 1 [(2, 3), (0, s)] X v (fun o v1 => PP b n N SPa v (rTake b n s a) o v1) := (k_take2 hW h s hs).mono (fun _ _ q => q.1)
theorem PP.far {b : Int → Int} {n N a x : Int} {v : VV} {S : Int → Int → Prop} (h : PA b n N a v) (hx : 0 ≤ x ∧ x ≤ 400) (h3 : S 3 2) : PP b n N S v (false, tS b n a + x) (some (0, 0)) (upd2 v 3 2 x) := by
  have e : upd2 v 3 2 x 3 1 = a := by rw [upd2_n _ (by omega)]; exact h.2.1
  exact ⟨Fr.rf.up h3, Or.inr ⟨rfl, rfl, by rw [e]; exact h.2.2.1, by rw [e, upd2_s], by rw [upd2_s]; exact hx, dza (Fr.rf.up (by unfold SPa; omega))⟩⟩
set_option maxRecDepth 100000 in
set_option maxHeartbeats 4000000 in
theorem k_takeName {X : XX} {v : VV} {b : Int → Int} {n N a : Int} (hW : SW X) (h : PA b n N a v) : CX mX4_takeName 1 [(2, 3)] X v (fun o v1 => PP b n N SPa v (rName b n a) o v1) := by
  obtain ⟨h1, h2, h3, h4⟩ := id h
  refine CX.of (by decide +kernel) rfl rfl rfl (bX4_takeName_0 (Nat.le_refl _) hW ?_)
  rw [h2]
  refine ⟨_, k_kind hW h1 h3.1 h3.2, fun r2 w3 hP => ?_⟩
  obtain ⟨rfl, hr⟩ := hP
  obtain rfl : r2 = tK b n a := by simpa using hr
  rw [h2]
  have hN := h1.2.1
  refine ⟨fun g => ⟨_, k_long hW h1 h3.1 h3.2, fun r6 w7 hP => ?_⟩, fun g => ⟨rfl, ?_⟩⟩
  · obtain ⟨rfl, hr6⟩ := hP
    obtain rfl : r6 = tL b n a := by simpa using hr6
    rw [h2]
    refine ⟨fun g2 => ⟨fun _ => ⟨by omega, by omega⟩, rfl, ?_⟩, fun g2 => ⟨rfl, ?_⟩⟩
    · unfold rName
      rw [if_pos g, if_pos g2]
      exact PP.ok (h.up (by omega)) (Fr.rf.up (by unfold SPa; omega))
    · unfold rName
      rw [if_pos g, if_neg (by omega)]
      exact PP.far h (by omega) (by unfold SPa; omega)
  · unfold rName
    rw [if_neg g]
    exact PP.no h Fr.rf id
theorem tL_bd {b : Int → Int} {n a : Int} (hT : TX b n) : 0 ≤ tL b n a ∧ tL b n a ≤ 400 ∧ tS b n a + tL b n a ≤ n := by
  have h1 := tS_bd b hT.1.1 a
  have h2 := tEnd_bd b h1.2
  have h3 := hT.1
  unfold tL
  omega
/-- a constant -/
def rConst (b : Int → Int) (n a : Int) : Bool × Int := if tK b n a = 257 then (if tL b n a ≤ 4 then (true, a + 1) else (false, tS b n a + 4)) else if tK b n a = 258 then (true, a + 1) else (false, tS b n a + tL b n a)
set_option maxRecDepth 100000 in
set_option maxHeartbeats 4000000 in
theorem k_takeConstant {X : XX} {v : VV} {b : Int → Int} {n N a : Int} (hW : SW X) (h : PA b n N a v) (hk : tK b n a = 257 ∨ tK b n a = 258 ∨ tK b n a = 259) : CX mX4_takeConstant 1 [(2, 3), (0, tK b n a)] X v (fun o v1 => PP b n N SPa v (rConst b n a) o v1) := by
  obtain ⟨h1, h2, h3, h4⟩ := id h
  have hN := h1.2.1
  have hb := tL_bd (a := a) h1.1
  have l51 : ∀ (w : VV), w = v → (rConst b n a = (true, a + 1)) → ∀ x2, Ex mX4_takeConstant 1 51 [(2, 3), (0, tK b n a), (0, x2)] [] X w 0 0 (fun o X1 v1 => X1 = X ∧ PP b n N SPa v (rConst b n a) o v1) := fun w hw e x2 => by
    subst hw
    refine bX4_takeConstant_51 _ x2 (Nat.le_refl _) hW (fun _ _ => ?_)
    rw [h2, e]
    exact ⟨fun _ => ⟨by omega, by omega⟩, rfl, PP.ok (h.up (by omega)) (Fr.rf.up (by unfold SPa; omega))⟩
  refine CX.of (by decide +kernel) rfl rfl rfl (bX4_takeConstant_0 _ (Nat.le_refl _) hW (fun _ => ?_))
  rw [h2]
  refine ⟨_, k_long hW h1 h3.1 h3.2, fun r2 w3 hP => ?_⟩
  obtain ⟨rfl, hr⟩ := hP
  obtain rfl : r2 = tL b n a := by simpa using hr
  refine ⟨fun g => ⟨fun g2 => l51 w3 rfl ?_ _, fun g2 => ⟨fun g3 => l51 w3 rfl ?_ _, fun g3 => ⟨rfl, ?_⟩⟩⟩, fun g => ⟨rfl, ?_⟩⟩
  · unfold rConst; rw [if_neg g2, if_pos (by omega)]
  · unfold rConst; rw [if_pos g2, if_pos g3]
  · unfold rConst; rw [if_pos g2, if_neg (by omega)]
    exact PP.far h (by omega) (by unfold SPa; omega)
  · unfold rConst; rw [if_neg (by omega), if_neg (by omega)]
    exact PP.far h ⟨hb.1, hb.2.1⟩ (by unfold SPa; omega)
theorem k_isOp {X : XX} {v : VV} (hW : SW X) (x : Int) : CX mX4_isOperator 0 [(0, x)] X v (fun o v1 => v1 = v ∧ o = some (0, bI (isOp x))) := by
  refine CX.of (by decide +kernel) rfl rfl rfl (bX4_isOperator_0 x (Nat.le_refl _) hW (fun _ => ⟨fun g => ⟨rfl, rfl, ?_⟩, fun g => ⟨fun g2 => ⟨rfl, rfl, ?_⟩, fun g2 => ⟨fun g3 => ⟨rfl, rfl, ?_⟩, fun g3 => ⟨rfl, rfl, ?_⟩⟩⟩⟩))
  · rw [bI_t (by unfold isOp; omega)]
  · rw [bI_t (by unfold isOp; omega)]
  · rw [bI_f (by unfold isOp; omega)]
  · rw [bI_t (by unfold isOp; omega)]
/-- the draft's items: s of them, both rows -/
def ITs (v : VV) (s : Int) : Prop := v 28 1 = s ∧ v 30 1 = s ∧ 0 ≤ s
/-- what reading a formula touches, from item s on -/
def SPf (s r j : Int) : Prop := SPa r j ∨ ((r = 28 ∨ r = 30) ∧ j = 1) ∨ ((r = 29 ∨ r = 31) ∧ s ≤ j)
theorem dzf {s t : Int} {v w : VV} (hf : Fr (SPf s) v w) (hI : ITs w t) : DSz v → DSz w := fun h => h.of (fun r hr => by
  obtain ⟨i1, i2, i3⟩ := hI
  by_cases z : r = 28 ∨ r = 30
  · refine Or.inr ?_
    rcases z with z | z
    · rw [z]; omega
    · rw [z]; omega
  · exact Or.inl (hf r 1 (by unfold SPf SPa; omega)))
theorem SPf_TO {s r j : Int} (h : TOs r j) : ¬ SPf s r j := by unfold TOs at h; unfold SPf SPa; omega
set_option maxRecDepth 100000 in
set_option maxHeartbeats 4000000 in
/-- an item is put behind -/
theorem k_padd {X : XX} {v : VV} {s : Int} (hW : SW X) (h : ITs v s) (hs : s < 400) (x p : Int) : CX mX5_add 1 [(2, 25), (0, x), (0, p)] X v (fun o v1 => o = none ∧ ITs v1 (s + 1) ∧ v1 29 s = x ∧ v1 31 s = p ∧ Fr (fun r j => ((r = 28 ∨ r = 30) ∧ j = 1) ∨ ((r = 29 ∨ r = 31) ∧ j = s)) v v1) := by
  obtain ⟨h1, h2, h3⟩ := h
  refine CX.of (by decide +kernel) rfl rfl rfl (bX5_add_0 25 x p (Nat.le_refl _) hW (fun _ _ => ⟨sW25 hW, gW25 hW, ?_⟩))
  rw [rW25_0 hW, rW25_1 hW]
  refine ⟨sW28 hW, gW28 hW, _, k_add hW (rowS28 hW) (by decide) ⟨by omega, by omega⟩ x, fun w5 hP => ?_⟩
  have e5 : w5 = rAdd v 28 29 x := hP
  have f30 : w5 30 1 = s := by rw [e5, rAdd_n (by decide) (by decide)]; exact h2
  refine ⟨sW30 hW, gW30 hW, _, k_add hW (rowS30 hW) (by decide) ⟨by omega, by omega⟩ p, fun w10 hP => ?_⟩
  have e10 : w10 = rAdd w5 30 31 p := hP
  refine ⟨rfl, rfl, ⟨?_, ?_, by omega⟩, ?_, ?_, fun r j hn => ?_⟩
  · rw [e10, rAdd_n (by decide) (by decide), e5, rAdd_1, h1]
  · rw [e10, rAdd_1, f30]
  · rw [e10, rAdd_n (by decide) (by decide), e5, rAdd_c (by decide), h1, if_pos rfl]
  · rw [e10, rAdd_c (by decide), f30, if_pos rfl]
  · rw [e10, e5]
    unfold rAdd
    rw [upd2_n _ (fun q => hn (Or.inl ⟨Or.inr q.1, q.2⟩)), upd2_n _ (fun q => hn (Or.inr ⟨Or.inr q.1, by rw [q.2]; exact (by rw [← f30, e5] : _ = s)⟩)), upd2_n _ (fun q => hn (Or.inl ⟨Or.inl q.1, q.2⟩)), upd2_n _ (fun q => hn (Or.inr ⟨Or.inl q.1, by rw [q.2]; exact h1⟩))]
/-- the items L stand from s on -/
def ITL (v : VV) (s : Int) (L : List (Int × Int)) : Prop := ITs v (s + L.length) ∧ AtL v 29 31 s L
theorem AtL.app {v : VV} {ic pc : Int} : ∀ (L K : List (Int × Int)) (s : Int), AtL v ic pc s (L ++ K) ↔ (AtL v ic pc s L ∧ AtL v ic pc (s + L.length) K)
  | [], K, s => by
    show AtL v ic pc s K ↔ (True ∧ AtL v ic pc (s + ((0 : Nat) : Int)) K)
    rw [show s + ((0 : Nat) : Int) = s by omega]
    exact ⟨fun h => ⟨trivial, h⟩, fun h => h.2⟩
  | q :: L, K, s => by
    show (_ ∧ _ ∧ AtL v ic pc (s + 1) (L ++ K)) ↔ ((_ ∧ _ ∧ AtL v ic pc (s + 1) L) ∧ AtL v ic pc (s + ((q :: L).length : Int)) K)
    rw [AtL.app L K (s + 1), List.length_cons, show s + 1 + (L.length : Int) = s + ((L.length + 1 : Nat) : Int) by omega]
    exact ⟨fun h => ⟨⟨h.1, h.2.1, h.2.2.1⟩, h.2.2.2⟩, fun h => ⟨h.1.1, h.1.2.1, h.1.2.2, h.2⟩⟩
/-- behind a term or a formula -/
def PT (b : Int → Int) (n N s : Int) (v : VV) (r : Bool × Int) (L : List (Int × Int)) (o : Option AV) (v1 : VV) : Prop := PP b n N (SPf s) v r o v1 ∧ (r.1 = true → ITL v1 s L)
theorem PT.bad {b : Int → Int} {n N s : Int} {v v1 : VV} {r : Bool × Int} {L : List (Int × Int)} {o : Option AV} (h : PP b n N (SPf s) v r o v1) (hr : r.1 = false) : PT b n N s v r L o v1 := ⟨h, fun q => by rw [hr] at q; exact Bool.noConfusion q⟩
theorem SPa_f {s r j : Int} (h : SPa r j) : SPf s r j := Or.inl h
theorem ITL.fr {v V : VV} {s : Int} {L : List (Int × Int)} (h : ITL v s L) (hf : Fr SPa v V) : ITL V s L := by
  obtain ⟨⟨h1, h2, h3⟩, h4⟩ := h
  exact ⟨⟨(hf 28 1 (by unfold SPa; omega)).trans h1, (hf 30 1 (by unfold SPa; omega)).trans h2, h3⟩, h4.fr L s (fun j _ _ => ⟨hf 29 j (by unfold SPa; omega), hf 31 j (by unfold SPa; omega)⟩)⟩
theorem ITs.fr {v V : VV} {s : Int} (h : ITs v s) (hf : Fr SPa v V) : ITs V s := ⟨(hf 28 1 (by unfold SPa; omega)).trans h.1, (hf 30 1 (by unfold SPa; omega)).trans h.2.1, h.2.2⟩
theorem PP_bool {b : Int → Int} {n N : Int} {S : Int → Int → Prop} {v v1 : VV} {r : Bool × Int} {x : Int} (h : PP b n N S v r (some (0, x)) v1) : (x = 0 ∨ x = 1) ∧ (r.1 = true ↔ ¬ x = 0) := by
  obtain ⟨-, ⟨h1, h2, -⟩ | ⟨h1, h2, -⟩⟩ := h
  · have e : x = 1 := by simpa using h2
    exact ⟨Or.inr e, fun _ => by omega, fun _ => h1⟩
  · have e : x = 0 := by simpa using h2
    exact ⟨Or.inl e, fun z => by rw [h1] at z; exact Bool.noConfusion z, fun z => absurd e z⟩
/-- a term's contract -/
def CT (X : XX) (b : Int → Int) (n N : Int) (j d : Nat) : Prop := ∀ (a s : Int) (v : VV), PA b n N a v → ITs v s → s ≤ a → CX mX4_readTerm d [(2, 3), (0, 3 - (j : Int))] X v (fun o v1 => PT b n N s v (rTerm b n j a) (emT b n j a) o v1)
def CF (X : XX) (b : Int → Int) (n N : Int) (j d : Nat) : Prop := ∀ (a s : Int) (v : VV), PA b n N a v → ITs v s → s ≤ a → CX mX4_readFormula d [(2, 3), (0, 3 - (j : Int))] X v (fun o v1 => PT b n N s v (rForm b n j a) (emF b n j a) o v1 ∧ ((rForm b n j a).1 = true → ¬ isOp (tK b n (rForm b n j a).2)))
set_option maxRecDepth 100000 in
set_option maxHeartbeats 4000000 in
theorem k_more {X : XX} {b : Int → Int} {n N : Int} {j e : Nat} {a0 s0 : Int} {v0 : VV} (hW : SW X) (hT : CT X b n N j e) (h2 : 2 ≤ e + 1) (hv0 : TOK b n N v0) (r0 : (rTerm b n j a0).1 = true) : ∀ (m : Nat) (a : Int) (L : List (Int × Int)) (v : VV), m ≤ 5 → PA b n N a v → Fr (SPf s0) v0 v → ITL v s0 L → s0 + L.length ≤ a → rForm b n j a0 = rMore b n (rTerm b n j) m a → emF b n j a0 = L ++ emM b n (emT b n j) (rTerm b n j) m a → Ex mX4_readFormula (e + 1) 12 [(2, 3), (0, 3 - (j : Int)), (0, 5 - (m : Int)), (3, 0), (3, 0)] [] X v 0 0 (fun o X1 v1 => X1 = X ∧ PT b n N s0 v0 (rForm b n j a0) (emF b n j a0) o v1 ∧ ((rForm b n j a0).1 = true → ¬ isOp (tK b n (rForm b n j a0).2))) := by
  intro m
  induction m with
  | zero =>
    intro a L v _ hA hfr hL hle eR eL
    obtain ⟨h1, h2', h3, h4⟩ := id hA
    refine bX4_readFormula_12 _ _ h2 hW (fun _ _ => ⟨fun _ => ?_, fun g => by omega⟩)
    rw [h2']
    refine ⟨_, k_kind hW h1 h3.1 h3.2, fun r7 w8 hP => ?_⟩
    obtain ⟨rfl, hr⟩ := hP
    obtain rfl : r7 = tK b n a := by simpa using hr
    refine ⟨_, k_isOp hW _, fun r11 w12 hP => ?_⟩
    obtain ⟨rfl, hr11⟩ := hP
    obtain rfl : r11 = bI (isOp (tK b n a)) := by simpa using hr11
    refine ⟨fun g => ?_, fun g => ?_⟩
    · rw [bI_n0] at g
      rw [rMore_0 g] at eR
      rw [eR]
      exact ⟨rfl, PT.bad ((PP.no hA Fr.rf id).mono hfr (fun _ _ q => q) (dzf hfr hL.1)) rfl, fun q => Bool.noConfusion q⟩
    · rw [bI_0] at g
      rw [rMore_no 0 g] at eR
      rw [emM_no 0 g, List.append_nil] at eL
      rw [eR, eL]
      exact ⟨rfl, ⟨(PP.ok hA Fr.rf).mono hfr (fun _ _ q => q) (dzf hfr hL.1), fun _ => hL⟩, fun _ => g⟩
  | succ m ih =>
    intro a L v hm hA hfr hL hle eR eL
    obtain ⟨h1, h2', h3, h4⟩ := id hA
    refine bX4_readFormula_12 _ _ h2 hW (fun _ _ => ⟨fun g => by omega, fun _ => ?_⟩)
    rw [h2']
    refine ⟨_, k_kind hW h1 h3.1 h3.2, fun r15 w16 hP => ?_⟩
    obtain ⟨rfl, hr⟩ := hP
    obtain rfl : r15 = tK b n a := by simpa using hr
    rw [h2']
    refine ⟨_, k_start hW h1 h3.1 h3.2, fun r19 w20 hP => ?_⟩
    obtain ⟨rfl, hr19⟩ := hP
    obtain rfl : r19 = tS b n a := by simpa using hr19
    refine ⟨_, k_isOp hW _, fun r23 w24 hP => ?_⟩
    obtain ⟨rfl, hr23⟩ := hP
    obtain rfl : r23 = bI (isOp (tK b n a)) := by simpa using hr23
    have hN := h1.2.1
    refine ⟨fun g => ?_, fun g => ?_⟩
    · rw [bI_n0] at g
      rw [rMore_s m g] at eR
      rw [emM_s m g] at eL
      have g' : tK b n a = 43 ∨ tK b n a = 45 ∨ tK b n a = 38 := g
      have hne : ¬ tK b n a = 260 := by omega
      rw [h2']
      have hA1 := hA.up hne
      have hf1 : Fr SPa w24 (upd2 w24 3 1 (a + 1)) := Fr.rf.up (by unfold SPa; omega)
      refine ⟨fun _ => ⟨by omega, by omega⟩, e, Nat.le_refl _, _, hT (a + 1) (s0 + L.length) _ hA1 (hL.1.fr hf1) (by omega), fun r27 w28 hP => ?_⟩
      obtain ⟨hPP, hLL⟩ := hP
      have hbo := PP_bool hPP
      have hfr2 : Fr (SPf s0) v0 (upd2 w24 3 1 (a + 1)) := hfr.via hf1 (fun _ _ q => q) (fun _ _ q => SPa_f q)
      have hss : ∀ r j, SPf (s0 + L.length) r j → SPf s0 r j := fun r j q => by
        rcases q with q | q
        · exact Or.inl q
        · unfold SPf; omega
      refine ⟨fun g2 => ?_, fun g2 => ?_⟩
      · have hy := hbo.2.mpr g2
        have hA2 := hPP.at hA1.1 (fun r j q => SPf_TO q) hy
        have hlt := rTerm_lt j _ hy
        have hln := emT_len j _ hy
        have hI2 := hLL hy
        have hr2N := hA2.2.2.1
        refine ⟨_, k_padd hW hI2.1 (by omega) (tK b n a) (tS b n a), fun w33 hP => ⟨⟨by omega, by omega⟩, ?_⟩⟩
        obtain ⟨-, p1, p2, p3, p4⟩ := hP
        rw [rThen_t hy] at eR
        have hA3 : PA b n N (rTerm b n j (a + 1)).2 w33 := ⟨hA2.1.fr p4 (fun r j q => by unfold TOs at q; omega), (p4 3 1 (by omega)).trans hA2.2.1, hA2.2.2.1, (p4 3 2 (by omega)).trans hA2.2.2.2⟩
        have hfr3 : Fr (SPf s0) v0 w33 := (hfr2.via hPP.1 (fun _ _ q => q) hss).via p4 (fun _ _ q => q) (fun r j q => by unfold SPf SPa; omega)
        have h5 := ih (rTerm b n j (a + 1)).2 (L ++ (emT b n j (a + 1) ++ [(tK b n a, tS b n a)])) w33 (by omega) hA3 hfr3 ?_ ?_ eR ?_
        · rw [show 5 - ((m + 1 : Nat) : Int) + 1 = 5 - (m : Int) by omega]; exact h5
        · -- the items so far
          have hAL : AtL w33 29 31 s0 L := hL.2.fr L s0 (fun j j0 j1 => by
            refine ⟨?_, ?_⟩
            · rw [p4 29 j (by omega), hPP.1 29 j (by unfold SPf SPa; omega), upd2_n _ (by omega)]
            · rw [p4 31 j (by omega), hPP.1 31 j (by unfold SPf SPa; omega), upd2_n _ (by omega)])
          have hAT : AtL w33 29 31 (s0 + L.length) (emT b n j (a + 1)) := hI2.2.fr _ _ (fun j j0 j1 => ⟨p4 29 j (by omega), p4 31 j (by omega)⟩)
          refine ⟨?_, (AtL.app _ _ _).mpr ⟨hAL, (AtL.app _ _ _).mpr ⟨hAT, p2, p3, trivial⟩⟩⟩
          rw [List.length_append, List.length_append, List.length_singleton]
          have e9 : s0 + ((L.length + ((emT b n j (a + 1)).length + 1) : Nat) : Int) = s0 + L.length + (emT b n j (a + 1)).length + 1 := by omega
          rw [e9]
          exact p1
        · rw [List.length_append, List.length_append, List.length_singleton]; omega
        · rw [eL]; simp [List.append_assoc]
      · have hno : (rTerm b n j (a + 1)).1 = false := by
          cases hh : (rTerm b n j (a + 1)).1 with
          | false => rfl
          | true => exact absurd g2 (hbo.2.mp hh)
        rw [rThen_f hno] at eR
        have e0 : r27 = 0 := g2
        subst e0
        rw [eR]
        exact ⟨rfl, PT.bad (hPP.mono hfr2 hss (dzf hfr2 (hL.1.fr hf1))) hno, fun q => by rw [hno] at q; exact Bool.noConfusion q⟩
    · rw [bI_0] at g
      rw [rMore_no _ g] at eR
      rw [emM_no _ g, List.append_nil] at eL
      rw [eR, eL]
      exact ⟨rfl, ⟨(PP.ok hA Fr.rf).mono hfr (fun _ _ q => q) (dzf hfr hL.1), fun _ => hL⟩, fun _ => g⟩
set_option maxRecDepth 100000 in
set_option maxHeartbeats 4000000 in
theorem k_form {X : XX} {b : Int → Int} {n N : Int} {j e : Nat} (hW : SW X) (hT : CT X b n N j e) (h2 : 2 ≤ e + 1) : CF X b n N j (e + 1) := by
  intro a s v hA hI hs
  refine CX.of (by decide +kernel) rfl rfl rfl (bX4_readFormula_0 _ h2 hW (fun _ => ⟨e, Nat.le_refl _, _, hT a s v hA hI hs, fun r2 w3 hP => ?_⟩))
  obtain ⟨hPP, hLL⟩ := hP
  have hbo := PP_bool hPP
  refine ⟨fun g => ?_, fun g => ?_⟩
  · have hy := hbo.2.mpr g
    have hA2 := hPP.at hA.1 (fun r j q => SPf_TO q) hy
    have hln := emT_len j _ hy
    have h := k_more (a0 := a) (s0 := s) (v0 := v) hW hT h2 hA.1 hy 5 (rTerm b n j a).2 (emT b n j a) w3 (Nat.le_refl _) hA2 hPP.1 (hLL hy) (by omega) (by unfold rForm; rw [rThen_t hy]) rfl
    exact h
  · have hno : (rTerm b n j a).1 = false := by
      cases hh : (rTerm b n j a).1 with
      | false => rfl
      | true => exact absurd g (hbo.2.mp hh)
    have eR : rForm b n j a = rTerm b n j a := by unfold rForm; rw [rThen_f hno]
    have e0 : r2 = 0 := g
    subst e0
    rw [eR]
    exact ⟨rfl, PT.bad hPP hno, fun q => by rw [hno] at q; exact Bool.noConfusion q⟩
set_option maxRecDepth 100000 in
set_option maxHeartbeats 4000000 in
/-- a term that is no bracket's word -/
theorem k_leaf {X : XX} {b : Int → Int} {n N a s : Int} {v : VV} {j d : Nat} (hW : SW X) (h2 : 2 ≤ d) (hA : PA b n N a v) (hI : ITs v s) (hs : s ≤ a) (call : (tK b n a = 266 ∨ tK b n a = 267) → Ex mX4_readTerm d 146 [(2, 3), (0, 3 - (j : Int)), (0, tK b n a), (0, tS b n a)] [] X v 0 0 (fun o X1 v1 => X1 = X ∧ PT b n N s v (rTerm b n j a) (emT b n j a) o v1)) : CX mX4_readTerm d [(2, 3), (0, 3 - (j : Int))] X v (fun o v1 => PT b n N s v (rTerm b n j a) (emT b n j a) o v1) := by
  obtain ⟨h1, h2', h3, h4⟩ := id hA
  have hN := h1.2.1
  have l112 : (tK b n a = 257 ∨ tK b n a = 258 ∨ tK b n a = 259) → Ex mX4_readTerm d 112 [(2, 3), (0, 3 - (j : Int)), (0, tK b n a), (0, tS b n a)] [] X v 0 0 (fun o X1 v1 => X1 = X ∧ PT b n N s v (rTerm b n j a) (emT b n j a) o v1) := fun hk => by
    have hal := hA.lt (by omega)
    have eR : rTerm b n j a = rConst b n a := by
      rw [rTerm_leaf j (by omega)]
      unfold rLeaf rConst
      rw [if_neg (by omega)]
      by_cases q1 : tK b n a = 257
      · rw [if_pos q1, if_pos q1]
      · rw [if_neg q1, if_neg q1]
        by_cases q2 : tK b n a = 258
        · rw [if_pos q2, if_pos q2]
        · rw [if_neg q2, if_neg q2, if_pos (by omega)]
    have eL : emT b n j a = [(tK b n a, tS b n a)] := by
      rw [emT_leaf j (by omega)]; unfold emL; rw [if_neg (by omega)]
    refine bX4_readTerm_112 _ _ _ h2 hW (fun _ _ _ => ⟨_, k_padd hW hI (by omega) _ _, fun w27 hP => ?_⟩)
    obtain ⟨-, p1, p2, p3, p4⟩ := hP
    have hA1 : PA b n N a w27 := ⟨h1.fr p4 (fun r j q => by unfold TOs at q; omega), (p4 3 1 (by omega)).trans h2', h3, (p4 3 2 (by omega)).trans h4⟩
    refine ⟨_, k_takeConstant hW hA1 hk, fun r30 w31 hP => ⟨(PP_bool hP).1, rfl, ?_, fun q => ?_⟩⟩
    · rw [eR]
      have fq : Fr (SPf s) v w27 := p4.mono (fun r j h q => h (by unfold SPf SPa; omega))
      exact hP.mono fq (fun _ _ q => SPa_f q) (dzf fq p1)
    · rw [eL]
      have hfr : Fr SPa w27 w31 := hP.1
      exact ITL.fr ⟨p1, p2, p3, trivial⟩ hfr
  refine CX.of (by decide +kernel) rfl rfl rfl (bX4_readTerm_0 _ h2 hW (fun _ => ?_))
  rw [h2']
  refine ⟨_, k_kind hW h1 h3.1 h3.2, fun r2 w3 hP => ?_⟩
  obtain ⟨rfl, hr⟩ := hP
  obtain rfl : r2 = tK b n a := by simpa using hr
  rw [h2']
  refine ⟨_, k_start hW h1 h3.1 h3.2, fun r6 w7 hP => ?_⟩
  obtain ⟨rfl, hr6⟩ := hP
  obtain rfl : r6 = tS b n a := by simpa using hr6
  refine ⟨fun g => ⟨fun g1 => l112 (Or.inl g1), fun g1 => ⟨fun g2 => l112 (Or.inr (Or.inl g2)), fun g2 => ⟨fun g3 => ⟨fun g4 => call (Or.inl g4), fun g4 => ⟨fun g5 => call (Or.inr g5), fun g5 => ?_⟩⟩, fun g3 => l112 (Or.inr (Or.inr g3))⟩⟩⟩, fun g => ?_⟩
  · have eR : rTerm b n j a = (false, tS b n a) := by
      rw [rTerm_leaf j (by omega)]
      unfold rLeaf
      rw [if_neg g, if_neg g1, if_neg g2, if_neg g3]
    rw [eR]
    exact ⟨rfl, PT.bad (PP.no hA Fr.rf id) rfl⟩
  · have hal := hA.lt (by omega)
    have eL : emT b n j a = [(2000 + a, tS b n a)] := by
      rw [emT_leaf j (by omega)]; unfold emL; rw [if_pos g]
    have eR : rTerm b n j a = rThen (rName b n a) (fun a => rThen (rTake b n 46 a) (rName b n)) := by
      rw [rTerm_leaf j (by omega)]
      unfold rLeaf
      rw [if_pos g]
    rw [h2', eR, eL]
    refine ⟨fun _ => ⟨by omega, by omega⟩, _, k_padd hW hI (by omega) _ _, fun w11 hP => ?_⟩
    obtain ⟨-, p1, p2, p3, p4⟩ := hP
    have f0 : Fr (SPf s) w7 w11 := p4.mono (fun r j h q => h (by unfold SPf SPa; omega))
    have hA1 : PA b n N a w11 := ⟨h1.fr p4 (fun r j q => by unfold TOs at q; omega), (p4 3 1 (by omega)).trans h2', h3, (p4 3 2 (by omega)).trans h4⟩
    refine ⟨_, k_takeName hW hA1, fun r14 w15 hP1 => ?_⟩
    have b1 := PP_bool hP1
    have f1 := f0.via hP1.1 (fun _ _ q => q) (fun _ _ q => SPa_f q)
    refine ⟨fun g1 => ?_, fun g1 => ?_⟩
    · have hno : (rName b n a).1 = false := by
        cases hh : (rName b n a).1 with
        | false => rfl
        | true => exact absurd g1 (b1.2.mp hh)
      have e0 : r14 = 0 := g1
      subst e0
      rw [rThen_f hno]
      exact ⟨rfl, PT.bad (hP1.mono f0 (fun _ _ q => SPa_f q) (dzf f0 p1)) hno⟩
    have y1 := b1.2.mpr g1
    have hA2 := hP1.at hA1.1 (fun r j q => SPa_TO q) y1
    rw [rThen_t y1]
    refine ⟨_, k_take hW hA2 46 (by decide), fun r18 w19 hP2 => ?_⟩
    have b2 := PP_bool hP2
    have f2 := f1.via hP2.1 (fun _ _ q => q) (fun _ _ q => SPa_f q)
    refine ⟨fun g2 => ?_, fun g2 => ?_⟩
    · have hno : (rTake b n 46 (rName b n a).2).1 = false := by
        cases hh : (rTake b n 46 (rName b n a).2).1 with
        | false => rfl
        | true => exact absurd g2 (b2.2.mp hh)
      have e0 : r18 = 0 := g2
      subst e0
      rw [rThen_f hno]
      exact ⟨rfl, PT.bad (hP2.mono f1 (fun _ _ q => SPa_f q) (dzf f1 (p1.fr hP1.1))) hno⟩
    have y2 := b2.2.mpr g2
    have hA3 := hP2.at hA2.1 (fun r j q => SPa_TO q) y2
    rw [rThen_t y2]
    refine ⟨_, k_takeName hW hA3, fun r22 w23 hP3 => ?_⟩
    have b3 := PP_bool hP3
    have hfin := hP3.mono f2 (fun _ _ q => SPa_f (s := s) q) (dzf f2 ((p1.fr hP1.1).fr hP2.1))
    refine ⟨fun g3 => ?_, fun g3 => ?_⟩
    · have hno : (rName b n (rTake b n 46 (rName b n a).2).2).1 = false := by
        cases hh : (rName b n (rTake b n 46 (rName b n a).2).2).1 with
        | false => rfl
        | true => exact absurd g3 (b3.2.mp hh)
      have e0 : r22 = 0 := g3
      subst e0
      exact ⟨rfl, PT.bad hfin hno⟩
    · have e1 : r22 = 1 := by have := b3.1; omega
      subst e1
      exact ⟨rfl, hfin, fun _ => ((ITL.fr (show ITL w11 s [(2000 + a, tS b n a)] from ⟨p1, p2, p3, trivial⟩) hP1.1).fr hP2.1).fr hP3.1⟩
set_option maxRecDepth 100000 in
set_option maxHeartbeats 4000000 in
theorem k_term {X : XX} {b : Int → Int} {n N : Int} (hW : SW X) : ∀ j : Nat, j ≤ 3 → CT X b n N j (2 * j + 2)
  | 0, _ => fun a s v hA hI hs => by
    refine k_leaf hW (by omega) hA hI hs (fun hk => ?_)
    have hne : ¬ tK b n a = 260 := by omega
    have h2' := hA.2.1
    have h3 := hA.2.2.1
    have hN := hA.1.2.1
    refine bX4_readTerm_146 _ _ _ (by omega) hW (fun _ _ _ => ?_)
    rw [h2']
    refine ⟨fun _ => ⟨by omega, by omega⟩, fun _ => ?_, fun g => by omega⟩
    rw [show rTerm b n 0 a = (false, tS b n (a + 1)) from if_pos hk]
    exact ⟨rfl, PT.bad (PP.no (hA.up hne) (Fr.rf.up (SPa_f (by unfold SPa; omega))) (dza (Fr.rf.up (by unfold SPa; omega)))) rfl⟩
  | j + 1, hj => fun a s v hA hI hs => by
    have hF : CF X b n N j (2 * j + 2 + 1) := k_form hW (k_term hW j (by omega)) (by omega)
    refine k_leaf hW (by omega) hA hI hs (fun hk => ?_)
    have hne : ¬ tK b n a = 260 := by omega
    have h2' := hA.2.1
    have h3 := hA.2.2.1
    have hN := hA.1.2.1
    have hA1 := hA.up hne
    have f0 : Fr SPa v (upd2 v 3 1 (a + 1)) := Fr.rf.up (by unfold SPa; omega)
    refine bX4_readTerm_146 _ _ _ (by omega) hW (fun _ _ _ => ?_)
    rw [h2']
    have eR : rTerm b n (j + 1) a = rThen (rTake b n 40 (a + 1)) (fun a => rThen (rForm b n j a) (rTake b n 41)) := if_pos hk
    rw [eR, emT_call hk]
    refine ⟨fun _ => ⟨by omega, by omega⟩, fun g => by omega, fun _ => ⟨_, k_take hW hA1 40 (by decide), fun r34 w35 hP1 => ?_⟩⟩
    have b1 := PP_bool hP1
    have f1 := f0.via hP1.1 (fun _ _ q => q) (fun _ _ q => q)
    refine ⟨fun g1 => ?_, fun g1 => ?_⟩
    · have hno : (rTake b n 40 (a + 1)).1 = false := by
        cases hh : (rTake b n 40 (a + 1)).1 with
        | false => rfl
        | true => exact absurd g1 (b1.2.mp hh)
      have e0 : r34 = 0 := g1
      subst e0
      rw [rThen_f hno]
      exact ⟨rfl, PT.bad (hP1.mono (f0.mono (fun r j h q => h (SPa_f q))) (fun _ _ q => SPa_f q) (dza f0)) hno⟩
    have y1 := b1.2.mpr g1
    have hA2 := hP1.at hA1.1 (fun r j q => SPa_TO q) y1
    obtain ⟨e2, -⟩ := rTake_t y1
    rw [rThen_t y1]
    rw [e2] at hA2 ⊢
    replace hA2 : PA b n N (a + 1 + 1) w35 := hA2
    rw [show a + 1 + 1 = a + 2 by omega] at hA2
    show _ ∧ _
    refine ⟨⟨by omega, by omega⟩, 2 * j + 2 + 1, by omega, ?_⟩
    rw [show 3 - ((j + 1 : Nat) : Int) + 1 = 3 - (j : Int) by omega]
    refine ⟨_, hF (a + 2) s w35 hA2 (hI.fr f1) (by omega), fun r38 w39 hP2 => ?_⟩
    obtain ⟨⟨hPP, hLL⟩, -⟩ := hP2
    have b2 := PP_bool hPP
    have f1' : Fr (SPf s) v w35 := f1.mono (fun r j h q => h (SPa_f q))
    have f2 := f1'.via hPP.1 (fun _ _ q => q) (fun _ _ q => q)
    have e12 : a + 1 + 1 = a + 2 := by omega
    refine ⟨fun g2 => ?_, fun g2 => ?_⟩
    · have y2 := b2.2.mpr g2
      have hA3 := hPP.at hA2.1 (fun r j q => SPf_TO q) y2
      have hln := emF_len y2
      have hlt := rForm_lt y2
      have hI3 := hLL y2
      have hr2 := hA3.2.2.1
      have h400 := hN.2.1
      refine ⟨_, k_padd hW hI3.1 (by omega) (tK b n a) (tS b n a), fun w44 hP3 => ?_⟩
      obtain ⟨-, p1, p2, p3, p4⟩ := hP3
      have hA4 : PA b n N (rForm b n j (a + 2)).2 w44 := ⟨hA3.1.fr p4 (fun r j q => by unfold TOs at q; omega), (p4 3 1 (by omega)).trans hA3.2.1, hA3.2.2.1, (p4 3 2 (by omega)).trans hA3.2.2.2⟩
      have f3 : Fr (SPf s) v w44 := f2.via p4 (fun _ _ q => q) (fun r j q => by unfold SPf SPa; omega)
      refine ⟨_, k_take hW hA4 41 (by decide), fun r47 w48 hP4 => ?_⟩
      have b4 := PP_bool hP4
      have hfin := hP4.mono f3 (fun _ _ q => SPa_f (s := s) q) (dzf f3 p1)
      refine ⟨b4.1, rfl, ?_⟩
      show PT b n N s v (rThen (rForm b n j (a + 1 + 1)) (rTake b n 41)) _ _ _
      rw [e12, rThen_t y2]
      refine ⟨hfin, fun _ => ?_⟩
      have hAT : AtL w44 29 31 s (emF b n j (a + 2)) := hI3.2.fr _ _ (fun j j0 j1 => ⟨p4 29 j (by omega), p4 31 j (by omega)⟩)
      have hIL : ITL w44 s (emF b n j (a + 2) ++ [(tK b n a, tS b n a)]) := by
        refine ⟨?_, (AtL.app _ _ _).mpr ⟨hAT, p2, p3, trivial⟩⟩
        rw [List.length_append, List.length_singleton]
        have e9 : s + (((emF b n j (a + 2)).length + 1 : Nat) : Int) = s + (emF b n j (a + 2)).length + 1 := by omega
        rw [e9]
        exact p1
      exact hIL.fr hP4.1
    · have hno : (rForm b n j (a + 2)).1 = false := by
        cases hh : (rForm b n j (a + 2)).1 with
        | false => rfl
        | true => exact absurd g2 (b2.2.mp hh)
      have e0 : r38 = 0 := g2
      subst e0
      refine ⟨rfl, ?_⟩
      show PT b n N s v (rThen (rForm b n j (a + 1 + 1)) (rTake b n 41)) _ _ _
      rw [e12, rThen_f hno]
      exact PT.bad (hPP.mono f1' (fun _ _ q => q) (dza f1)) hno
theorem k_formula {X : XX} {b : Int → Int} {n N : Int} (hW : SW X) : CF X b n N 3 9 := k_form hW (k_term hW 3 (Nat.le_refl _)) (by omega)
