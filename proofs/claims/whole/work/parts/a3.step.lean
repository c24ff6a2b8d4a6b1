/-! ===== a step: both answer alike, and what holds between two calls holds again ===== -/
theorem Scal.eq {vc w vm : VV} (h : Scal vc vm) (e : ∀ r j : Int, 0 ≤ r → r < 47 → w r j = vc r j) : Scal w vm := by
  obtain ⟨⟨a1, a2, a3, a4, a5⟩, ⟨b1, b2⟩, ⟨c1, c2, c3⟩, ⟨d1, d2, d3, d4, d5, d6⟩, f1⟩ := h
  have g : ∀ (r j : Int) (P : Int → Prop), 0 ≤ r → r < 47 → P (vc r j) → P (w r j) := fun r j P h0 h1 hp => by rw [e r j h0 h1]; exact hp
  refine ⟨⟨g 0 11 (· = _) (by decide) (by decide) a1, g 0 12 (· = _) (by decide) (by decide) a2, g 0 13 (· = _) (by decide) (by decide) a3, g 0 14 (· = _) (by decide) (by decide) a4, g 0 15 (· = _) (by decide) (by decide) a5⟩, ⟨g 1 1 (· = _) (by decide) (by decide) b1, fun i i0 i1 => g 2 i (· = _) (by decide) (by decide) (b2 i i0 i1)⟩, ⟨g 43 1 (· = _) (by decide) (by decide) c1, g 43 1 (· ≤ _) (by decide) (by decide) c2, fun i i0 i1 => g 44 i (· = _) (by decide) (by decide) (c3 i i0 i1)⟩, ⟨g 6 1 (0 ≤ ·) (by decide) (by decide) d1, g 8 1 (0 ≤ ·) (by decide) (by decide) d2, g 10 1 (0 ≤ ·) (by decide) (by decide) d3, g 13 1 (0 ≤ ·) (by decide) (by decide) d4, g 15 1 (0 ≤ ·) (by decide) (by decide) d5, g 45 1 (0 ≤ ·) (by decide) (by decide) d6⟩, f1.eq (fun r j hr => e r j (by omega) (by omega))⟩
theorem I2.ecq {G : GT} {cC : Int → Nat} {E : Int} {X : XX} {vc w vm : VV} (h : I2 G cC E X vc vm) (hc : Ecq vc w) : I2 G cC E X w vm := by
  obtain ⟨⟨h1, h2, h3, h4, h5⟩, h6⟩ := h
  have hO := h4.obj
  have hK := h4.col
  refine ⟨⟨h1, h2, h3.cw (fun t t0 t1 hl => ?_), h4.c (fun r j q => hc r j (Or.inr (by omega))), h5.c (fun a j _ _ q _ => hc _ j (Or.inr (by omega)))⟩, h6.eq (fun r j _ q => hc r j (Or.inl q))⟩
  have o1 := (hO t t0 t1).elim (fun z => absurd z hl) (fun z => z.2)
  have o2 := (hK t t0 t1).elim (fun z => absurd z hl) (fun z => z.1.2)
  exact ⟨hc _ _ (Or.inr (by omega)), fun c _ _ => ⟨hc _ _ (Or.inr (by omega)), hc _ _ (Or.inl (by decide))⟩⟩
theorem mp_upd {v : VV} {r j x : Int} (h : 47 ≤ r ∧ r ≤ 86) : mp (upd2 v r j x) = upd2 (mp v) r j x := by
  funext a c
  by_cases ha : 47 ≤ a ∧ a ≤ 86
  · rw [mp_in _ _ ha]
    unfold upd2
    by_cases hh : a = r ∧ c = j
    · rw [if_pos hh, if_pos hh]
    · rw [if_neg hh, if_neg hh, mp_in _ _ ha]
  · have e : ∀ u : VV, mp u a c = 0 := fun u => by
      cases a with
      | ofNat k =>
        show (bif Nat.ble 47 k && Nat.ble k 86 then u (Int.ofNat k) c else 0) = 0
        cases hb : (Nat.ble 47 k && Nat.ble k 86) with
        | false => rfl
        | true =>
          exfalso
          rw [Bool.and_eq_true] at hb
          have h1 := Nat.le_of_ble_eq_true hb.1
          have h2 := Nat.le_of_ble_eq_true hb.2
          exact ha ⟨Int.ofNat_le.mpr h1, Int.ofNat_le.mpr h2⟩
      | negSucc k => rfl
    rw [e, upd2_n _ (fun q => ha (by rw [q.1]; exact h)), e]
theorem mp_mp (v : VV) : mp (mp v) = mp v := Emq.mp (fun r j h1 h2 => mp_in v j ⟨h1, h2⟩)
def StpOK (Mx Mm : MM) (dx dm : Nat) (as : List AV) (E : Int) (X : XX) (v : VV) : Prop := ∃ (c s : Nat), c ≤ 13 ∧ s ≤ 1246 ∧ ∃ P : QQ, Con Mx dx c s ((2, 0) :: as) X v P ∧ ∀ (o : Option AV) (Y : XX) (w : VV), P o Y w → ∃ i : Int, o = some (0, i) ∧ SW Y ∧ CX Mm dm ((2, 47) :: as) Y w (fun o' w' => o' = some (0, i) ∧ ∃ (G' : GT) (cC' : Int → Nat), I2 G' cC' (E + 10000) Y w' (mp w'))
theorem StpOK.cx {Mx Mm : MM} {dx dm : Nat} {as : List AV} {E : Int} {X : XX} {v : VV} {P : Option AV → VV → Prop} (hW : SW X) (hC : CX Mx dx ((2, 0) :: as) X v P) (h : ∀ o w, P o w → ∃ i : Int, o = some (0, i) ∧ CX Mm dm ((2, 47) :: as) X w (fun o' w' => o' = some (0, i) ∧ ∃ (G' : GT) (cC' : Int → Nat), I2 G' cC' (E + 10000) X w' (mp w'))) : StpOK Mx Mm dx dm as E X v :=
  ⟨0, 0, Nat.zero_le _, Nat.zero_le _, _, hC, fun o Y w hp => by
    obtain ⟨e, hp⟩ := hp
    rw [e]
    obtain ⟨i, e1, e2⟩ := h o w hp
    exact ⟨i, e1, hW, e2⟩⟩
theorem Fr.emq {S : Int → Int → Prop} {v w : VV} (h : Fr S v w) (hs : ∀ r j, S r j → r < 47 ∨ 86 < r) : mp w = mp v := (Emq.fr h hs).mp
/-- the reference's scratch -/
def RSc (r j : Int) : Prop := (r = 47 ∧ ¬ j = 0 ∧ ¬ (33 ≤ j ∧ j ≤ 39) ∧ ¬ j = 59) ∨ (68 ≤ r ∧ r ≤ 81) ∨ r = 86 ∨ r < 47 ∨ 86 < r
theorem agF_sm {v V : VV} (h : ∀ r j : Int, (r = 50 ∨ r = 54 ∨ r = 55 ∨ r = 58 ∨ r = 59) → V r j = v r j) : ∀ (f : Nat) (t : Int), agF V f t = agF v f t
  | 0, _ => rfl
  | f + 1, t => by
    have e : agF V f = agF v f := funext (agF_sm h f)
    have e55 : (fun k => V 55 (3 * t + k)) = (fun k => v 55 (3 * t + k)) := funext fun k => h 55 _ (by omega)
    unfold agF agB
    rw [e, e55, h 50 _ (by omega), h 54 _ (by omega), h 58 _ (by omega), h 59 _ (by omega)]
theorem ag_sm {v V : VV} (h : ∀ r j : Int, (r = 50 ∨ r = 54 ∨ r = 55 ∨ r = 58 ∨ r = 59) → V r j = v r j) (t : Int) : ag V t = ag v t := agF_sm h 17 t
theorem MT.sm {v V : VV} (hM : MT v) (e0 : V 47 0 = v 47 0) (h : ∀ r j : Int, 48 ≤ r → r ≤ 59 → V r j = v r j) : MT V := fun t t0 t1 => by
  rw [e0] at t1
  have hm := hM t t0 t1
  unfold MTt at hm ⊢
  rw [h 48 t (by omega) (by omega), h 50 t (by omega) (by omega), h 51 t (by omega) (by omega), h 54 t (by omega) (by omega), h 56 t (by omega) (by omega), h 57 t (by omega) (by omega), h 58 t (by omega) (by omega), h 59 t (by omega) (by omega)]
  obtain ⟨m1, m2, m3, m4, m5, m6⟩ := hm
  refine ⟨m1, m2, m3, m4, fun k k0 k1 => ?_, m6⟩
  rw [h 55 _ (by omega) (by omega), h 48 _ (by omega) (by omega)]
  exact m5 k k0 k1
theorem AKr.sm {v V : VV} (hA : AKr v) (e0 : V 47 0 = v 47 0) (e : V 47 59 = v 47 59) (h : ∀ r j : Int, (r = 83 ∨ r = 84 ∨ r = 85) → V r j = v r j) : AKr V := fun a a0 a1 => by
  rw [e] at a1
  rw [e0, h 83 _ (by omega), h 84 _ (by omega), h 85 _ (by omega)]
  exact hA a a0 a1
theorem MIn.rs {G : GT} {E E' : Int} {v V : VV} (h : MIn G E v) (hf : Fr RSc v V) (hb : MB V) (hc : V 47 52 = 0 ∧ V 47 65 = 0 ∧ 0 ≤ V 47 50 ∧ V 47 50 ≤ E') (hT : TX (V 68) (V 47 22)) : MIn G E' V := by
  have e0 : V 47 0 = v 47 0 := hf 47 0 (by unfold RSc; omega)
  have g : ∀ r j : Int, ((48 ≤ r ∧ r ≤ 67) ∨ (82 ≤ r ∧ r ≤ 85)) → V r j = v r j := fun r j hr => hf r j (by unfold RSc; omega)
  have hM := h.1.2.1
  have hTt : ∀ t, isT V t ↔ isT v t := fun t => by unfold isT; rw [e0, g 48 t (by omega)]
  refine h.sm hb (hM.sm e0 (fun r j h1 h2 => g r j (by omega))) e0 (SmT.fr hf (fun r j q => by unfold RSc at q; omega)) (fun t ht => ⟨⟨(hTt t).mp ht.1, by have := ht.2; rw [g 50 t (by omega)] at this; exact this⟩, g 54 t (by omega)⟩) (h.2.1.fr hf (fun j j0 j1 => by unfold RSc; omega)) hc (h.2.2.2.1.sm e0 (hf 47 59 (by unfold RSc; omega)) (fun r j hr => g r j (by omega))) hT (fun t c hc' => ?_)
  refine ⟨⟨(hTt t).mp hc'.1, ?_⟩, g 53 _ (by omega)⟩
  have := hc'.2
  rw [g 51 t (by omega)] at this
  exact this
/-- the reference's scratch may change -/
theorem I1.rs {G : GT} {cC : Int → Nat} {E E' : Int} {X : XX} {vc v V : VV} (h : I1 G cC E X vc v) (hf : Fr RSc v V) (hb : MB V) (hc : V 47 52 = 0 ∧ V 47 65 = 0 ∧ 0 ≤ V 47 50 ∧ V 47 50 ≤ E') (hT : TX (V 68) (V 47 22)) : I1 G cC E' X vc V := by
  obtain ⟨h1, h2, h3, h4, h5⟩ := h
  have e0 : V 47 0 = v 47 0 := hf 47 0 (by unfold RSc; omega)
  have g : ∀ r j : Int, ((48 ≤ r ∧ r ≤ 67) ∨ (82 ≤ r ∧ r ≤ 85)) → V r j = v r j := fun r j hr => hf r j (by unfold RSc; omega)
  have hSm : SmT (v 47 0) v V := SmT.fr hf (fun r j q => by unfold RSc at q; omega)
  have hM := h2.1.2.1
  refine ⟨h1, h2.rs hf hb hc hT, h3.m h4.obj h4.col e0 (fun t => g 48 t (by omega)) hSm (fun t c _ _ _ _ => g 53 _ (by omega)), ⟨fun t t0 t1 hl => ?_, h4.2⟩, h5.m (hf 47 59 (by unfold RSc; omega)) (fun a _ _ => ⟨g 83 a (by omega), g 84 a (by omega), g 85 a (by omega)⟩)⟩
  obtain ⟨k1, k2, k3⟩ := h4.1 t t0 t1 hl
  have ht := (h3.2 t t0 t1).1.mpr hl
  have e := ag_sm (v := v) (V := V) (fun r j hr => g r j (by omega)) t
  refine ⟨k1.m hSm ⟨t0, ht.1⟩ (g 50 t (by omega)) (g 54 t (by omega)) (g 56 t (by omega)) (g 57 t (by omega)) (hM t t0 ht.1).bh (fun s s0 s1 => ?_), by rw [e]; exact k2, by rw [e]; exact k3⟩
  obtain ⟨-, -, m3, -⟩ := hM s s0 s1
  exact ⟨by omega, m3.2⟩
theorem I1.mono {G : GT} {cC : Int → Nat} {E E' : Int} {X : XX} {vc vm : VV} (h : I1 G cC E X vc vm) (hE : E ≤ E') : I1 G cC E' X vc vm := ⟨h.1, h.2.1.mono hE, h.2.2⟩
theorem mp_MB (v : VV) : MB (mp v) = MB v := rfl
theorem mp_MW (v : VV) : MW (mp v) = MW v := rfl
theorem mp_MT (v : VV) : MT (mp v) = MT v := rfl
theorem mp_MS (G : GT) (v : VV) : MS G (mp v) = MS G v := rfl
theorem mp_AKr (v : VV) : AKr (mp v) = AKr v := rfl
theorem mp_MIn (G : GT) (E : Int) (v : VV) : MIn G E (mp v) = MIn G E v := rfl
theorem mp_isT (v : VV) (t : Int) : isT (mp v) t = isT v t := rfl
theorem mp_isC (v : VV) (t c : Int) : isC (mp v) t c = isC v t c := rfl
theorem mp_isS (v : VV) (t : Int) : isS (mp v) t = isS v t := rfl
/-- behind the class's half, the picture is the same for the reference -/
theorem I1.at {G : GT} {cC : Int → Nat} {E : Int} {X : XX} {v w : VV} (h : I1 G cC E X v (mp v)) (e : mp w = mp v) : MIn G E w := by
  have h2 := h.2.1
  rw [← e, mp_MIn] at h2
  exact h2
