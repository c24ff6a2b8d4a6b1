/-! ===== the class: a statement read ===== -/
theorem nob {r : Bool × Int} {x : Int} (h : r.1 = true ↔ ¬ x = 0) (g : x = 0) : r.1 = false := by
  cases hh : r.1 with
  | false => rfl
  | true => exact absurd g (h.mp hh)
/-- what reading a source touches -/
def SPs (r j : Int) : Prop := SPa r j ∨ ((r = 17 ∨ r = 19) ∧ j = 1) ∨ r = 18 ∨ r = 20
theorem dzs {v w : VV} (hf : Fr SPs v w) (h1 : 0 ≤ w 17 1) (h2 : 0 ≤ w 19 1) : DSz v → DSz w := fun h => h.of (fun r hr => by
  by_cases z : r = 17 ∨ r = 19
  · refine Or.inr ?_
    rcases z with z | z
    · rw [z]; exact h1
    · rw [z]; exact h2
  · exact Or.inl (hf r 1 (by unfold SPs SPa; omega)))
theorem SPs_TO {r j : Int} (h : TOs r j) : ¬ SPs r j := by unfold TOs at h; unfold SPs SPa; omega
theorem SPa_s {r j : Int} (h : SPa r j) : SPs r j := Or.inl h
/-- c columns of a source stand in the draft -/
def SrC (b : Int → Int) (n : Int) (v : VV) (c : Int) : Prop := v 17 1 = c ∧ v 19 1 = c ∧ ∀ i, 0 ≤ i → i < c → v 18 i = 3 + 3 * i ∧ v 20 i = typ (tW b n (3 + 3 * i + 1)) ∧ tK b n (3 + 3 * i) = 256 ∧ tL b n (3 + 3 * i) ≤ 8
theorem SrC.fr {b : Int → Int} {n c : Int} {v V : VV} (h : SrC b n v c) (hf : Fr SPa v V) : SrC b n V c := ⟨(hf 17 1 (by unfold SPa; omega)).trans h.1, (hf 19 1 (by unfold SPa; omega)).trans h.2.1, fun i i0 i1 => by rw [hf 18 i (by unfold SPa; omega), hf 20 i (by unfold SPa; omega)]; exact h.2.2 i i0 i1⟩
theorem w1_typ {b : Int → Int} {n a : Int} (hT : TX b n) (hk : tK b n a = 256) : ((tL b n a = 1 ∧ (b (tS b n a) = 110 ∨ b (tS b n a) = 116 ∨ b (tS b n a) = 100)) ↔ (tW b n a = 14 ∨ tW b n a = 20 ∨ tW b n a = 4)) ∧ (tL b n a = 1 → tW b n a = b (tS b n a) - 96 ∧ 97 ≤ b (tS b n a) ∧ b (tS b n a) ≤ 122 ∧ nm32 b n a = b (tS b n a) - 96) := by
  have hp := tS_bd b hT.1.1 a
  have hk' : tKind b n (tS b n a) = 256 := hk
  have hn := k256_now hp.2 hp.1 hT (Or.inl hk')
  by_cases h8 : tEnd b n (tS b n a) - tS b n a ≤ 8
  · obtain ⟨w1, w2, w3, w4⟩ := word_tc hp.2 hn h8
    have e1 : tW b n a = cdm 27 (fun i => b (tS b n a + i)) (tL b n a).toNat := w4
    have hL : tL b n a = tEnd b n (tS b n a) - tS b n a := rfl
    have l0 := w3 (tS b n a) (Int.le_refl _) w1
    have one : tL b n a = 1 → tW b n a = b (tS b n a) - 96 ∧ nm32 b n a = b (tS b n a) - 96 := fun h1 => by
      have e : ∀ m : Int, cdm m (fun i => b (tS b n a + i)) 1 = b (tS b n a) - 96 := fun m => by
        show m * 0 + (b (tS b n a + ((0 : Nat) : Int)) - 96) = _
        rw [show tS b n a + ((0 : Nat) : Int) = tS b n a by omega, Int.mul_zero]
        omega
      refine ⟨?_, ?_⟩
      · rw [e1, h1]; exact e 27
      · unfold nm32
        rw [if_pos (by omega), h1]; exact e 32
    have big : ¬ tL b n a = 1 → 27 < tW b n a := fun h1 => by
      have e2 : (tL b n a).toNat = ((tL b n a).toNat - 2) + 1 + 1 := by omega
      rw [e1, e2]
      have hb := cdm_bd (m := 27) (by decide) (f := fun i => b (tS b n a + i)) ((tL b n a).toNat - 2) (fun i i0 i1 => w3 _ (by omega) (by omega))
      have q1 := w3 (tS b n a + (((tL b n a).toNat - 2 : Nat) : Int)) (by omega) (by omega)
      have q2 := w3 (tS b n a + (((tL b n a).toNat - 2 + 1 : Nat) : Int)) (by omega) (by omega)
      show 27 < 27 * (27 * cdm 27 (fun i => b (tS b n a + i)) ((tL b n a).toNat - 2) + (b (tS b n a + (((tL b n a).toNat - 2 : Nat) : Int)) - 96)) + (b (tS b n a + (((tL b n a).toNat - 2 + 1 : Nat) : Int)) - 96)
      omega
    refine ⟨⟨fun h => ?_, fun h => ?_⟩, fun h => ⟨(one h).1, l0.1, l0.2, (one h).2⟩⟩
    · have := (one h.1).1; omega
    · by_cases h1 : tL b n a = 1
      · have := (one h1).1; exact ⟨h1, by omega⟩
      · have := big h1; omega
  · have hL : tL b n a = tEnd b n (tS b n a) - tS b n a := rfl
    refine ⟨⟨fun h => by omega, fun h => ?_⟩, fun h => by omega⟩
    exfalso
    have : tW b n a = 0 := by
      have hw : tW b n a = lWord b n (tS b n a) := rfl
      rw [hw]
      rcases tcase b hp.2 with q | q | q | q | q
      · have := q.2.1; omega
      · rcases q.2.2.2.2.2 with z | z
        · omega
        · exact z.2.2.1
      · have := q.2.2.1; omega
      · have := q.2.2.1; omega
      · have := q.2.2.1
        have := q.2.1
        omega
    omega
theorem k_nameOf {X : XX} {v : VV} (hW : SW X) (i : Int) (hi : 0 ≤ i ∧ i < 401) : CX mX8_nameOf 0 [(2, 5), (0, i)] X v (fun o v1 => v1 = v ∧ o = some (1, v 12 i)) := by
  refine CX.of (by decide +kernel) rfl rfl rfl (bX8_nameOf_0 i (Nat.le_refl _) hW (fun _ => ⟨fun g => by omega, fun g => ⟨fun g2 => by omega, fun g2 => ⟨⟨by omega, by omega⟩, rfl, rfl, rfl⟩⟩⟩))
theorem k_isType {X : XX} {v : VV} (hW : SW X) (x : Int) : CX mX10_isType 0 [(0, x)] X v (fun o v1 => v1 = v ∧ o = some (0, bI (x = 110 ∨ x = 116 ∨ x = 100))) := by
  refine CX.of (by decide +kernel) rfl rfl rfl (bX10_isType_0 x (Nat.le_refl _) hW (fun _ => ⟨fun g => ⟨rfl, rfl, ?_⟩, fun g => ⟨fun g2 => ⟨rfl, rfl, ?_⟩, fun g2 => ⟨fun g3 => ⟨rfl, rfl, ?_⟩, fun g3 => ⟨rfl, rfl, ?_⟩⟩⟩⟩))
  · rw [bI_t (by omega)]
  · rw [bI_t (by omega)]
  · rw [bI_f (by omega)]
  · rw [bI_t (by omega)]
set_option maxRecDepth 100000 in
set_option maxHeartbeats 4000000 in
theorem k_takeType {X : XX} {v : VV} {b : Int → Int} {n N a c : Int} (hW : SW X) (h : PA b n N a v) (hc : v 19 1 = c) (hc6 : 0 ≤ c ∧ c < 6) : CX mX4_takeType 1 [(2, 3)] X v (fun o v1 => PP b n N (fun r j => SPa r j ∨ (r = 19 ∧ j = 1) ∨ (r = 20 ∧ j = c)) v (rType b n a) o v1 ∧ ((rType b n a).1 = true → v1 19 1 = c + 1 ∧ v1 20 c = typ (tW b n a))) := by
  obtain ⟨h1, h2, h3, h4⟩ := id h
  have hN := h1.2.1
  have no : rType b n a = (false, tS b n a) → PP b n N (fun r j => SPa r j ∨ (r = 19 ∧ j = 1) ∨ (r = 20 ∧ j = c)) v (rType b n a) (some (0, 0)) v ∧ ((rType b n a).1 = true → v 19 1 = c + 1 ∧ v 20 c = typ (tW b n a)) := fun e => by
    rw [e]; exact ⟨PP.no h Fr.rf id, fun q => Bool.noConfusion q⟩
  refine CX.of (by decide +kernel) rfl rfl rfl (bX4_takeType_0 (Nat.le_refl _) hW ?_)
  rw [h2]
  refine ⟨_, k_kind hW h1 h3.1 h3.2, fun r2 w3 hP => ?_⟩
  obtain ⟨rfl, hr⟩ := hP
  obtain rfl : r2 = tK b n a := by simpa using hr
  rw [h2]
  refine ⟨fun g => ⟨rfl, no (if_neg (fun z => g z.1))⟩, fun g => ⟨_, k_long hW h1 h3.1 h3.2, fun r6 w7 hP => ?_⟩⟩
  obtain ⟨rfl, hr6⟩ := hP
  obtain rfl : r6 = tL b n a := by simpa using hr6
  obtain ⟨t1, t2⟩ := w1_typ h1.1 g
  have hal := h.lt (by omega)
  rw [h2]
  refine ⟨fun g2 => ⟨_, k_nameOf hW a ⟨h3.1, by omega⟩, fun r10 w11 hP => ?_⟩, fun g2 => ⟨rfl, no (if_neg (fun z => g2 (t1.mpr z.2).1))⟩⟩
  obtain ⟨rfl, hr10⟩ := hP
  obtain rfl : r10 = w11 12 a := by simpa using hr10
  obtain ⟨q1, q2, q3, q4⟩ := t2 g2
  have e12 : w11 12 a = b (tS b n a) - 96 := by rw [h1.2.2.2.2.1 a h3.1 hal q2 q3, q4]
  have ex : w11 12 a - 1 + 97 = b (tS b n a) := by omega
  rw [ex, e12]
  refine ⟨⟨by omega, by omega⟩, fun _ => ⟨by omega, by omega⟩, fun _ => ⟨by omega, by omega⟩, _, k_isType hW _, fun r14 w15 hP => ?_⟩
  obtain ⟨rfl, hr14⟩ := hP
  obtain rfl : r14 = bI (b (tS b n a) = 110 ∨ b (tS b n a) = 116 ∨ b (tS b n a) = 100) := by simpa using hr14
  refine ⟨fun g3 => ?_, fun g3 => ⟨rfl, no (if_neg (fun z => ?_))⟩⟩
  · rw [bI_n0] at g3
    have hty := t1.mp ⟨g2, g3⟩
    have eR : rType b n a = (true, a + 1) := if_pos ⟨g, hty⟩
    have etyp : typ (tW b n a) = b (tS b n a) := by unfold typ; (repeat' split) <;> omega
    refine ⟨_, k_add hW (rowS19 hW) (by decide) ⟨by omega, by omega⟩ _, fun w19 hP => ?_⟩
    have e19 : w19 = rAdd w15 19 20 (b (tS b n a)) := hP
    have e31 : w19 3 1 = a := by rw [e19, rAdd_n (by decide) (by decide)]; exact h2
    have f19 : Fr (fun r j => SPa r j ∨ (r = 19 ∧ j = 1) ∨ (r = 20 ∧ j = c)) w15 w19 := by
      rw [e19]
      unfold rAdd
      rw [hc]
      exact (Fr.rf.up (Or.inr (Or.inr ⟨rfl, rfl⟩))).up (Or.inr (Or.inl ⟨rfl, rfl⟩))
    have hA : PA b n N a w19 := ⟨h1.fr f19 (fun r j q => by unfold TOs at q; unfold SPa; omega), e31, h3, (by rw [e19, rAdd_n (by decide) (by decide)]; exact h4)⟩
    rw [e31, eR]
    refine ⟨fun _ => ⟨by omega, by omega⟩, rfl, PP.ok (hA.up (by omega)) (f19.up (Or.inl (by unfold SPa; omega))), fun _ => ⟨?_, ?_⟩⟩
    · rw [upd2_n _ (by omega), e19, rAdd_1, hc]
    · rw [upd2_n _ (by omega), e19, rAdd_c (by decide), hc, if_pos rfl, etyp]
  · rw [bI_0] at g3
    exact g3 (t1.mpr z.2).2
