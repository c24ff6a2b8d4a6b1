/-! ===== the class: small answers ===== -/
theorem k_tableAt {X : XX} {v : VV} (hW : SW X) (t : Int) : CX mX10_tableAt 0 [(2, 0), (0, t)] X v (fun o v1 => v1 = v ∧ o = some (2, if 0 ≤ t ∧ t < 16 then X.2 37 t else -1)) := by
  refine CX.of (by decide +kernel) rfl rfl rfl (bX10_tableAt_0 t (Nat.le_refl _) hW (fun _ => ⟨fun g => ⟨rfl, rfl, ?_⟩, fun g => ⟨fun g2 => ⟨rfl, rfl, ?_⟩, fun g2 => ⟨⟨g, g2⟩, rfl, rfl, ?_⟩⟩⟩))
  · rw [if_neg (by omega)]
  · rw [if_neg (by omega)]
  · rw [if_pos ⟨g, g2⟩]
theorem k_columnCount {X : XX} {v : VV} {o cn : Int} {C : Nat} (hW : SW X) (h7 : X.1.2 o = (7, 0) ∧ (0 ≤ o ∧ o < X.1.1)) (hc : X.2 o 1 = cn ∧ X.1.2 cn = (101, C) ∧ (0 ≤ cn ∧ cn < X.1.1)) : CX mX7_columnCount 0 [(2, o)] X v (fun o1 v1 => v1 = v ∧ o1 = some (0, (C : Int))) := by
  obtain ⟨rfl, c2, c3⟩ := hc
  exact CX.of (by decide +kernel) rfl rfl rfl (bX7_columnCount_0 o (Nat.le_refl _) hW ⟨h7.1, h7.2, C, c2, c3, rfl, rfl, rfl⟩)
/-- table t has a column c -/
def hasC (X : XX) (cC : Int → Nat) (t c : Int) : Prop := (0 ≤ t ∧ t < 16 ∧ ¬ X.2 37 t = -1) ∧ 0 ≤ c ∧ c < cC t
set_option maxRecDepth 100000 in
set_option maxHeartbeats 4000000 in
theorem k_hasColumn {X : XX} {v : VV} {cC : Int → Nat} (hW : SW X) (hTO : TObj X) (hTC : TCol X cC) (t c : Int) : CX mX10_hasColumn 1 [(2, 0), (0, t), (0, c)] X v (fun o v1 => v1 = v ∧ o = some (0, bI (hasC X cC t c))) := by
  refine CX.of (by decide +kernel) rfl rfl rfl (bX10_hasColumn_0 t c (Nat.le_refl _) hW (fun _ _ => ⟨_, k_tableAt hW t, fun r2 w3 hP => ?_⟩))
  obtain ⟨rfl, hr⟩ := hP
  obtain rfl : r2 = (if 0 ≤ t ∧ t < 16 then X.2 37 t else -1) := by simpa using hr
  by_cases ht : 0 ≤ t ∧ t < 16
  · rw [if_pos ht]
    refine ⟨fun g => ⟨rfl, rfl, ?_⟩, fun g => ⟨fun g2 => ⟨rfl, rfl, ?_⟩, fun g2 => ?_⟩⟩
    · rw [bI_f (fun z => z.1.2.2 g)]
    · rw [bI_f (fun z => by have := z.2.1; omega)]
    · rcases hTO t ht.1 ht.2 with z | ⟨z1, z2⟩
      · exact absurd z g
      rcases hTC t ht.1 ht.2 with z | ⟨⟨y1, y2⟩, -⟩
      · exact absurd z g
      refine ⟨z1, ⟨by omega, z2.2⟩, _, k_columnCount hW ⟨z1, by omega, z2.2⟩ ⟨rfl, y1, by omega, y2.2⟩, fun r7 w8 hP => ?_⟩
      obtain ⟨rfl, hr7⟩ := hP
      obtain rfl : r7 = (cC t : Int) := by simpa using hr7
      refine ⟨fun g3 => ⟨rfl, rfl, ?_⟩, fun g3 => ⟨rfl, rfl, ?_⟩⟩
      · rw [bI_f (fun z => by have := z.2.2; omega)]
      · rw [bI_t ⟨⟨ht.1, ht.2, g⟩, g2, g3⟩]
  · rw [if_neg ht]
    refine ⟨fun _ => ⟨rfl, rfl, ?_⟩, fun g => absurd rfl g⟩
    rw [bI_f (fun z => ht ⟨z.1.1, z.1.2.1⟩)]
set_option maxRecDepth 100000 in
set_option maxHeartbeats 4000000 in
theorem k_type {X : XX} {v : VV} {cC : Int → Nat} (hW : SW X) (hTO : TObj X) (hTC : TCol X cC) (t c : Int) : CX mX10_type 2 [(2, 0), (0, t), (0, c)] X v (fun o v1 => v1 = v ∧ ((hasC X cC t c ∧ o = some (0, v 38 (8 * t + c))) ∨ (¬ hasC X cC t c ∧ o = some (0, -1)))) := by
  refine CX.of (by decide +kernel) rfl rfl rfl (bX10_type_0 t c (Nat.le_refl _) hW (fun _ _ => ⟨_, k_hasColumn hW hTO hTC t c, fun r2 w3 hP => ?_⟩))
  obtain ⟨rfl, hr⟩ := hP
  obtain rfl : r2 = bI (hasC X cC t c) := by simpa using hr
  refine ⟨fun g => ⟨rfl, rfl, Or.inr ⟨bI_0.mp g, rfl⟩⟩, fun g => ?_⟩
  rw [bI_n0] at g
  obtain ⟨⟨t0, t1, t2⟩, c0, c1⟩ := id g
  have h6 : cC t ≤ 6 := (hTC t t0 t1).elim (fun z => absurd z t2) (fun z => z.2.2)
  refine ⟨⟨by omega, by omega⟩, fun _ => ⟨by omega, by omega⟩, ⟨by omega, by omega⟩, rfl, rfl, Or.inl ⟨g, ?_⟩⟩
  rw [show t * 8 + c = 8 * t + c by omega]
theorem k_today {X : XX} {v : VV} (hW : SW X) (a1 : Int) : CX mX10_today 0 [(2, 0), (0, a1)] X v (fun o v1 => (v1 = if v 0 13 ≤ a1 ∧ a1 ≤ 30000 then upd2 v 0 13 a1 else v) ∧ o = some (0, if v 0 13 ≤ a1 ∧ a1 ≤ 30000 then 1 else 0)) := by
  refine CX.of (by decide +kernel) rfl rfl rfl (bX10_today_0 a1 (Nat.le_refl _) hW (fun _ => ⟨fun g => ⟨rfl, ?_, ?_⟩, fun g => ⟨fun g2 => ⟨rfl, ?_, ?_⟩, fun g2 => ⟨rfl, ?_, ?_⟩⟩⟩))
  · rw [if_neg (by omega)]
  · rw [if_neg (by omega)]
  · rw [if_pos ⟨g, g2⟩]
  · rw [if_pos ⟨g, g2⟩]
  · rw [if_neg (by omega)]
  · rw [if_neg (by omega)]
theorem k_fault {X : XX} {v : VV} (hW : SW X) (a1 : Int) : CX mX10_fault 0 [(2, 0), (0, a1)] X v (fun o v1 => v1 = v ∧ o = some (0, if a1 = 0 then v 0 14 else if a1 = 1 then v 0 15 else -1)) := by
  refine CX.of (by decide +kernel) rfl rfl rfl (bX10_fault_0 a1 (Nat.le_refl _) hW (fun _ => ⟨fun g => ⟨fun g2 => ⟨rfl, rfl, ?_⟩, fun g2 => ⟨rfl, rfl, ?_⟩⟩, fun g => ⟨rfl, rfl, ?_⟩⟩))
  · rw [if_neg g, if_neg g2]
  · rw [if_neg g, if_pos g2]
  · rw [if_pos g]
set_option maxRecDepth 100000 in
set_option maxHeartbeats 4000000 in
theorem k_end {X : XX} {v : VV} (hW : SW X) (a1 : Int) : CX mX10_end 1 [(2, 0), (0, a1)] X v (fun o v1 => (v1 = if 0 ≤ a1 ∧ a1 ≤ v 1 1 then (if a1 < v 1 1 then upd2 v 1 1 a1 else v) else v) ∧ o = some (0, if 0 ≤ a1 ∧ a1 ≤ v 1 1 then 1 else 0)) := by
  refine CX.of (by decide +kernel) rfl rfl rfl (bX10_end_0 a1 (Nat.le_refl _) hW (fun _ => ⟨fun g => ⟨rfl, ?_, ?_⟩, fun g => ⟨_, k_size hW (rowS1 hW), fun r2 w3 hP => ?_⟩⟩))
  · rw [if_neg (by omega)]
  · rw [if_neg (by omega)]
  · obtain ⟨rfl, hr⟩ := hP
    obtain rfl : r2 = w3 1 1 := by simpa using hr
    refine ⟨fun g2 => ⟨_, k_cut hW (rowS1 hW) a1, fun w7 hP => ?_⟩, fun g2 => ⟨rfl, ?_, ?_⟩⟩
    · have e : w7 = rCut w3 1 a1 := hP
      refine ⟨rfl, ?_, ?_⟩
      · rw [e, if_pos ⟨g, g2⟩]
        unfold rCut
        by_cases h : a1 < w3 1 1
        · rw [if_pos ⟨g, h⟩, if_pos h]
        · rw [if_neg (fun z => h z.2), if_neg h]
      · rw [if_pos ⟨g, g2⟩]
    · rw [if_neg (by omega)]
    · rw [if_neg (by omega)]
