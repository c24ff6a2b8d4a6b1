/-! ===== the class: named ===== -/
set_option maxRecDepth 100000 in
set_option maxHeartbeats 4000000 in
theorem k_isOneName {X : XX} {v : VV} {b : Int → Int} {n N : Int} (hW : SW X) (hT : TOK b n N v) : CX mX8_isOneName 1 [(2, 5)] X v (fun o v1 => v1 = v ∧ o = some (0, bI (tK b n 0 = 256 ∧ tL b n 0 ≤ 8 ∧ tK b n 1 = 260))) := by
  have hN := hT.2.1.1
  refine CX.of (by decide +kernel) rfl rfl rfl (bX8_isOneName_0 (Nat.le_refl _) hW ⟨_, k_kind hW hT (Int.le_refl 0) hN, fun r2 w3 hP => ?_⟩)
  obtain ⟨rfl, hr⟩ := hP
  obtain rfl : r2 = tK b n 0 := by simpa using hr
  refine ⟨fun g => ⟨rfl, rfl, ?_⟩, fun g => ⟨_, k_long hW hT (Int.le_refl 0) hN, fun r6 w7 hP => ?_⟩⟩
  · rw [bI_f (fun z => g z.1)]
  · obtain ⟨rfl, hr6⟩ := hP
    obtain rfl : r6 = tL b n 0 := by simpa using hr6
    have h1 := tok_lt hT (x := 0) (by omega)
    refine ⟨fun g2 => ⟨rfl, rfl, ?_⟩, fun g2 => ⟨_, k_kind hW hT (show (0 : Int) ≤ 1 by decide) (by omega), fun r10 w11 hP => ?_⟩⟩
    · rw [bI_f (fun z => by have := z.2.1; omega)]
    · obtain ⟨rfl, hr10⟩ := hP
      obtain rfl : r10 = tK b n 1 := by simpa using hr10
      refine ⟨fun g3 => ⟨rfl, rfl, ?_⟩, fun g3 => ⟨rfl, rfl, ?_⟩⟩
      · rw [bI_f (fun z => g3 z.2.2)]
      · rw [bI_t ⟨g, g2, g3⟩]
set_option maxRecDepth 100000 in
set_option maxHeartbeats 4000000 in
theorem k_named {X : XX} {v vm : VV} {b : Int → Int} {n : Int} {cC : Int → Nat} (hW : SW X) (hX : TX b n) (h11 : v 1 1 = n) (h2 : ∀ i, 0 ≤ i → i < n → v 2 i = b i) (hz : 0 ≤ v 6 1 ∧ 0 ≤ v 8 1 ∧ 0 ≤ v 10 1 ∧ 0 ≤ v 13 1) (hTO : TObj X) (hl : LkR X v vm cC) : CX mX10_named 11 [(2, 0)] X v (fun o v1 => o = some (0, ndR b n vm) ∧ Fr (fun r j => SLx r j ∨ (r = 1 ∧ j = 1)) v v1 ∧ v1 1 1 = 0 ∧ ∃ N, TOK b n N v1) := by
  have hn4 := hX.1
  refine CX.of (by decide +kernel) rfl rfl rfl (bX10_named_0 (Nat.le_refl _) hW ⟨_, k_readAll hW (k_KW hW) hX h11 h2 hz, fun w3 hP => ?_⟩)
  obtain ⟨⟨N, hT3⟩, f3⟩ := hP
  refine ⟨_, k_cut hW (rowS1 hW) 0, fun w7 hP => ?_⟩
  have e7 : w7 = rCut w3 1 0 := hP
  have f7 : Fr (fun r j => r = 1 ∧ j = 1) w3 w7 := fun r j hh => by rw [e7]; exact rCut_n hh
  have t7 : w7 1 1 = 0 := by rw [e7]; exact rCut_0 (by rw [f3 1 1 (by unfold SLx SLt; omega), h11]; omega)
  have hT7 : TOK b n N w7 := hT3.fr f7 (fun r j q => by unfold TOs at q; omega)
  have fa7 : Fr SAc v w7 := (f3.mono (fun r j h q => h (SLx_a q))).via f7 (fun _ _ q => q) (fun r j q => by unfold SAc; omega)
  have fs7 : Fr (fun r j => SLx r j ∨ (r = 1 ∧ j = 1)) v w7 := (f3.mono (fun r j h q => h (Or.inl q))).via f7 (fun _ _ q => q) (fun r j q => Or.inr q)
  refine ⟨_, k_isOneName hW hT7, fun r10 w11 hP => ?_⟩
  obtain ⟨rfl, hr⟩ := hP
  obtain rfl : r10 = bI (tK b n 0 = 256 ∧ tL b n 0 ≤ 8 ∧ tK b n 1 = 260) := by simpa using hr
  refine ⟨fun g => ?_, fun g => ?_⟩
  · rw [bI_n0] at g
    have hok := name_ok hT7 (Int.le_refl 0) g.1 g.2.1
    refine ⟨_, k_name hW hT7 hok.1.1 hok.1.2 hok.2, fun r14 w15 hP => ?_⟩
    obtain ⟨rfl, hr14⟩ := hP
    obtain rfl : r14 = nm32 b n 0 := by simpa using hr14
    refine ⟨_, k_index hW hTO _, fun r18 w19 hP => ?_⟩
    obtain ⟨rfl, hr18⟩ := hP
    have et : tC X w19 (nm32 b n 0) = tN vm (tW b n 0) := by
      rw [tC_fr hTO fa7 (fun r hr => by unfold SAc; omega)]
      exact tC_tN hl (WR_tok hX g.1 g.2.1).1
    obtain rfl : r18 = tN vm (tW b n 0) := by rw [et] at hr18; simpa using hr18
    refine ⟨fun g2 => ⟨rfl, ?_, fs7, t7, N, hT7⟩, fun g2 => ⟨rfl, ?_, fs7, t7, N, hT7⟩⟩
    · unfold ndR; rw [if_pos g, if_neg g2]
    · unfold ndR; rw [if_pos g, if_pos g2]
  · rw [bI_0] at g
    refine ⟨rfl, ?_, fs7, t7, N, hT7⟩
    unfold ndR; rw [if_neg g]
