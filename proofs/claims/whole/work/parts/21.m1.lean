/-! ===== the reference's small methods ===== -/
def isT (v : VV) (t : Int) : Prop := 0 ≤ t ∧ t < v 47 0 ∧ ¬ v 48 t = 0
def isC (v : VV) (t c : Int) : Prop := isT v t ∧ 0 ≤ c ∧ c < v 51 t
/-- numbers of the catalogue in their ranges -/
def MB (v : VV) : Prop := (0 ≤ v 47 0 ∧ v 47 0 ≤ 16) ∧ (0 ≤ v 47 22 ∧ v 47 22 ≤ 400) ∧ (0 ≤ v 47 57 ∧ v 47 57 ≤ 136) ∧ (0 ≤ v 47 59 ∧ v 47 59 ≤ 40) ∧ (0 ≤ v 47 64 ∧ v 47 64 ≤ 30000)
set_option maxRecDepth 100000 in
set_option maxHeartbeats 4000000 in
theorem c_isTable {X : XX} {v : VV} (hW : SW X) (hn : v 47 0 ≤ 16) (a1 : Int) : CX mX11_isTable 0 [(2, 47), (0, a1)] X v (fun o v1 => v1 = v ∧ o = some (0, bI (isT v a1))) := by
  refine CX.of (by decide +kernel) rfl rfl rfl (bX11_isTable_0 a1 (Nat.le_refl _) hW ?_)
  intro g1
  have g1a := g1.1
  have g1b := g1.2
  refine ⟨fun g2 => ?_, fun g3 => ?_⟩
  · refine ⟨rfl, rfl, ?_⟩
    congr 2
    first | exact (bI_f (by unfold isT at *; omega)).symm | exact (bI_t (by unfold isT at *; omega)).symm
  · refine ⟨fun g4 => ?_, fun g5 => ?_⟩
    · refine ⟨rfl, rfl, ?_⟩
      congr 2
      first | exact (bI_f (by unfold isT at *; omega)).symm | exact (bI_t (by unfold isT at *; omega)).symm
    · refine ⟨⟨by omega, by omega⟩, ?_⟩
      refine ⟨fun g6 => ?_, fun g7 => ?_⟩
      · refine ⟨rfl, rfl, ?_⟩
        congr 2
        first | exact (bI_f (by unfold isT at *; omega)).symm | exact (bI_t (by unfold isT at *; omega)).symm
      · refine ⟨rfl, rfl, ?_⟩
        congr 2
        first | exact (bI_f (by unfold isT at *; omega)).symm | exact (bI_t (by unfold isT at *; omega)).symm
set_option maxRecDepth 100000 in
set_option maxHeartbeats 4000000 in
theorem c_isColumn {X : XX} {v : VV} (hW : SW X) (hn : v 47 0 ≤ 16) (a1 a2 : Int) : CX mX11_isColumn 1 [(2, 47), (0, a1), (0, a2)] X v (fun o v1 => v1 = v ∧ o = some (0, bI (isC v a1 a2))) := by
  refine CX.of (by decide +kernel) rfl rfl rfl (bX11_isColumn_0 a1 a2 (Nat.le_refl _) hW ?_)
  intro g1
  have g1a := g1.1
  have g1b := g1.2
  intro g2
  have g2a := g2.1
  have g2b := g2.2
  refine ⟨_, c_isTable hW (by omega) a1, fun r2 w3 hP => ?_⟩
  obtain ⟨rfl, hr⟩ := hP
  obtain rfl : r2 = bI (isT w3 a1) := by simpa using hr
  refine ⟨fun g3 => ?_, fun g4 => ?_⟩
  · rw [bI_0] at g3
    refine ⟨rfl, rfl, ?_⟩
    congr 2
    first | exact (bI_f (by unfold isC isT at *; omega)).symm | exact (bI_t (by unfold isC isT at *; omega)).symm
  · rw [bI_n0] at g4
    refine ⟨fun g5 => ?_, fun g6 => ?_⟩
    · refine ⟨rfl, rfl, ?_⟩
      congr 2
      first | exact (bI_f (by unfold isC isT at *; omega)).symm | exact (bI_t (by unfold isC isT at *; omega)).symm
    · refine ⟨(by unfold isT at *; omega), ?_⟩
      refine ⟨fun g7 => ?_, fun g8 => ?_⟩
      · refine ⟨rfl, rfl, ?_⟩
        congr 2
        first | exact (bI_f (by unfold isC isT at *; omega)).symm | exact (bI_t (by unfold isC isT at *; omega)).symm
      · refine ⟨rfl, rfl, ?_⟩
        congr 2
        first | exact (bI_f (by unfold isC isT at *; omega)).symm | exact (bI_t (by unfold isC isT at *; omega)).symm
set_option maxRecDepth 100000 in
set_option maxHeartbeats 4000000 in
theorem c_isLetter {X : XX} {v : VV} (hW : SW X) (a1 : Int) : CX mX11_isLetter 0 [(0, a1)] X v (fun o v1 => v1 = v ∧ o = some (0, bI (97 ≤ a1 ∧ a1 ≤ 122))) := by
  refine CX.of (by decide +kernel) rfl rfl rfl (bX11_isLetter_0 a1 (Nat.le_refl _) hW ?_)
  intro g1
  have g1a := g1.1
  have g1b := g1.2
  refine ⟨fun g2 => ?_, fun g3 => ?_⟩
  · refine ⟨rfl, rfl, ?_⟩
    congr 2
    first | exact (bI_f (by omega)).symm | exact (bI_t (by omega)).symm
  · refine ⟨fun g4 => ?_, fun g5 => ?_⟩
    · refine ⟨rfl, rfl, ?_⟩
      congr 2
      first | exact (bI_f (by omega)).symm | exact (bI_t (by omega)).symm
    · refine ⟨rfl, rfl, ?_⟩
      congr 2
      first | exact (bI_f (by omega)).symm | exact (bI_t (by omega)).symm
set_option maxRecDepth 100000 in
set_option maxHeartbeats 4000000 in
theorem c_isDigit {X : XX} {v : VV} (hW : SW X) (a1 : Int) : CX mX11_isDigit 0 [(0, a1)] X v (fun o v1 => v1 = v ∧ o = some (0, bI (48 ≤ a1 ∧ a1 ≤ 57))) := by
  refine CX.of (by decide +kernel) rfl rfl rfl (bX11_isDigit_0 a1 (Nat.le_refl _) hW ?_)
  intro g1
  have g1a := g1.1
  have g1b := g1.2
  refine ⟨fun g2 => ?_, fun g3 => ?_⟩
  · refine ⟨rfl, rfl, ?_⟩
    congr 2
    first | exact (bI_f (by omega)).symm | exact (bI_t (by omega)).symm
  · refine ⟨fun g4 => ?_, fun g5 => ?_⟩
    · refine ⟨rfl, rfl, ?_⟩
      congr 2
      first | exact (bI_f (by omega)).symm | exact (bI_t (by omega)).symm
    · refine ⟨rfl, rfl, ?_⟩
      congr 2
      first | exact (bI_f (by omega)).symm | exact (bI_t (by omega)).symm
set_option maxRecDepth 100000 in
set_option maxHeartbeats 4000000 in
theorem c_isBlank {X : XX} {v : VV} (hW : SW X) (a1 : Int) : CX mX11_isBlank 0 [(0, a1)] X v (fun o v1 => v1 = v ∧ o = some (0, bI (a1 = 10 ∨ a1 = 32))) := by
  refine CX.of (by decide +kernel) rfl rfl rfl (bX11_isBlank_0 a1 (Nat.le_refl _) hW ?_)
  intro g1
  have g1a := g1.1
  have g1b := g1.2
  refine ⟨fun g2 => ?_, fun g3 => ?_⟩
  · refine ⟨rfl, rfl, ?_⟩
    congr 2
    first | exact (bI_f (by omega)).symm | exact (bI_t (by omega)).symm
  · refine ⟨fun g4 => ?_, fun g5 => ?_⟩
    · refine ⟨rfl, rfl, ?_⟩
      congr 2
      first | exact (bI_f (by omega)).symm | exact (bI_t (by omega)).symm
    · refine ⟨rfl, rfl, ?_⟩
      congr 2
      first | exact (bI_f (by omega)).symm | exact (bI_t (by omega)).symm
set_option maxRecDepth 100000 in
set_option maxHeartbeats 4000000 in
theorem c_fault {X : XX} {v : VV} (hW : SW X) (a1 : Int) : CX mX11_fault 0 [(2, 47), (0, a1)] X v (fun o v1 => v1 = v ∧ o = some (0, if a1 = 0 then v 47 27 else if a1 = 1 then v 47 28 else -1)) := by
  refine CX.of (by decide +kernel) rfl rfl rfl (bX11_fault_0 a1 (Nat.le_refl _) hW ?_)
  intro g1
  have g1a := g1.1
  have g1b := g1.2
  refine ⟨fun g2 => ?_, fun g3 => ?_⟩
  · refine ⟨fun g4 => ?_, fun g5 => ?_⟩
    · exact ⟨rfl, rfl, by simp [*]⟩
    · exact ⟨rfl, rfl, by simp [*]⟩
  · exact ⟨rfl, rfl, by simp [*]⟩
set_option maxRecDepth 100000 in
set_option maxHeartbeats 4000000 in
theorem c_found {X : XX} {v : VV} (hW : SW X) (hb : MB v) (a1 : Int) : CX mX11_found 0 [(2, 47), (0, a1)] X v (fun o v1 => v1 = v ∧ o = some (0, if 0 ≤ a1 ∧ a1 < v 47 57 then v 81 a1 else -1)) := by
  refine CX.of (by decide +kernel) rfl rfl rfl (bX11_found_0 a1 (Nat.le_refl _) hW ?_)
  have hb3 := hb.2.2.1
  intro g1
  have g1a := g1.1
  have g1b := g1.2
  refine ⟨fun g2 => ?_, fun g3 => ?_⟩
  · exact ⟨rfl, rfl, by first | rw [if_pos (by omega)] | rw [if_neg (by omega)]⟩
  · refine ⟨fun g4 => ?_, fun g5 => ?_⟩
    · exact ⟨rfl, rfl, by first | rw [if_pos (by omega)] | rw [if_neg (by omega)]⟩
    · refine ⟨⟨by omega, by omega⟩, ?_⟩
      exact ⟨rfl, rfl, by first | rw [if_pos (by omega)] | rw [if_neg (by omega)]⟩
set_option maxRecDepth 100000 in
set_option maxHeartbeats 4000000 in
theorem c_end {X : XX} {v : VV} (hW : SW X) (a1 : Int) : CX mX11_end 0 [(2, 47), (0, a1)] X v (fun o v1 => (v1 = if 0 ≤ a1 ∧ a1 ≤ v 47 22 then upd2 v 47 22 a1 else v) ∧ o = some (0, if 0 ≤ a1 ∧ a1 ≤ v 47 22 then 1 else 0)) := by
  refine CX.of (by decide +kernel) rfl rfl rfl (bX11_end_0 a1 (Nat.le_refl _) hW ?_)
  intro g1
  have g1a := g1.1
  have g1b := g1.2
  refine ⟨fun g2 => ?_, fun g3 => ?_⟩
  · exact ⟨rfl, by first | rw [if_pos (by omega)] | rw [if_neg (by omega)], by first | rw [if_pos (by omega)] | rw [if_neg (by omega)]⟩
  · refine ⟨fun g4 => ?_, fun g5 => ?_⟩
    · exact ⟨rfl, by first | rw [if_pos (by omega)] | rw [if_neg (by omega)], by first | rw [if_pos (by omega)] | rw [if_neg (by omega)]⟩
    · exact ⟨rfl, by first | rw [if_pos (by omega)] | rw [if_neg (by omega)], by first | rw [if_pos (by omega)] | rw [if_neg (by omega)]⟩
set_option maxRecDepth 100000 in
set_option maxHeartbeats 4000000 in
theorem c_today {X : XX} {v : VV} (hW : SW X) (a1 : Int) : CX mX11_today 0 [(2, 47), (0, a1)] X v (fun o v1 => (v1 = if v 47 64 ≤ a1 ∧ a1 ≤ 30000 then upd2 v 47 64 a1 else v) ∧ o = some (0, if v 47 64 ≤ a1 ∧ a1 ≤ 30000 then 1 else 0)) := by
  refine CX.of (by decide +kernel) rfl rfl rfl (bX11_today_0 a1 (Nat.le_refl _) hW ?_)
  intro g1
  have g1a := g1.1
  have g1b := g1.2
  refine ⟨fun g2 => ?_, fun g3 => ?_⟩
  · exact ⟨rfl, by first | rw [if_pos (by omega)] | rw [if_neg (by omega)], by first | rw [if_pos (by omega)] | rw [if_neg (by omega)]⟩
  · refine ⟨fun g4 => ?_, fun g5 => ?_⟩
    · exact ⟨rfl, by first | rw [if_pos (by omega)] | rw [if_neg (by omega)], by first | rw [if_pos (by omega)] | rw [if_neg (by omega)]⟩
    · exact ⟨rfl, by first | rw [if_pos (by omega)] | rw [if_neg (by omega)], by first | rw [if_pos (by omega)] | rw [if_neg (by omega)]⟩
def mFail (v : VV) (k p : Int) : VV := if v 47 25 = 0 then upd2 (upd2 v 47 25 k) 47 26 p else v
def mMeans (v : VV) (k p : Int) : VV := if ¬ v 47 25 = 0 ∧ v 47 26 ≤ p then v else upd2 (upd2 v 47 25 k) 47 26 p
set_option maxRecDepth 100000 in
set_option maxHeartbeats 4000000 in
theorem c_fail {X : XX} {v : VV} (hW : SW X) (a1 a2 : Int) : CX mX11_fail 0 [(2, 47), (0, a1), (0, a2)] X v (fun o v1 => v1 = mFail v a1 a2) := by
  refine CX.of (by decide +kernel) rfl rfl rfl (bX11_fail_0 a1 a2 (Nat.le_refl _) hW ?_)
  intro g1
  have g1a := g1.1
  have g1b := g1.2
  intro g2
  have g2a := g2.1
  have g2b := g2.2
  refine ⟨fun g3 => ?_, fun g4 => ?_⟩
  · exact ⟨rfl, by unfold mFail; first | rw [if_pos (by omega)] | rw [if_neg (by omega)]⟩
  · exact ⟨rfl, by unfold mFail; first | rw [if_pos (by omega)] | rw [if_neg (by omega)]⟩
set_option maxRecDepth 100000 in
set_option maxHeartbeats 4000000 in
theorem c_means {X : XX} {v : VV} (hW : SW X) (a1 a2 : Int) : CX mX11_means 0 [(2, 47), (0, a1), (0, a2)] X v (fun o v1 => v1 = mMeans v a1 a2) := by
  refine CX.of (by decide +kernel) rfl rfl rfl (bX11_means_0 a1 a2 (Nat.le_refl _) hW ?_)
  intro g1
  have g1a := g1.1
  have g1b := g1.2
  intro g2
  have g2a := g2.1
  have g2b := g2.2
  refine ⟨fun g3 => ?_, fun g4 => ?_⟩
  · exact bX11_means_16 a1 a2 (Nat.le_refl _) hW (fun _ _ => ⟨rfl, by unfold mMeans; rw [if_neg (by omega)]⟩)
  · refine ⟨fun g5 => ?_, fun g6 => ?_⟩
    · exact bX11_means_16 a1 a2 (Nat.le_refl _) hW (fun _ _ => ⟨rfl, by unfold mMeans; rw [if_neg (by omega)]⟩)
    · exact ⟨rfl, by unfold mMeans; first | rw [if_pos (by omega)] | rw [if_neg (by omega)]⟩
set_option maxRecDepth 100000 in
set_option maxHeartbeats 4000000 in
theorem c_wrong {X : XX} {v : VV} (hW : SW X) (he : -2000000000 ≤ v 47 50 ∧ v 47 50 ≤ 2000000000) (a1 : Int) : CX mX11_wrong 1 [(2, 47), (0, a1)] X v (fun o v1 => v1 = if v 47 52 = 0 then upd2 v 47 50 (v 47 50 + 1) else mMeans (upd2 v 47 50 (v 47 50 + 1)) 3 a1) := by
  refine CX.of (by decide +kernel) rfl rfl rfl (bX11_wrong_0 a1 (Nat.le_refl _) hW ?_)
  intro g1
  have g1a := g1.1
  have g1b := g1.2
  refine ⟨(fun ⟨_, _⟩ => ⟨by omega, by omega⟩), ?_⟩
  refine ⟨fun g2 => ?_, fun g3 => ?_⟩
  · exact ⟨rfl, by first | rw [if_pos (by omega)] | (rw [if_neg (by omega)])⟩
  · refine ⟨_, c_means hW 3 a1, fun w3 hP => ?_⟩
    obtain rfl := hP
    exact ⟨rfl, by rw [if_neg (by omega)]⟩
set_option maxRecDepth 100000 in
set_option maxHeartbeats 4000000 in
theorem c_isWord {X : XX} {v : VV} (hW : SW X) (a1 : Int) : CX mX11_isWord 0 [(2, 47), (1, a1)] X v (fun o v1 => v1 = v ∧ o = some (0, bI (v 47 29 = 1 ∧ v 47 32 = a1))) := by
  refine CX.of (by decide +kernel) rfl rfl rfl (bX11_isWord_0 a1 (Nat.le_refl _) hW ?_)
  refine ⟨fun g1 => ?_, fun g2 => ?_⟩
  · refine ⟨rfl, rfl, ?_⟩
    congr 2
    first | exact (bI_f (by omega)).symm | exact (bI_t (by omega)).symm
  · refine ⟨fun g3 => ?_, fun g4 => ?_⟩
    · refine ⟨rfl, rfl, ?_⟩
      congr 2
      first | exact (bI_f (by omega)).symm | exact (bI_t (by omega)).symm
    · refine ⟨rfl, rfl, ?_⟩
      congr 2
      first | exact (bI_f (by omega)).symm | exact (bI_t (by omega)).symm
def isNm (v : VV) : Prop := v 47 29 = 1 ∧ v 47 31 = -1 ∧ ¬ v 47 32 = v 47 33 ∧ ¬ v 47 32 = v 47 34 ∧ ¬ v 47 32 = v 47 35 ∧ ¬ v 47 32 = v 47 36 ∧ ¬ v 47 32 = v 47 37 ∧ ¬ v 47 32 = v 47 38 ∧ ¬ v 47 32 = v 47 39
set_option maxRecDepth 100000 in
set_option maxHeartbeats 4000000 in
theorem c_isName {X : XX} {v : VV} (hW : SW X) : CX mX11_isName 0 [(2, 47)] X v (fun o v1 => v1 = v ∧ o = some (0, bI (isNm v))) := by
  refine CX.of (by decide +kernel) rfl rfl rfl (bX11_isName_0  (Nat.le_refl _) hW ?_)
  refine ⟨fun g1 => ?_, fun g2 => ?_⟩
  · refine ⟨rfl, rfl, ?_⟩
    congr 2
    first | exact (bI_f (by unfold isNm at *; omega)).symm | exact (bI_t (by unfold isNm at *; omega)).symm
  · refine ⟨fun g3 => ?_, fun g4 => ?_⟩
    · refine ⟨rfl, rfl, ?_⟩
      congr 2
      first | exact (bI_f (by unfold isNm at *; omega)).symm | exact (bI_t (by unfold isNm at *; omega)).symm
    · refine ⟨fun g5 => ?_, fun g6 => ?_⟩
      · refine ⟨rfl, rfl, ?_⟩
        congr 2
        first | exact (bI_f (by unfold isNm at *; omega)).symm | exact (bI_t (by unfold isNm at *; omega)).symm
      · refine ⟨fun g7 => ?_, fun g8 => ?_⟩
        · refine ⟨rfl, rfl, ?_⟩
          congr 2
          first | exact (bI_f (by unfold isNm at *; omega)).symm | exact (bI_t (by unfold isNm at *; omega)).symm
        · refine ⟨fun g9 => ?_, fun g10 => ?_⟩
          · refine ⟨rfl, rfl, ?_⟩
            congr 2
            first | exact (bI_f (by unfold isNm at *; omega)).symm | exact (bI_t (by unfold isNm at *; omega)).symm
          · refine ⟨fun g11 => ?_, fun g12 => ?_⟩
            · refine ⟨rfl, rfl, ?_⟩
              congr 2
              first | exact (bI_f (by unfold isNm at *; omega)).symm | exact (bI_t (by unfold isNm at *; omega)).symm
            · refine ⟨fun g13 => ?_, fun g14 => ?_⟩
              · refine ⟨rfl, rfl, ?_⟩
                congr 2
                first | exact (bI_f (by unfold isNm at *; omega)).symm | exact (bI_t (by unfold isNm at *; omega)).symm
              · refine ⟨fun g15 => ?_, fun g16 => ?_⟩
                · refine ⟨rfl, rfl, ?_⟩
                  congr 2
                  first | exact (bI_f (by unfold isNm at *; omega)).symm | exact (bI_t (by unfold isNm at *; omega)).symm
                · refine ⟨fun g17 => ?_, fun g18 => ?_⟩
                  · refine ⟨rfl, rfl, ?_⟩
                    congr 2
                    first | exact (bI_f (by unfold isNm at *; omega)).symm | exact (bI_t (by unfold isNm at *; omega)).symm
                  · refine ⟨rfl, rfl, ?_⟩
                    congr 2
                    first | exact (bI_f (by unfold isNm at *; omega)).symm | exact (bI_t (by unfold isNm at *; omega)).symm
set_option maxRecDepth 100000 in
set_option maxHeartbeats 4000000 in
theorem c_isMore {X : XX} {v : VV} (hW : SW X) : CX mX11_isMore 0 [(2, 47)] X v (fun o v1 => v1 = v ∧ o = some (0, bI (v 47 29 = 43 ∨ v 47 29 = 45 ∨ v 47 29 = 38))) := by
  refine CX.of (by decide +kernel) rfl rfl rfl (bX11_isMore_0  (Nat.le_refl _) hW ?_)
  refine ⟨fun g1 => ?_, fun g2 => ?_⟩
  · refine ⟨rfl, rfl, ?_⟩
    congr 2
    first | exact (bI_f (by omega)).symm | exact (bI_t (by omega)).symm
  · refine ⟨fun g3 => ?_, fun g4 => ?_⟩
    · refine ⟨rfl, rfl, ?_⟩
      congr 2
      first | exact (bI_f (by omega)).symm | exact (bI_t (by omega)).symm
    · refine ⟨fun g5 => ?_, fun g6 => ?_⟩
      · refine ⟨rfl, rfl, ?_⟩
        congr 2
        first | exact (bI_f (by omega)).symm | exact (bI_t (by omega)).symm
      · refine ⟨rfl, rfl, ?_⟩
        congr 2
        first | exact (bI_f (by omega)).symm | exact (bI_t (by omega)).symm
set_option maxRecDepth 100000 in
set_option maxHeartbeats 4000000 in
theorem c_finds {X : XX} {v : VV} (hW : SW X) (hf : 0 ≤ v 47 57 ∧ v 47 57 < 140) (a1 : Int) : CX mX11_finds 0 [(2, 47), (0, a1)] X v (fun o v1 => v1 = upd2 (upd2 v 81 (v 47 57) a1) 47 57 (v 47 57 + 1)) := by
  refine CX.of (by decide +kernel) rfl rfl rfl (bX11_finds_0 a1 (Nat.le_refl _) hW ?_)
  intro g1
  have g1a := g1.1
  have g1b := g1.2
  refine ⟨⟨by omega, by omega⟩, ?_⟩
  refine ⟨(fun ⟨_, _⟩ => ⟨by omega, by omega⟩), ?_⟩
  exact ⟨rfl, rfl⟩
set_option maxRecDepth 100000 in
set_option maxHeartbeats 4000000 in
theorem c_looks {X : XX} {v : VV} (hW : SW X) (hf : 0 ≤ v 47 65 ∧ v 47 65 < 136) (a1 : Int) : CX mX11_looks 0 [(2, 47), (0, a1)] X v (fun o v1 => v1 = upd2 (upd2 v 86 (v 47 65) a1) 47 65 (v 47 65 + 1)) := by
  refine CX.of (by decide +kernel) rfl rfl rfl (bX11_looks_0 a1 (Nat.le_refl _) hW ?_)
  intro g1
  have g1a := g1.1
  have g1b := g1.2
  refine ⟨⟨by omega, by omega⟩, ?_⟩
  refine ⟨(fun ⟨_, _⟩ => ⟨by omega, by omega⟩), ?_⟩
  exact ⟨rfl, rfl⟩
set_option maxRecDepth 100000 in
set_option maxHeartbeats 4000000 in
theorem c_hasWhere {X : XX} {v : VV} (hW : SW X) (a1 : Int) (h0 : 0 ≤ a1 ∧ a1 < 17) : CX mX11_hasWhere 0 [(2, 47), (0, a1)] X v (fun o v1 => v1 = v ∧ o = some (0, bI (0 < v 66 (8 * a1 + 7)))) := by
  refine CX.of (by decide +kernel) rfl rfl rfl (bX11_hasWhere_0 a1 (Nat.le_refl _) hW ?_)
  intro g1
  have g1a := g1.1
  have g1b := g1.2
  refine ⟨⟨by omega, by omega⟩, ?_⟩
  refine ⟨(fun ⟨_, _⟩ => ⟨by omega, by omega⟩), ?_⟩
  refine ⟨⟨by omega, by omega⟩, ?_⟩
  refine ⟨fun g2 => ?_, fun g3 => ?_⟩
  · refine ⟨rfl, rfl, ?_⟩
    congr 2
    first | exact (bI_f (by omega)).symm | exact (bI_t (by omega)).symm
  · refine ⟨rfl, rfl, ?_⟩
    congr 2
    first | exact (bI_f (by omega)).symm | exact (bI_t (by omega)).symm
set_option maxRecDepth 100000 in
set_option maxHeartbeats 4000000 in
theorem c_isNameAt {X : XX} {v : VV} (hW : SW X) (a1 a2 : Int) (h0 : 0 ≤ 400 * a1 + a2 ∧ 400 * a1 + a2 + 1 < 6800) (h1 : 0 ≤ a1 ∧ a1 < 17) : CX mX11_isNameAt 0 [(2, 47), (0, a1), (0, a2)] X v (fun o v1 => v1 = v ∧ o = some (0, bI (v 61 (400 * a1 + a2) = 1 ∧ v 61 (400 * a1 + a2 + 1) = 46))) := by
  refine CX.of (by decide +kernel) rfl rfl rfl (bX11_isNameAt_0 a1 a2 (Nat.le_refl _) hW ?_)
  intro g1
  have g1a := g1.1
  have g1b := g1.2
  intro g2
  have g2a := g2.1
  have g2b := g2.2
  refine ⟨⟨by omega, by omega⟩, ?_⟩
  refine ⟨(fun ⟨_, _⟩ => ⟨by omega, by omega⟩), ?_⟩
  refine ⟨⟨by omega, by omega⟩, ?_⟩
  refine ⟨fun g3 => ?_, fun g4 => ?_⟩
  · refine ⟨rfl, rfl, ?_⟩
    congr 2
    first | exact (bI_f (by omega)).symm | exact (bI_t (by omega)).symm
  · refine ⟨⟨by omega, by omega⟩, ?_⟩
    refine ⟨(fun ⟨_, _⟩ => ⟨by omega, by omega⟩), ?_⟩
    refine ⟨(fun ⟨_, _⟩ => ⟨by omega, by omega⟩), ?_⟩
    refine ⟨⟨by omega, by omega⟩, ?_⟩
    refine ⟨fun g5 => ?_, fun g6 => ?_⟩
    · refine ⟨rfl, rfl, ?_⟩
      congr 2
      first | exact (bI_f (by omega)).symm | exact (bI_t (by omega)).symm
    · refine ⟨rfl, rfl, ?_⟩
      congr 2
      first | exact (bI_f (by omega)).symm | exact (bI_t (by omega)).symm
def isS (v : VV) (t : Int) : Prop := isT v t ∧ (v 50 t = 1 ∨ v 50 t = 2)
set_option maxRecDepth 100000 in
set_option maxHeartbeats 4000000 in
theorem c_isSelect {X : XX} {v : VV} (hW : SW X) (hn : v 47 0 ≤ 16) (a1 : Int) : CX mX11_isSelect 1 [(2, 47), (0, a1)] X v (fun o v1 => v1 = v ∧ o = some (0, bI (isS v a1))) := by
  refine CX.of (by decide +kernel) rfl rfl rfl (bX11_isSelect_0 a1 (Nat.le_refl _) hW ?_)
  intro g1
  have g1a := g1.1
  have g1b := g1.2
  refine ⟨_, c_isTable hW (by omega) a1, fun r2 w3 hP => ?_⟩
  obtain ⟨rfl, hr⟩ := hP
  obtain rfl : r2 = bI (isT w3 a1) := by simpa using hr
  refine ⟨fun g2 => ?_, fun g3 => ?_⟩
  · rw [bI_0] at g2
    refine ⟨rfl, rfl, ?_⟩
    congr 2
    first | exact (bI_f (by unfold isS isT at *; omega)).symm | exact (bI_t (by unfold isS isT at *; omega)).symm
  · rw [bI_n0] at g3
    refine ⟨(by unfold isT at *; omega), ?_⟩
    refine ⟨fun g4 => ?_, fun g5 => ?_⟩
    · refine ⟨rfl, rfl, ?_⟩
      congr 2
      first | exact (bI_f (by unfold isS isT at *; omega)).symm | exact (bI_t (by unfold isS isT at *; omega)).symm
    · refine ⟨(by unfold isT at *; omega), ?_⟩
      refine ⟨fun g6 => ?_, fun g7 => ?_⟩
      · refine ⟨rfl, rfl, ?_⟩
        congr 2
        first | exact (bI_f (by unfold isS isT at *; omega)).symm | exact (bI_t (by unfold isS isT at *; omega)).symm
      · refine ⟨rfl, rfl, ?_⟩
        congr 2
        first | exact (bI_f (by unfold isS isT at *; omega)).symm | exact (bI_t (by unfold isS isT at *; omega)).symm
def isBr (v : VV) (t : Int) : Prop := ¬ v 57 t = -1 ∧ (v 79 t = -1 ∨ v 79 t < v 47 64 - v 57 t)
set_option maxRecDepth 100000 in
set_option maxHeartbeats 4000000 in
theorem c_isBroken {X : XX} {v : VV} (hW : SW X) (hb : MB v) (a1 : Int) (h0 : 0 ≤ a1 ∧ a1 < 17) (hl : -1 ≤ v 57 a1 ∧ v 57 a1 ≤ 1000) : CX mX11_isBroken 0 [(2, 47), (0, a1)] X v (fun o v1 => v1 = v ∧ o = some (0, bI (isBr v a1))) := by
  have hb5 := hb.2.2.2.2
  refine CX.of (by decide +kernel) rfl rfl rfl (bX11_isBroken_0 a1 (Nat.le_refl _) hW ?_)
  intro g1
  have g1a := g1.1
  have g1b := g1.2
  refine ⟨⟨by omega, by omega⟩, ?_⟩
  refine ⟨fun g2 => ?_, fun g3 => ?_⟩
  · refine ⟨rfl, rfl, ?_⟩
    congr 2
    first | exact (bI_f (by unfold isBr at *; omega)).symm | exact (bI_t (by unfold isBr at *; omega)).symm
  · refine ⟨⟨by omega, by omega⟩, ?_⟩
    refine ⟨fun g4 => ?_, fun g5 => ?_⟩
    · refine ⟨rfl, rfl, ?_⟩
      congr 2
      first | exact (bI_f (by unfold isBr at *; omega)).symm | exact (bI_t (by unfold isBr at *; omega)).symm
    · refine ⟨⟨by omega, by omega⟩, ?_⟩
      refine ⟨⟨by omega, by omega⟩, ?_⟩
      refine ⟨(fun ⟨_, _⟩ ⟨_, _⟩ => ⟨by omega, by omega⟩), ?_⟩
      refine ⟨fun g6 => ?_, fun g7 => ?_⟩
      · refine ⟨rfl, rfl, ?_⟩
        congr 2
        first | exact (bI_f (by unfold isBr at *; omega)).symm | exact (bI_t (by unfold isBr at *; omega)).symm
      · refine ⟨rfl, rfl, ?_⟩
        congr 2
        first | exact (bI_f (by unfold isBr at *; omega)).symm | exact (bI_t (by unfold isBr at *; omega)).symm
set_option maxRecDepth 100000 in
set_option maxHeartbeats 4000000 in
theorem c_type {X : XX} {v : VV} (hW : SW X) (hn : v 47 0 ≤ 16) (hc : ∀ t, 0 ≤ t → t < v 47 0 → v 51 t ≤ 6) (a1 a2 : Int) : CX mX11_type 2 [(2, 47), (0, a1), (0, a2)] X v (fun o v1 => v1 = v ∧ ((isC v a1 a2 ∧ o = some (0, v 53 (8 * a1 + a2))) ∨ (¬ isC v a1 a2 ∧ o = some (0, -1)))) := by
  refine CX.of (by decide +kernel) rfl rfl rfl (bX11_type_0 a1 a2 (Nat.le_refl _) hW ?_)
  intro g1
  have g1a := g1.1
  have g1b := g1.2
  intro g2
  have g2a := g2.1
  have g2b := g2.2
  refine ⟨_, c_isColumn hW hn a1 a2, fun r2 w3 hP => ?_⟩
  obtain ⟨rfl, hr⟩ := hP
  obtain rfl : r2 = bI (isC w3 a1 a2) := by simpa using hr
  refine ⟨fun g3 => ?_, fun g4 => ?_⟩
  · rw [bI_0] at g3
    exact ⟨rfl, rfl, Or.inr ⟨by assumption, rfl⟩⟩
  · rw [bI_n0] at g4
    have hq := g4
    have hq2 := hc a1 g4.1.1 g4.1.2.1
    unfold isC isT at hq
    refine ⟨⟨by omega, by omega⟩, ?_⟩
    refine ⟨(fun ⟨_, _⟩ => ⟨by omega, by omega⟩), ?_⟩
    refine ⟨⟨by omega, by omega⟩, ?_⟩
    exact ⟨rfl, rfl, Or.inl ⟨by assumption, rfl⟩⟩
set_option maxRecDepth 100000 in
set_option maxHeartbeats 4000000 in
theorem c_promise {X : XX} {v : VV} (hW : SW X) (hn : v 47 0 ≤ 16) (a1 a2 : Int) : CX mX11_promise 1 [(2, 47), (0, a1), (0, a2)] X v (fun o v1 => (isT v a1 ∧ (-1 ≤ a2 ∧ a2 ≤ 1000) ∧ v1 = upd2 v 57 a1 a2 ∧ o = some (0, 1)) ∨ (¬ (isT v a1 ∧ (-1 ≤ a2 ∧ a2 ≤ 1000)) ∧ v1 = v ∧ o = some (0, 0))) := by
  refine CX.of (by decide +kernel) rfl rfl rfl (bX11_promise_0 a1 a2 (Nat.le_refl _) hW ?_)
  intro g1
  have g1a := g1.1
  have g1b := g1.2
  intro g2
  have g2a := g2.1
  have g2b := g2.2
  refine ⟨_, c_isTable hW (by omega) a1, fun r2 w3 hP => ?_⟩
  obtain ⟨rfl, hr⟩ := hP
  obtain rfl : r2 = bI (isT w3 a1) := by simpa using hr
  refine ⟨fun g3 => ?_, fun g4 => ?_⟩
  · rw [bI_0] at g3
    exact ⟨rfl, Or.inr ⟨fun q => by first | exact absurd q.1 (by assumption) | (have q2 := q.2; omega), rfl, rfl⟩⟩
  · rw [bI_n0] at g4
    refine ⟨fun g5 => ?_, fun g6 => ?_⟩
    · exact ⟨rfl, Or.inr ⟨fun q => by first | exact absurd q.1 (by assumption) | (have q2 := q.2; omega), rfl, rfl⟩⟩
    · refine ⟨fun g7 => ?_, fun g8 => ?_⟩
      · refine ⟨(by unfold isT at *; omega), ?_⟩
        exact ⟨rfl, Or.inl ⟨by assumption, by omega, rfl, rfl⟩⟩
      · exact ⟨rfl, Or.inr ⟨fun q => by first | exact absurd q.1 (by assumption) | (have q2 := q.2; omega), rfl, rfl⟩⟩
set_option maxRecDepth 100000 in
set_option maxHeartbeats 4000000 in
theorem c_own {X : XX} {v : VV} (hW : SW X) (hn : v 47 0 ≤ 16) (a1 a2 : Int) : CX mX11_own 1 [(2, 47), (0, a1), (0, a2)] X v (fun o v1 => (isT v a1 ∧ (-1 ≤ a2 ∧ a2 ≤ 9) ∧ v1 = upd2 v 56 a1 a2 ∧ o = some (0, 1)) ∨ (¬ (isT v a1 ∧ (-1 ≤ a2 ∧ a2 ≤ 9)) ∧ v1 = v ∧ o = some (0, 0))) := by
  refine CX.of (by decide +kernel) rfl rfl rfl (bX11_own_0 a1 a2 (Nat.le_refl _) hW ?_)
  intro g1
  have g1a := g1.1
  have g1b := g1.2
  intro g2
  have g2a := g2.1
  have g2b := g2.2
  refine ⟨_, c_isTable hW (by omega) a1, fun r2 w3 hP => ?_⟩
  obtain ⟨rfl, hr⟩ := hP
  obtain rfl : r2 = bI (isT w3 a1) := by simpa using hr
  refine ⟨fun g3 => ?_, fun g4 => ?_⟩
  · rw [bI_0] at g3
    exact ⟨rfl, Or.inr ⟨fun q => by first | exact absurd q.1 (by assumption) | (have q2 := q.2; omega), rfl, rfl⟩⟩
  · rw [bI_n0] at g4
    refine ⟨fun g5 => ?_, fun g6 => ?_⟩
    · exact ⟨rfl, Or.inr ⟨fun q => by first | exact absurd q.1 (by assumption) | (have q2 := q.2; omega), rfl, rfl⟩⟩
    · refine ⟨fun g7 => ?_, fun g8 => ?_⟩
      · refine ⟨(by unfold isT at *; omega), ?_⟩
        exact ⟨rfl, Or.inl ⟨by assumption, by omega, rfl, rfl⟩⟩
      · exact ⟨rfl, Or.inr ⟨fun q => by first | exact absurd q.1 (by assumption) | (have q2 := q.2; omega), rfl, rfl⟩⟩
set_option maxRecDepth 100000 in
set_option maxHeartbeats 4000000 in
theorem c_fed {X : XX} {v : VV} (hW : SW X) (hn : v 47 0 ≤ 16) (a1 a2 a3 : Int) : CX mX11_fed 1 [(2, 47), (0, a1), (0, a2), (0, a3)] X v (fun o v1 => (isT v a1 ∧ (v 50 a1 = 0 ∧ 0 ≤ a2 ∧ a2 ≤ a3 ∧ a3 ≤ v 47 64) ∧ v1 = upd2 (upd2 v 58 a1 a2) 59 a1 a3 ∧ o = some (0, 1)) ∨ (¬ (isT v a1 ∧ (v 50 a1 = 0 ∧ 0 ≤ a2 ∧ a2 ≤ a3 ∧ a3 ≤ v 47 64)) ∧ v1 = v ∧ o = some (0, 0))) := by
  refine CX.of (by decide +kernel) rfl rfl rfl (bX11_fed_0 a1 a2 a3 (Nat.le_refl _) hW ?_)
  intro g1
  have g1a := g1.1
  have g1b := g1.2
  intro g2
  have g2a := g2.1
  have g2b := g2.2
  intro g3
  have g3a := g3.1
  have g3b := g3.2
  refine ⟨_, c_isTable hW (by omega) a1, fun r2 w3 hP => ?_⟩
  obtain ⟨rfl, hr⟩ := hP
  obtain rfl : r2 = bI (isT w3 a1) := by simpa using hr
  refine ⟨fun g4 => ?_, fun g5 => ?_⟩
  · rw [bI_0] at g4
    exact ⟨rfl, Or.inr ⟨fun q => by first | exact absurd q.1 (by assumption) | (have q2 := q.2; omega), rfl, rfl⟩⟩
  · rw [bI_n0] at g5
    refine ⟨(by unfold isT at *; omega), ?_⟩
    refine ⟨fun g6 => ?_, fun g7 => ?_⟩
    · exact ⟨rfl, Or.inr ⟨fun q => by first | exact absurd q.1 (by assumption) | (have q2 := q.2; omega), rfl, rfl⟩⟩
    · refine ⟨fun g8 => ?_, fun g9 => ?_⟩
      · exact ⟨rfl, Or.inr ⟨fun q => by first | exact absurd q.1 (by assumption) | (have q2 := q.2; omega), rfl, rfl⟩⟩
      · refine ⟨fun g10 => ?_, fun g11 => ?_⟩
        · exact ⟨rfl, Or.inr ⟨fun q => by first | exact absurd q.1 (by assumption) | (have q2 := q.2; omega), rfl, rfl⟩⟩
        · refine ⟨fun g12 => ?_, fun g13 => ?_⟩
          · refine ⟨(by unfold isT at *; omega), ?_⟩
            refine ⟨(by unfold isT at *; omega), ?_⟩
            exact ⟨rfl, Or.inl ⟨by assumption, by omega, rfl, rfl⟩⟩
          · exact ⟨rfl, Or.inr ⟨fun q => by first | exact absurd q.1 (by assumption) | (have q2 := q.2; omega), rfl, rfl⟩⟩
set_option maxRecDepth 100000 in
set_option maxHeartbeats 4000000 in
theorem c_freeze {X : XX} {v : VV} (hW : SW X) (hn : v 47 0 ≤ 16) (a1 : Int) : CX mX11_freeze 1 [(2, 47), (0, a1)] X v (fun o v1 => (isT v a1 ∧ v 50 a1 = 2 ∧ v1 = upd2 (upd2 v 50 a1 3) 54 a1 0 ∧ o = some (0, 1)) ∨ (¬ (isT v a1 ∧ v 50 a1 = 2) ∧ v1 = v ∧ o = some (0, 0))) := by
  refine CX.of (by decide +kernel) rfl rfl rfl (bX11_freeze_0 a1 (Nat.le_refl _) hW ?_)
  intro g1
  have g1a := g1.1
  have g1b := g1.2
  refine ⟨_, c_isTable hW (by omega) a1, fun r2 w3 hP => ?_⟩
  obtain ⟨rfl, hr⟩ := hP
  obtain rfl : r2 = bI (isT w3 a1) := by simpa using hr
  refine ⟨fun g2 => ?_, fun g3 => ?_⟩
  · rw [bI_0] at g2
    exact ⟨rfl, Or.inr ⟨fun q => by first | exact absurd q.1 (by assumption) | (have q2 := q.2; omega), rfl, rfl⟩⟩
  · rw [bI_n0] at g3
    refine ⟨(by unfold isT at *; omega), ?_⟩
    refine ⟨fun g4 => ?_, fun g5 => ?_⟩
    · refine ⟨(by unfold isT at *; omega), ?_⟩
      refine ⟨(by unfold isT at *; omega), ?_⟩
      exact ⟨rfl, Or.inl ⟨by assumption, by omega, rfl, rfl⟩⟩
    · exact ⟨rfl, Or.inr ⟨fun q => by first | exact absurd q.1 (by assumption) | (have q2 := q.2; omega), rfl, rfl⟩⟩
def thereNamed (v : VV) (w t : Int) : Prop := ¬ v 48 t = 0 ∧ v 49 t = w
set_option maxRecDepth 100000 in
set_option maxHeartbeats 4000000 in
theorem l_tableNamed {X : XX} {v : VV} {Q : QQ} {d mc ms : Nat} (hW : SW X) (hn : v 47 0 ≤ 16) (a1 : Int) (hd : 0 ≤ d) (hQ : ∀ r, First (thereNamed v a1) (v 47 0) r → Q (some (0, r)) X v) : ∀ x3 : Int, (0 ≤ x3 ∧ x3 ≤ v 47 0) → (∀ t, 0 ≤ t → t < x3 → ¬ thereNamed v a1 t) → Ex mX11_tableNamed d 2 [(2, 47), (1, a1), (3, 0), (0, x3)] [] X v mc ms Q := by
  refine loop1 (fun x3 : Int => (v 47 0 - x3).toNat) (fun x3 : Int => (0 ≤ x3 ∧ x3 ≤ v 47 0) → (∀ t, 0 ≤ t → t < x3 → ¬ thereNamed v a1 t) → Ex mX11_tableNamed d 2 [(2, 47), (1, a1), (3, 0), (0, x3)] [] X v mc ms Q) (fun x3 ih => ?_)
  intro hk hp
  refine bX11_tableNamed_2 a1 x3 hd hW ?_
  intro g1
  have g1a := g1.1
  have g1b := g1.2
  refine ⟨fun g2 => ?_, fun g3 => ?_⟩
  · exact hQ _ (Or.inl ⟨rfl, fun t h0 h1 => hp t h0 (by omega)⟩)
  · refine ⟨⟨by omega, by omega⟩, ?_⟩
    refine ⟨fun g4 => ?_, fun g5 => ?_⟩
    · refine ⟨⟨by omega, by omega⟩, ?_⟩
      refine ih _ (by omega) ⟨by omega, by omega⟩ (fun t h0 h1 hh => ?_)
      by_cases ht : t = x3
      · subst ht; unfold thereNamed at hh; omega
      · exact hp t h0 (by omega) hh
    · refine ⟨⟨by omega, by omega⟩, ?_⟩
      refine ⟨fun g6 => ?_, fun g7 => ?_⟩
      · refine ⟨⟨by omega, by omega⟩, ?_⟩
        refine ih _ (by omega) ⟨by omega, by omega⟩ (fun t h0 h1 hh => ?_)
        by_cases ht : t = x3
        · subst ht; unfold thereNamed at hh; omega
        · exact hp t h0 (by omega) hh
      · exact hQ _ (Or.inr ⟨by omega, by omega, by exact ⟨by assumption, by assumption⟩, hp⟩)
set_option maxRecDepth 100000 in
set_option maxHeartbeats 4000000 in
theorem c_tableNamed {X : XX} {v : VV} (hW : SW X) (hb : MB v) (a1 : Int) : CX mX11_tableNamed 0 [(2, 47), (1, a1)] X v (fun o v1 => v1 = v ∧ ∃ r, o = some (0, r) ∧ First (thereNamed v a1) (v 47 0) r) := by
  have hb1 := hb.1
  refine CX.of (by decide +kernel) rfl rfl rfl (bX11_tableNamed_0 a1 (Nat.le_refl _) hW ?_)
  exact l_tableNamed hW (by omega) a1 (Nat.le_refl _) (fun r hr => ⟨rfl, rfl, r, rfl, hr⟩) 0 ⟨by omega, by omega⟩ (fun t h0 h1 => by omega)
set_option maxRecDepth 100000 in
set_option maxHeartbeats 4000000 in
theorem l_columnNamed {X : XX} {v : VV} {Q : QQ} {d mc ms : Nat} (hW : SW X) (a1 a2 : Int) (ha : 0 ≤ a1 ∧ a1 < 17) (hc : 0 ≤ v 51 a1 ∧ v 51 a1 ≤ 6) (hd : 0 ≤ d) (hQ : ∀ r, First (fun c => v 52 (8 * a1 + c) = a2) (v 51 a1) r → Q (some (0, r)) X v) : ∀ x4 : Int, (0 ≤ x4 ∧ x4 ≤ v 51 a1) → (∀ t, 0 ≤ t → t < x4 → ¬ v 52 (8 * a1 + t) = a2) → Ex mX11_columnNamed d 3 [(2, 47), (0, a1), (1, a2), (3, 0), (0, x4)] [] X v mc ms Q := by
  refine loop1 (fun x4 : Int => (v 51 a1 - x4).toNat) (fun x4 : Int => (0 ≤ x4 ∧ x4 ≤ v 51 a1) → (∀ t, 0 ≤ t → t < x4 → ¬ v 52 (8 * a1 + t) = a2) → Ex mX11_columnNamed d 3 [(2, 47), (0, a1), (1, a2), (3, 0), (0, x4)] [] X v mc ms Q) (fun x4 ih => ?_)
  intro hk hp
  refine bX11_columnNamed_3 a1 a2 x4 hd hW ?_
  intro g1
  have g1a := g1.1
  have g1b := g1.2
  intro g2
  have g2a := g2.1
  have g2b := g2.2
  refine ⟨⟨by omega, by omega⟩, ?_⟩
  refine ⟨fun g3 => ?_, fun g4 => ?_⟩
  · exact hQ _ (Or.inl ⟨rfl, fun t h0 h1 => hp t h0 (by omega)⟩)
  · refine ⟨⟨by omega, by omega⟩, ?_⟩
    refine ⟨(fun ⟨_, _⟩ => ⟨by omega, by omega⟩), ?_⟩
    refine ⟨⟨by omega, by omega⟩, ?_⟩
    refine ⟨fun g5 => ?_, fun g6 => ?_⟩
    · refine ⟨⟨by omega, by omega⟩, ?_⟩
      refine ih _ (by omega) ⟨by omega, by omega⟩ (fun t h0 h1 hh => ?_)
      by_cases ht : t = x4
      · subst ht; exact absurd hh (by assumption)
      · exact hp t h0 (by omega) hh
    · exact hQ _ (Or.inr ⟨by omega, by omega, by assumption, hp⟩)
set_option maxRecDepth 100000 in
set_option maxHeartbeats 4000000 in
theorem c_columnNamed {X : XX} {v : VV} (hW : SW X) (a1 a2 : Int) (ha : 0 ≤ a1 ∧ a1 < 17) (hc : 0 ≤ v 51 a1 ∧ v 51 a1 ≤ 6) : CX mX11_columnNamed 0 [(2, 47), (0, a1), (1, a2)] X v (fun o v1 => v1 = v ∧ ∃ r, o = some (0, r) ∧ First (fun c => v 52 (8 * a1 + c) = a2) (v 51 a1) r) := by
  refine CX.of (by decide +kernel) rfl rfl rfl (bX11_columnNamed_0 a1 a2 (Nat.le_refl _) hW ?_)
  intro _
  exact l_columnNamed hW a1 a2 ha hc (Nat.le_refl _) (fun r hr => ⟨rfl, rfl, r, rfl, hr⟩) 0 ⟨by omega, by omega⟩ (fun t h0 h1 => by omega)
def bhn (v : VV) (t w k : Int) : Prop := ¬ v 55 (3 * t + k) = -1 ∧ v 49 (v 55 (3 * t + k)) = w
set_option maxRecDepth 100000 in
set_option maxHeartbeats 4000000 in
theorem l_behindNamed {X : XX} {v : VV} {Q : QQ} {d mc ms : Nat} (hW : SW X) (a1 a2 : Int) (ha : 0 ≤ a1 ∧ a1 < 17) (hc : 0 ≤ v 54 a1 ∧ v 54 a1 ≤ 3) (hf : ∀ k, 0 ≤ k → k < v 54 a1 → -1 ≤ v 55 (3 * a1 + k) ∧ v 55 (3 * a1 + k) < 17) (hd : 0 ≤ d) (hQ : ∀ r, First (bhn v a1 a2) (v 54 a1) r → Q (some (0, if r = -1 then -1 else v 55 (3 * a1 + r))) X v) : ∀ x4 : Int, (0 ≤ x4 ∧ x4 ≤ v 54 a1) → (∀ t, 0 ≤ t → t < x4 → ¬ bhn v a1 a2 t) → Ex mX11_behindNamed d 3 [(2, 47), (0, a1), (1, a2), (3, 0), (0, x4)] [] X v mc ms Q := by
  refine loop1 (fun x4 : Int => (v 54 a1 - x4).toNat) (fun x4 : Int => (0 ≤ x4 ∧ x4 ≤ v 54 a1) → (∀ t, 0 ≤ t → t < x4 → ¬ bhn v a1 a2 t) → Ex mX11_behindNamed d 3 [(2, 47), (0, a1), (1, a2), (3, 0), (0, x4)] [] X v mc ms Q) (fun x4 ih => ?_)
  intro hk hp
  refine bX11_behindNamed_3 a1 a2 x4 hd hW ?_
  intro g1
  have g1a := g1.1
  have g1b := g1.2
  intro g2
  have g2a := g2.1
  have g2b := g2.2
  refine ⟨⟨by omega, by omega⟩, ?_⟩
  refine ⟨fun g3 => ?_, fun g4 => ?_⟩
  · exact hQ (-1) (Or.inl ⟨rfl, fun t h0 h1 => hp t h0 (by omega)⟩)
  · refine ⟨⟨by omega, by omega⟩, ?_⟩
    refine ⟨(fun ⟨_, _⟩ => ⟨by omega, by omega⟩), ?_⟩
    refine ⟨⟨by omega, by omega⟩, ?_⟩
    refine ⟨fun g5 => ?_, fun g6 => ?_⟩
    · refine ⟨⟨by omega, by omega⟩, ?_⟩
      refine ih _ (by omega) ⟨by omega, by omega⟩ (fun t h0 h1 hh => ?_)
      by_cases ht : t = x4
      · subst ht; unfold bhn at hh; omega
      · exact hp t h0 (by omega) hh
    · refine ⟨⟨by omega, by omega⟩, ?_⟩
      refine ⟨(fun ⟨_, _⟩ => ⟨by omega, by omega⟩), ?_⟩
      refine ⟨⟨by omega, by omega⟩, ?_⟩
      refine ⟨(by have := hf x4 (by omega) (by omega); omega), ?_⟩
      refine ⟨fun g7 => ?_, fun g8 => ?_⟩
      · refine ⟨⟨by omega, by omega⟩, ?_⟩
        refine ih _ (by omega) ⟨by omega, by omega⟩ (fun t h0 h1 hh => ?_)
        by_cases ht : t = x4
        · subst ht; unfold bhn at hh; omega
        · exact hp t h0 (by omega) hh
      · refine ⟨⟨by omega, by omega⟩, ?_⟩
        refine ⟨(fun ⟨_, _⟩ => ⟨by omega, by omega⟩), ?_⟩
        refine ⟨⟨by omega, by omega⟩, ?_⟩
        have hq := hQ x4 (Or.inr ⟨by omega, by omega, ⟨by assumption, by assumption⟩, hp⟩)
        rw [if_neg (by omega)] at hq
        exact hq
set_option maxRecDepth 100000 in
set_option maxHeartbeats 4000000 in
theorem c_behindNamed {X : XX} {v : VV} (hW : SW X) (a1 a2 : Int) (ha : 0 ≤ a1 ∧ a1 < 17) (hc : 0 ≤ v 54 a1 ∧ v 54 a1 ≤ 3) (hf : ∀ k, 0 ≤ k → k < v 54 a1 → -1 ≤ v 55 (3 * a1 + k) ∧ v 55 (3 * a1 + k) < 17) : CX mX11_behindNamed 0 [(2, 47), (0, a1), (1, a2)] X v (fun o v1 => v1 = v ∧ ∃ r, o = some (0, if r = -1 then -1 else v 55 (3 * a1 + r)) ∧ First (bhn v a1 a2) (v 54 a1) r) := by
  refine CX.of (by decide +kernel) rfl rfl rfl (bX11_behindNamed_0 a1 a2 (Nat.le_refl _) hW ?_)
  intro _
  exact l_behindNamed hW a1 a2 ha hc hf (Nat.le_refl _) (fun r hr => ⟨rfl, rfl, r, rfl, hr⟩) 0 ⟨by omega, by omega⟩ (fun t h0 h1 => by omega)
def hasB (v : VV) (q t : Int) : Prop := ∃ k, 0 ≤ k ∧ k < v 54 q ∧ v 55 (3 * q + k) = t
set_option maxRecDepth 100000 in
set_option maxHeartbeats 4000000 in
theorem l_hasBehind {X : XX} {v : VV} {Q : QQ} {d mc ms : Nat} (hW : SW X) (a1 a2 : Int) (ha : 0 ≤ a1 ∧ a1 < 17) (hc : 0 ≤ v 54 a1 ∧ v 54 a1 ≤ 3) (hd : 0 ≤ d) (hQ : Q (some (0, bI (hasB v a1 a2))) X v) : ∀ x3 : Int, (0 ≤ x3 ∧ x3 ≤ v 54 a1) → (∀ t, 0 ≤ t → t < x3 → ¬ v 55 (3 * a1 + t) = a2) → Ex mX11_hasBehind d 2 [(2, 47), (0, a1), (0, a2), (0, x3)] [] X v mc ms Q := by
  refine loop1 (fun x3 : Int => (v 54 a1 - x3).toNat) (fun x3 : Int => (0 ≤ x3 ∧ x3 ≤ v 54 a1) → (∀ t, 0 ≤ t → t < x3 → ¬ v 55 (3 * a1 + t) = a2) → Ex mX11_hasBehind d 2 [(2, 47), (0, a1), (0, a2), (0, x3)] [] X v mc ms Q) (fun x3 ih => ?_)
  intro hk hp
  refine bX11_hasBehind_2 a1 a2 x3 hd hW ?_
  intro g1
  have g1a := g1.1
  have g1b := g1.2
  intro g2
  have g2a := g2.1
  have g2b := g2.2
  intro g3
  have g3a := g3.1
  have g3b := g3.2
  refine ⟨⟨by omega, by omega⟩, ?_⟩
  refine ⟨fun g4 => ?_, fun g5 => ?_⟩
  · rw [bI_f (by rintro ⟨k, k0, k1, k2⟩; exact hp k k0 (by omega) k2)] at hQ; exact hQ
  · refine ⟨⟨by omega, by omega⟩, ?_⟩
    refine ⟨(fun ⟨_, _⟩ => ⟨by omega, by omega⟩), ?_⟩
    refine ⟨⟨by omega, by omega⟩, ?_⟩
    refine ⟨fun g6 => ?_, fun g7 => ?_⟩
    · refine ⟨⟨by omega, by omega⟩, ?_⟩
      refine ih _ (by omega) ⟨by omega, by omega⟩ (fun t h0 h1 hh => ?_)
      by_cases ht : t = x3
      · subst ht; exact absurd hh (by assumption)
      · exact hp t h0 (by omega) hh
    · rw [bI_t ⟨x3, by omega, by omega, by assumption⟩] at hQ; exact hQ
set_option maxRecDepth 100000 in
set_option maxHeartbeats 4000000 in
theorem c_hasBehind {X : XX} {v : VV} (hW : SW X) (a1 a2 : Int) (ha : 0 ≤ a1 ∧ a1 < 17) (hc : 0 ≤ v 54 a1 ∧ v 54 a1 ≤ 3) : CX mX11_hasBehind 0 [(2, 47), (0, a1), (0, a2)] X v (fun o v1 => v1 = v ∧ o = some (0, bI (hasB v a1 a2))) := by
  refine CX.of (by decide +kernel) rfl rfl rfl (bX11_hasBehind_0 a1 a2 (Nat.le_refl _) hW ?_)
  intro _ _
  exact l_hasBehind hW a1 a2 ha hc (Nat.le_refl _) ⟨rfl, rfl, rfl⟩ 0 ⟨by omega, by omega⟩ (fun t h0 h1 => by omega)
