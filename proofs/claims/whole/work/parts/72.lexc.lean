/-! ===== the class: its tokens ===== -/
def gB (b : Int → Int) (n i : Int) : Int := if 0 ≤ i ∧ i < n then b i else -1
theorem gB_in {b : Int → Int} {n i : Int} (h : 0 ≤ i ∧ i < n) : gB b n i = b i := if_pos h
theorem gB_out {b : Int → Int} {n i : Int} (h : ¬ (0 ≤ i ∧ i < n)) : gB b n i = -1 := if_neg h
/-- the bytes -/
def BY (b : Int → Int) (n : Int) (v : VV) : Prop := TX b n ∧ v 13 1 = n ∧ ∀ i, 0 ≤ i → i < n → v 14 i = b i
/-- what a token put touches -/
def SLt (r j : Int) : Prop := ((r = 6 ∨ r = 8 ∨ r = 10) ∧ j = 1) ∨ r = 7 ∨ r = 9 ∨ r = 11 ∨ r = 12
theorem BY.fr {b : Int → Int} {n : Int} {v V : VV} (h : BY b n v) (hf : Fr SLt v V) : BY b n V := ⟨h.1, (hf 13 1 (by unfold SLt; omega)).trans h.2.1, fun i i0 i1 => (hf 14 i (by unfold SLt; omega)).trans (h.2.2 i i0 i1)⟩
/-- c tokens stand -/
def TKp (b : Int → Int) (n c : Int) (v : VV) : Prop := (v 6 1 = c ∧ v 8 1 = c ∧ v 10 1 = c) ∧ (∀ i, 0 ≤ i → i < c → v 7 i = tK b n i ∧ v 9 i = tS b n i ∧ v 11 i = tL b n i) ∧ ∀ i, 0 ≤ i → i < c → tS b n i < n → 97 ≤ b (tS b n i) → b (tS b n i) ≤ 122 → v 12 i = nm32 b n i
theorem k_byte {X : XX} {v : VV} {b : Int → Int} {n : Int} (hW : SW X) (h : BY b n v) (i : Int) : CX mX6_get 0 [(2, 13), (0, i)] X v (fun o1 v1 => v1 = v ∧ o1 = some (0, gB b n i)) :=
  (k_get hW (rowS13 hW) (by have := h.1.1; have := h.2.1; omega) i).mono (fun o v1 q => ⟨q.1, by
    rw [q.2]
    unfold rGet gB
    rw [h.2.1]
    by_cases hi : 0 ≤ i ∧ i < n
    · rw [if_pos hi, if_pos hi, h.2.2 i hi.1 hi.2]
    · rw [if_neg hi, if_neg hi]⟩)
theorem k_bytes {X : XX} {v : VV} {b : Int → Int} {n : Int} (hW : SW X) (h : BY b n v) : CX mX6_size 0 [(2, 13)] X v (fun o1 v1 => v1 = v ∧ o1 = some (0, n)) :=
  (k_size hW (rowS13 hW)).mono (fun o v1 q => ⟨q.1, by rw [q.2, h.2.1]⟩)
theorem k_isLetter {X : XX} {v : VV} (hW : SW X) (x : Int) : CX mX8_isLetter 0 [(0, x)] X v (fun o v1 => v1 = v ∧ o = some (0, bI (97 ≤ x ∧ x ≤ 122))) := by
  refine CX.of (by decide +kernel) rfl rfl rfl (bX8_isLetter_0 x (Nat.le_refl _) hW (fun _ => ⟨fun g => ⟨rfl, rfl, ?_⟩, fun g => ⟨fun g2 => ⟨rfl, rfl, ?_⟩, fun g2 => ⟨rfl, rfl, ?_⟩⟩⟩))
  · rw [bI_f (by omega)]
  · rw [bI_f (by omega)]
  · rw [bI_t (by omega)]
theorem k_isDigit {X : XX} {v : VV} (hW : SW X) (x : Int) : CX mX8_isDigit 0 [(0, x)] X v (fun o v1 => v1 = v ∧ o = some (0, bI (48 ≤ x ∧ x ≤ 57))) := by
  refine CX.of (by decide +kernel) rfl rfl rfl (bX8_isDigit_0 x (Nat.le_refl _) hW (fun _ => ⟨fun g => ⟨rfl, rfl, ?_⟩, fun g => ⟨fun g2 => ⟨rfl, rfl, ?_⟩, fun g2 => ⟨rfl, rfl, ?_⟩⟩⟩))
  · rw [bI_f (by omega)]
  · rw [bI_f (by omega)]
  · rw [bI_t (by omega)]
theorem k_isBlank {X : XX} {v : VV} (hW : SW X) (x : Int) : CX mX8_isBlank 0 [(0, x)] X v (fun o v1 => v1 = v ∧ o = some (0, bI (x = 10 ∨ x = 32))) := by
  refine CX.of (by decide +kernel) rfl rfl rfl (bX8_isBlank_0 x (Nat.le_refl _) hW (fun _ => ⟨fun g => ⟨rfl, rfl, ?_⟩, fun g => ⟨fun g2 => ⟨rfl, rfl, ?_⟩, fun g2 => ⟨rfl, rfl, ?_⟩⟩⟩))
  · rw [bI_t (by omega)]
  · rw [bI_f (by omega)]
  · rw [bI_t (by omega)]
def tPut (v : VV) (k p l : Int) : VV := rAdd (rAdd (rAdd v 6 7 k) 8 9 p) 10 11 l
theorem tPut_f (v : VV) (k p l : Int) : Fr (fun r j => ((r = 6 ∨ r = 8 ∨ r = 10) ∧ j = 1) ∨ r = 7 ∨ r = 9 ∨ r = 11) v (tPut v k p l) := by
  unfold tPut rAdd
  exact (((((Fr.rf.up (by omega)).up (by omega)).up (by omega)).up (by omega)).up (by omega)).up (by omega)
set_option maxRecDepth 100000 in
set_option maxHeartbeats 4000000 in
theorem k_put {X : XX} {v : VV} {b : Int → Int} {n c : Int} (hW : SW X) (h : TKp b n c v) (h0 : 0 ≤ c ∧ c ≤ 400) (k p l : Int) : CX mX8_put 1 [(2, 5), (0, k), (0, p), (0, l)] X v (fun o v1 => o = some (0, l) ∧ v1 = tPut v k p l) := by
  obtain ⟨⟨h1, h2, h3⟩, -⟩ := h
  refine CX.of (by decide +kernel) rfl rfl rfl (bX8_put_0 k p l (Nat.le_refl _) hW (fun _ _ _ => ⟨_, k_add hW (rowS6 hW) (by decide) ⟨by omega, by omega⟩ k, fun w3 hP => ?_⟩))
  have e3 : w3 = rAdd v 6 7 k := hP
  have a3 : w3 8 1 = c := by rw [e3, rAdd_n (by decide) (by decide)]; exact h2
  refine ⟨_, k_add hW (rowS8 hW) (by decide) ⟨by omega, by omega⟩ p, fun w7 hP2 => ?_⟩
  have e7 : w7 = rAdd w3 8 9 p := hP2
  have a7 : w7 10 1 = c := by rw [e7, rAdd_n (by decide) (by decide), e3, rAdd_n (by decide) (by decide)]; exact h3
  refine ⟨_, k_add hW (rowS10 hW) (by decide) ⟨by omega, by omega⟩ l, fun w11 hP3 => ⟨rfl, rfl, ?_⟩⟩
  have e11 : w11 = rAdd w7 10 11 l := hP3
  rw [e11, e7, e3]
  rfl
theorem tPut_TK {v : VV} {b : Int → Int} {n c : Int} (h : TKp b n c v) (hn : tS b n c < n → 97 ≤ b (tS b n c) → b (tS b n c) ≤ 122 → v 12 c = nm32 b n c) : TKp b n (c + 1) (tPut v (tK b n c) (tS b n c) (tL b n c)) := by
  obtain ⟨⟨h1, h2, h3⟩, h4, h5⟩ := h
  have f := tPut_f v (tK b n c) (tS b n c) (tL b n c)
  have e7 : ∀ i, tPut v (tK b n c) (tS b n c) (tL b n c) 7 i = if i = c then tK b n c else v 7 i := fun i => by
    unfold tPut
    rw [rAdd_n (by decide) (by decide), rAdd_n (by decide) (by decide), rAdd_c (by decide), h1]
  have e9 : ∀ i, tPut v (tK b n c) (tS b n c) (tL b n c) 9 i = if i = c then tS b n c else v 9 i := fun i => by
    unfold tPut
    rw [rAdd_n (by decide) (by decide), rAdd_c (by decide), rAdd_n (by decide) (by decide), rAdd_n (by decide) (by decide), h2]
  have e11 : ∀ i, tPut v (tK b n c) (tS b n c) (tL b n c) 11 i = if i = c then tL b n c else v 11 i := fun i => by
    unfold tPut
    rw [rAdd_c (by decide), rAdd_n (by decide) (by decide), rAdd_n (by decide) (by decide), rAdd_n (by decide) (by decide), rAdd_n (by decide) (by decide), h3]
  refine ⟨⟨?_, ?_, ?_⟩, fun i i0 i1 => ?_, fun i i0 i1 z0 z1 z2 => ?_⟩
  · unfold tPut; rw [rAdd_n (by decide) (by decide), rAdd_n (by decide) (by decide), rAdd_1, h1]
  · unfold tPut; rw [rAdd_n (by decide) (by decide), rAdd_1, rAdd_n (by decide) (by decide), h2]
  · unfold tPut; rw [rAdd_1, rAdd_n (by decide) (by decide), rAdd_n (by decide) (by decide), h3]
  · rw [e7, e9, e11]
    by_cases hi : i = c
    · subst hi; rw [if_pos rfl, if_pos rfl, if_pos rfl]; exact ⟨rfl, rfl, rfl⟩
    · rw [if_neg hi, if_neg hi, if_neg hi]; exact h4 i i0 (by omega)
  · rw [f 12 i (by omega)]
    by_cases hi : i = c
    · subst hi; exact hn z0 z1 z2
    · exact h5 i i0 (by omega) z0 z1 z2
/-- behind one token read -/
def OneR (b : Int → Int) (n c : Int) (v : VV) (o : Option AV) (v1 : VV) : Prop := o = some (0, tL b n c) ∧ TKp b n (c + 1) v1 ∧ Fr SLt v v1
theorem tPut_one {v v' : VV} {b : Int → Int} {n c : Int} (h : TKp b n c v) (hf : Fr SLt v' v) (hn : tS b n c < n → 97 ≤ b (tS b n c) → b (tS b n c) ≤ 122 → v 12 c = nm32 b n c) : OneR b n c v' (some (0, tL b n c)) (tPut v (tK b n c) (tS b n c) (tL b n c)) :=
  ⟨rfl, tPut_TK h hn, hf.via (tPut_f _ _ _ _) (fun _ _ q => q) (fun r j q => by unfold SLt; omega)⟩
/-- the word's kind, as the class finds it -/
def KWc (X : XX) : Prop := ∀ (b : Int → Int) (n : Int) (v : VV) (s e : Int), BY b n v → 0 ≤ s → s < e → e ≤ n → (∀ i, s ≤ i → i < e → 97 ≤ b i ∧ b i ≤ 122) → CX mX8_kindOfWord 7 [(2, 5), (0, s), (0, e - s)] X v (fun o v1 => v1 = v ∧ o = some (0, if e - s ≤ 8 then wKind (cdm 27 (fun i => b (s + i)) (e - s).toNat) else 256))
set_option maxRecDepth 100000 in
set_option maxHeartbeats 4000000 in
theorem k_readWord {X : XX} {v : VV} {b : Int → Int} {n c : Int} (hW : SW X) (hK : KWc X) (hB : BY b n v) (h : TKp b n c v) (h0 : 0 ≤ c ∧ c ≤ 400) (hw : tcW b n (tS b n c)) : CX mX8_readWord 8 [(2, 5), (0, tS b n c)] X v (fun o v1 => OneR b n c v o v1) := by
  obtain ⟨w1, w2, -, -, w5, w6⟩ := id hw
  have hs0 := (tS_bd b hB.1.1.1 c).1
  have hn4 := hB.1.1
  have hR := rEnd_spec b ltB (Int.le_of_lt w1)
  have hpos := rEnd_pos (b := b) (p := ltB) w1 (ltB_iff.mpr w2)
  rw [← w5] at hR hpos
  obtain ⟨r1, r2, r3, r4⟩ := hR
  have hlet : ∀ i, tS b n c ≤ i → i < tEnd b n (tS b n c) → 97 ≤ b i ∧ b i ≤ 122 := fun i i0 i1 => ltB_iff.mp (r3 i i0 i1)
  have hL : tL b n c = tEnd b n (tS b n c) - tS b n c := rfl
  have hK' : tK b n c = if tEnd b n (tS b n c) - tS b n c ≤ 8 then wKind (cdm 27 (fun i => b (tS b n c + i)) (tEnd b n (tS b n c) - tS b n c).toNat) else 256 := by
    have e : tK b n c = tKind b n (tS b n c) := rfl
    rcases w6 with ⟨q1, -, q3, q4⟩ | ⟨q1, -, -, q4⟩
    · rw [if_pos q1, e, q4, q3, w5]
    · rw [if_neg (by omega), e, q4]
  -- at the end of the word
  have l96 : ∀ (x2 x5 : Int) (V : VV), Fr SLt v V → TKp b n c V → V 12 c = nm32 b n c → Ex mX8_readWord 8 96 [(2, 5), (0, tS b n c), (1, x2), (3, 0), (0, tEnd b n (tS b n c)), (0, x5)] [] X V 0 0 (fun o X1 v1 => X1 = X ∧ OneR b n c v o v1) := fun x2 x5 V hf hT hnm => by
    refine bX8_readWord_96 _ x2 _ x5 (Nat.le_refl _) hW (fun _ _ _ => ⟨⟨by omega, by omega⟩, _, hK b n V _ _ (hB.fr hf) hs0 hpos r2 hlet, fun r22 w23 hP => ?_⟩)
    obtain ⟨rfl, hr⟩ := hP
    rw [← hK'] at hr
    obtain rfl : r22 = tK b n c := by simpa using hr
    refine ⟨⟨by omega, by omega⟩, _, k_put hW hT h0 _ _ _, fun r26 w27 hP => ?_⟩
    obtain ⟨hr2, e27⟩ := hP
    obtain rfl : r26 = tL b n c := by simpa [hL] using hr2
    rw [← hL] at e27
    rw [e27]
    exact ⟨rfl, tPut_one hT hf (fun _ _ _ => hnm)⟩
  have l69 : ∀ (V : VV), Fr SLt v V → TKp b n c V → Ex mX8_readWord 8 69 [(2, 5), (0, tS b n c), (1, nm32 b n c), (3, 0), (0, tEnd b n (tS b n c)), (3, 0)] [] X V 0 0 (fun o X1 v1 => X1 = X ∧ OneR b n c v o v1) := fun V hf hT => by
    have h61 := hT.1.1
    refine bX8_readWord_69 _ _ _ (Nat.le_refl _) hW (fun _ _ => ⟨_, k_size hW (rowS6 hW), fun r18 w19 hP => ?_⟩)
    obtain ⟨rfl, hr⟩ := hP
    obtain rfl : r18 = c := by rw [h61] at hr; simpa using hr
    refine ⟨fun g => by omega, fun g => ⟨⟨by omega, by omega⟩, l96 _ _ _ (hf.up (by unfold SLt; omega)) ?_ (upd2_s _ _ _ _)⟩⟩
    obtain ⟨⟨q1, q2, q3⟩, q4, q5⟩ := hT
    refine ⟨⟨?_, ?_, ?_⟩, fun i i0 i1 => ?_, fun i i0 i1 z0 z1 z2 => ?_⟩
    · rw [upd2_n _ (by omega)]; exact q1
    · rw [upd2_n _ (by omega)]; exact q2
    · rw [upd2_n _ (by omega)]; exact q3
    · rw [upd2_n _ (by omega), upd2_n _ (by omega), upd2_n _ (by omega)]; exact q4 i i0 i1
    · rw [upd2_n _ (by omega)]; exact q5 i i0 i1 z0 z1 z2
  have key : ∀ x4 : Int, (tS b n c ≤ x4 ∧ x4 ≤ tEnd b n (tS b n c)) → Ex mX8_readWord 8 5 [(2, 5), (0, tS b n c), (1, cdm 32 (fun j => b (tS b n c + j)) (if x4 - tS b n c ≤ 8 then x4 - tS b n c else 8).toNat), (3, 0), (0, x4), (3, 0)] [] X v 0 0 (fun o X1 v1 => X1 = X ∧ OneR b n c v o v1) := by
    refine loop1 (fun x4 : Int => (tEnd b n (tS b n c) - x4).toNat) (fun x4 : Int => (tS b n c ≤ x4 ∧ x4 ≤ tEnd b n (tS b n c)) → Ex mX8_readWord 8 5 [(2, 5), (0, tS b n c), (1, cdm 32 (fun j => b (tS b n c + j)) (if x4 - tS b n c ≤ 8 then x4 - tS b n c else 8).toNat), (3, 0), (0, x4), (3, 0)] [] X v 0 0 (fun o X1 v1 => X1 = X ∧ OneR b n c v o v1)) (fun x4 ih => ?_)
    intro hx
    have fin : x4 = tEnd b n (tS b n c) → Ex mX8_readWord 8 69 [(2, 5), (0, tS b n c), (1, cdm 32 (fun j => b (tS b n c + j)) (if x4 - tS b n c ≤ 8 then x4 - tS b n c else 8).toNat), (3, 0), (0, x4), (3, 0)] [] X v 0 0 (fun o X1 v1 => X1 = X ∧ OneR b n c v o v1) := fun e => by
      rw [e]
      exact l69 v Fr.rf h
    refine bX8_readWord_5 _ _ _ (Nat.le_refl _) hW (fun _ _ => ⟨_, k_bytes hW hB, fun r2 w3 hP => ?_⟩)
    obtain ⟨rfl, hr⟩ := hP
    obtain rfl : n = r2 := (by simpa using hr : r2 = n).symm
    refine ⟨fun g => fin (by omega), fun g => ⟨_, k_byte hW hB x4, fun r6 w7 hP => ?_⟩⟩
    obtain ⟨rfl, hr6⟩ := hP
    rw [gB_in ⟨by omega, g⟩] at hr6
    obtain rfl : r6 = b x4 := by simpa using hr6
    refine ⟨_, k_isLetter hW _, fun r10 w11 hP => ?_⟩
    obtain ⟨rfl, hr10⟩ := hP
    obtain rfl : r10 = bI (97 ≤ b x4 ∧ b x4 ≤ 122) := by simpa using hr10
    refine ⟨fun g2 => ?_, fun g2 => ?_⟩
    · rw [bI_0] at g2
      refine fin ?_
      rcases Int.lt_or_le x4 (tEnd b n (tS b n c)) with q | q
      · exact absurd (hlet x4 hx.1 q) g2
      · omega
    · rw [bI_n0] at g2
      have hlt : x4 < tEnd b n (tS b n c) := by
        rcases Int.lt_or_le x4 (tEnd b n (tS b n c)) with q | q
        · exact q
        · have e : x4 = tEnd b n (tS b n c) := by omega
          rw [e] at g2 g
          exact absurd (ltB_iff.mpr g2) (r4 g)
      have nx := ih (x4 + 1) (by omega) ⟨by omega, by omega⟩
      refine ⟨⟨by omega, by omega⟩, fun g3 => ⟨⟨by omega, by omega⟩, ?_⟩, fun g3 => ?_⟩
      · have e : (if x4 + 1 - tS b n c ≤ 8 then x4 + 1 - tS b n c else 8).toNat = (if x4 - tS b n c ≤ 8 then x4 - tS b n c else 8).toNat := by
          rw [if_neg (by omega)]
          by_cases q : x4 - tS b n c ≤ 8
          · rw [if_pos q]; omega
          · rw [if_neg q]
        rw [e] at nx
        exact nx
      · have e1 : (if x4 - tS b n c ≤ 8 then x4 - tS b n c else 8).toNat = (x4 - tS b n c).toNat := by rw [if_pos (by omega)]
        have e2 : (if x4 + 1 - tS b n c ≤ 8 then x4 + 1 - tS b n c else 8).toNat = (x4 - tS b n c).toNat + 1 := by rw [if_pos (by omega)]; omega
        rw [e1]
        rw [e2] at nx
        have hbd := cdm_bd (m := 32) (by decide) (f := fun j => b (tS b n c + j)) (x4 - tS b n c).toNat (fun i i0 i1 => hlet _ (by omega) (by omega))
        have hpw : (32 : Int) ^ (x4 - tS b n c).toNat ≤ 34359738368 := by
          have : (x4 - tS b n c).toNat = 0 ∨ (x4 - tS b n c).toNat = 1 ∨ (x4 - tS b n c).toNat = 2 ∨ (x4 - tS b n c).toNat = 3 ∨ (x4 - tS b n c).toNat = 4 ∨ (x4 - tS b n c).toNat = 5 ∨ (x4 - tS b n c).toNat = 6 ∨ (x4 - tS b n c).toNat = 7 := by omega
          rcases this with q | q | q | q | q | q | q | q <;> rw [q] <;> decide
        have ec : cdm 32 (fun j => b (tS b n c + j)) ((x4 - tS b n c).toNat + 1) = cdm 32 (fun j => b (tS b n c + j)) (x4 - tS b n c).toNat * 32 + ((b x4 - 97) + 1) := by
          show 32 * cdm 32 (fun j => b (tS b n c + j)) (x4 - tS b n c).toNat + (b (tS b n c + ((x4 - tS b n c).toNat : Int)) - 96) = _
          rw [show tS b n c + ((x4 - tS b n c).toNat : Int) = x4 by omega]
          omega
        rw [ec] at nx
        refine ⟨⟨by omega, by omega⟩, _, k_byte hW hB x4, fun r14 w15 hP => ?_⟩
        obtain ⟨rfl, hr14⟩ := hP
        rw [gB_in ⟨by omega, g⟩] at hr14
        obtain rfl : r14 = b x4 := by simpa using hr14
        exact ⟨fun _ => ⟨by omega, by omega⟩, fun _ => ⟨by omega, by omega⟩, ⟨by omega, by omega⟩, ⟨by omega, by omega⟩, nx⟩
  have k0 := key (tS b n c) ⟨Int.le_refl _, r1⟩
  have e0 : cdm 32 (fun j => b (tS b n c + j)) (if tS b n c - tS b n c ≤ 8 then tS b n c - tS b n c else 8).toNat = 0 := by
    rw [if_pos (by omega), show (tS b n c - tS b n c).toNat = 0 by omega]; rfl
  rw [e0] at k0
  exact CX.of (by decide +kernel) rfl rfl rfl (bX8_readWord_0 _ (Nat.le_refl _) hW (fun _ => k0))
