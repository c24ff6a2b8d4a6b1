/-! ===== the class: quotes, one token, all ===== -/
set_option maxRecDepth 100000 in
set_option maxHeartbeats 4000000 in
theorem k_readQuote {X : XX} {v : VV} {b : Int → Int} {n c : Int} (hW : SW X) (hB : BY b n v) (h : TKp b n c v) (h0 : 0 ≤ c ∧ c ≤ 400) (hq : tcQ b n (tS b n c)) : CX mX8_readQuote 2 [(2, 5), (0, tS b n c)] X v (fun o v1 => OneR b n c v o v1) := by
  obtain ⟨w1, w2, -, -, -, w6, w7⟩ := id hq
  have hs0 := (tS_bd b hB.1.1.1 c).1
  have hn4 := hB.1.1
  obtain ⟨r1, r2, r3, r4⟩ := rEnd_spec b qtB (show tS b n c + 1 ≤ n by omega)
  have eq : rEnd b qtB n (tS b n c + 1) = qE b n (tS b n c) := rfl
  rw [eq] at r1 r2 r3 r4
  have hL : tL b n c = tEnd b n (tS b n c) - tS b n c := rfl
  have hK : tK b n c = tKind b n (tS b n c) := rfl
  have l48 : Ex mX8_readQuote 2 48 [(2, 5), (0, tS b n c), (0, qE b n (tS b n c))] [] X v 0 0 (fun o X1 v1 => X1 = X ∧ OneR b n c v o v1) := by
    refine bX8_readQuote_48 _ _ (Nat.le_refl _) hW (fun _ _ => ⟨_, k_byte hW hB _, fun r18 w19 hP => ?_⟩)
    obtain ⟨rfl, hr⟩ := hP
    obtain rfl : r18 = gB b n (qE b n (tS b n c)) := by simpa using hr
    refine ⟨fun g => ⟨⟨by omega, by omega⟩, ?_⟩, fun g => ⟨⟨by omega, by omega⟩, fun _ => ⟨by omega, by omega⟩, ?_⟩⟩
    · rcases w7 with ⟨q1, q2, q3, q4⟩ | ⟨q1, q2, q3⟩
      · rw [gB_in ⟨by omega, q2⟩] at g; exact absurd q3 g
      · have ek : (259 : Int) = tK b n c := by rw [hK, q1]
        have el : qE b n (tS b n c) - tS b n c = tL b n c := by rw [hL, q3]
        rw [el, ek]
        refine ⟨_, k_put hW h h0 _ _ _, fun r22 w23 hP => ?_⟩
        obtain ⟨hr2, e23⟩ := hP
        obtain rfl : r22 = tL b n c := by simpa using hr2
        rw [e23]
        exact ⟨rfl, tPut_one h Fr.rf (fun _ z1 z2 => by omega)⟩
    · rcases w7 with ⟨q1, q2, q3, q4⟩ | ⟨q1, q2, q3⟩
      · have ek : (258 : Int) = tK b n c := by rw [hK, q1]
        have el : qE b n (tS b n c) + 1 - tS b n c = tL b n c := by rw [hL, q4]
        rw [el, ek]
        refine ⟨_, k_put hW h h0 _ _ _, fun r22 w23 hP => ?_⟩
        obtain ⟨hr2, e23⟩ := hP
        obtain rfl : r22 = tL b n c := by simpa using hr2
        rw [e23]
        exact ⟨rfl, tPut_one h Fr.rf (fun _ z1 z2 => by omega)⟩
      · exfalso
        by_cases z : qE b n (tS b n c) < n
        · rw [gB_in ⟨by omega, z⟩] at g; exact q2 ⟨z, g⟩
        · rw [gB_out (by omega)] at g; omega
  have key : ∀ x : Int, (tS b n c + 1 ≤ x ∧ x ≤ qE b n (tS b n c)) → Ex mX8_readQuote 2 4 [(2, 5), (0, tS b n c), (0, x)] [] X v 0 0 (fun o X1 v1 => X1 = X ∧ OneR b n c v o v1) := by
    refine loop1 (fun x : Int => (qE b n (tS b n c) - x).toNat) (fun x : Int => (tS b n c + 1 ≤ x ∧ x ≤ qE b n (tS b n c)) → Ex mX8_readQuote 2 4 [(2, 5), (0, tS b n c), (0, x)] [] X v 0 0 (fun o X1 v1 => X1 = X ∧ OneR b n c v o v1)) (fun x ih => ?_)
    intro hx
    have fin : x = qE b n (tS b n c) → Ex mX8_readQuote 2 48 [(2, 5), (0, tS b n c), (0, x)] [] X v 0 0 (fun o X1 v1 => X1 = X ∧ OneR b n c v o v1) := fun e => by rw [e]; exact l48
    refine bX8_readQuote_4 _ _ (Nat.le_refl _) hW (fun _ _ => ⟨_, k_bytes hW hB, fun r2' w3 hP => ?_⟩)
    obtain ⟨rfl, hr⟩ := hP
    obtain rfl : n = r2' := (by simpa using hr : r2' = n).symm
    refine ⟨fun g => fin (by omega), fun g => ⟨_, k_byte hW hB x, fun r6 w7 hP => ?_⟩⟩
    obtain ⟨rfl, hr6⟩ := hP
    rw [gB_in ⟨by omega, g⟩] at hr6
    obtain rfl : r6 = b x := by simpa using hr6
    refine ⟨_, k_isLetter hW _, fun r10 w11 hP => ?_⟩
    obtain ⟨rfl, hr10⟩ := hP
    obtain rfl : r10 = bI (97 ≤ b x ∧ b x ≤ 122) := by simpa using hr10
    have more : qtB (b x) = true → x < qE b n (tS b n c) := fun z => by
      rcases Int.lt_or_le x (qE b n (tS b n c)) with q | q
      · exact q
      · have e : x = qE b n (tS b n c) := by omega
        rw [e] at z g
        exact absurd z (r4 g)
    have stop : ¬ qtB (b x) = true → x = qE b n (tS b n c) := fun z => by
      rcases Int.lt_or_le x (qE b n (tS b n c)) with q | q
      · exact absurd (r3 x hx.1 q) z
      · omega
    refine ⟨fun g2 => ?_, fun g2 => ?_⟩
    · rw [bI_n0] at g2
      have hlt := more (qtB_iff.mpr (Or.inl g2))
      exact ⟨⟨by omega, by omega⟩, ih (x + 1) (by omega) ⟨by omega, by omega⟩⟩
    · rw [bI_0] at g2
      refine ⟨_, k_byte hW hB x, fun r14 w15 hP => ?_⟩
      obtain ⟨rfl, hr14⟩ := hP
      rw [gB_in ⟨by omega, g⟩] at hr14
      obtain rfl : r14 = b x := by simpa using hr14
      refine ⟨fun g3 => fin (stop (fun z => (qtB_iff.mp z).elim g2 g3)), fun g3 => ?_⟩
      have hlt := more (qtB_iff.mpr (Or.inr g3))
      exact ⟨⟨by omega, by omega⟩, ih (x + 1) (by omega) ⟨by omega, by omega⟩⟩
  exact CX.of (by decide +kernel) rfl rfl rfl (bX8_readQuote_0 _ (Nat.le_refl _) hW (fun _ => ⟨⟨by omega, by omega⟩, key _ ⟨Int.le_refl _, by omega⟩⟩))
set_option maxRecDepth 100000 in
set_option maxHeartbeats 4000000 in
theorem k_readOne {X : XX} {v : VV} {b : Int → Int} {n c : Int} (hW : SW X) (hKW : KWc X) (hB : BY b n v) (h : TKp b n c v) (h0 : 0 ≤ c ∧ c ≤ 400) (hlt : tS b n c < n) : CX mX8_readOne 9 [(2, 5), (0, tS b n c)] X v (fun o v1 => OneR b n c v o v1) := by
  have hs0 := (tS_bd b hB.1.1.1 c).1
  have hn4 := hB.1.1
  have hL : tL b n c = tEnd b n (tS b n c) - tS b n c := rfl
  have hK : tK b n c = tKind b n (tS b n c) := rfl
  refine CX.of (by decide +kernel) rfl rfl rfl (bX8_readOne_0 _ (Nat.le_refl _) hW (fun _ => ⟨_, k_byte hW hB _, fun r2 w3 hP => ?_⟩))
  obtain ⟨rfl, hr⟩ := hP
  rw [gB_in ⟨hs0, hlt⟩] at hr
  obtain rfl : r2 = b (tS b n c) := by simpa using hr
  refine ⟨_, k_isLetter hW _, fun r6 w7 hP => ?_⟩
  obtain ⟨rfl, hr6⟩ := hP
  obtain rfl : r6 = bI (97 ≤ b (tS b n c) ∧ b (tS b n c) ≤ 122) := by simpa using hr6
  have hcase := tcase b (Int.le_of_lt hlt)
  refine ⟨fun g => ?_, fun g => ?_⟩
  · rw [bI_0] at g
    refine ⟨_, k_isDigit hW _, fun r10 w11 hP => ?_⟩
    obtain ⟨rfl, hr10⟩ := hP
    obtain rfl : r10 = bI (48 ≤ b (tS b n c) ∧ b (tS b n c) ≤ 57) := by simpa using hr10
    refine ⟨fun g2 => ?_, fun g2 => ?_⟩
    · rw [bI_0] at g2
      refine ⟨fun g3 => ?_, fun g3 => ?_⟩
      · have hc : tcS b n (tS b n c) := by
          rcases hcase with q | q | q | q | q
          · exact absurd q.1 (by omega)
          · exact absurd q.2.1 g
          · exact absurd q.2.1 g2
          · exact absurd q.2.1 g3
          · exact q
        obtain ⟨-, -, -, -, -, q5, q6⟩ := hc
        have ek : b (tS b n c) = tK b n c := by rw [hK, q5]
        have el : (1 : Int) = tL b n c := by rw [hL, q6]; omega
        rw [el]
        refine ⟨_, k_put hW h h0 (b (tS b n c)) _ _, fun r14 w15 hP => ?_⟩
        obtain ⟨hr2, e15⟩ := hP
        obtain rfl : r14 = tL b n c := by simpa using hr2
        rw [e15]
        have z := tPut_one h Fr.rf (fun _ z1 z2 => absurd ⟨z1, z2⟩ g)
        rw [← ek] at z
        exact ⟨rfl, z⟩
      · have hc : tcQ b n (tS b n c) := by
          rcases hcase with q | q | q | q | q
          · exact absurd q.1 (by omega)
          · exact absurd q.2.1 g
          · exact absurd q.2.1 g2
          · exact q
          · exact absurd g3 q.2.1.2.2
        exact ⟨_, k_readQuote hW hB h h0 hc, fun r18 w19 hP => ⟨rfl, hP⟩⟩
    · rw [bI_n0] at g2
      have hc : tcD b n (tS b n c) := by
        rcases hcase with q | q | q | q | q
        · exact absurd q.1 (by omega)
        · exact absurd q.2.1 g
        · exact q
        · have := q.2.1; omega
        · exact absurd g2 q.2.1.2.1
      obtain ⟨-, -, -, -, q5, -⟩ := hc
      have hdg : dgB (b (tS b n c)) = true := dgB_iff.mpr g2
      have e : tEnd b n (tS b n c) = rEnd b dgB n (tS b n c) := by
        unfold tEnd; rw [if_neg (by omega), if_neg (fun z => g (ltB_iff.mp z)), if_pos hdg]
      have hpos := rEnd_pos hlt hdg
      obtain ⟨r1, r2, r3, r4⟩ := rEnd_spec b dgB (Int.le_of_lt hlt)
      rw [← e] at r1 r2 r3 r4 hpos
      have l64 : ∀ x2 : Int, Ex mX8_readOne 9 64 [(2, 5), (0, tS b n c), (0, x2), (0, tEnd b n (tS b n c))] [] X w11 0 0 (fun o X1 v1 => X1 = X ∧ OneR b n c w11 o v1) := fun x2 => by
        refine bX8_readOne_64 _ _ _ (Nat.le_refl _) hW (fun _ _ _ => ⟨⟨by omega, by omega⟩, ?_⟩)
        have ek : (257 : Int) = tK b n c := by rw [hK, q5]
        rw [← hL, ek]
        refine ⟨_, k_put hW h h0 _ _ _, fun r38 w39 hP => ?_⟩
        obtain ⟨hr2, e39⟩ := hP
        obtain rfl : r38 = tL b n c := by simpa using hr2
        rw [e39]
        exact ⟨rfl, tPut_one h Fr.rf (fun _ z1 z2 => by omega)⟩
      have key : ∀ x : Int, (tS b n c + 1 ≤ x ∧ x ≤ tEnd b n (tS b n c)) → Ex mX8_readOne 9 33 [(2, 5), (0, tS b n c), (0, b (tS b n c)), (0, x)] [] X w11 0 0 (fun o X1 v1 => X1 = X ∧ OneR b n c w11 o v1) := by
        refine loop1 (fun x : Int => (tEnd b n (tS b n c) - x).toNat) (fun x : Int => (tS b n c + 1 ≤ x ∧ x ≤ tEnd b n (tS b n c)) → Ex mX8_readOne 9 33 [(2, 5), (0, tS b n c), (0, b (tS b n c)), (0, x)] [] X w11 0 0 (fun o X1 v1 => X1 = X ∧ OneR b n c w11 o v1)) (fun x ih => ?_)
        intro hx
        have fin : x = tEnd b n (tS b n c) → Ex mX8_readOne 9 64 [(2, 5), (0, tS b n c), (0, b (tS b n c)), (0, x)] [] X w11 0 0 (fun o X1 v1 => X1 = X ∧ OneR b n c w11 o v1) := fun e => by rw [e]; exact l64 _
        refine bX8_readOne_33 _ _ _ (Nat.le_refl _) hW (fun _ _ _ => ⟨_, k_bytes hW hB, fun r26 w27 hP => ?_⟩)
        obtain ⟨rfl, hr26⟩ := hP
        obtain rfl : n = r26 := (by simpa using hr26 : r26 = n).symm
        refine ⟨fun z => fin (by omega), fun z => ⟨_, k_byte hW hB x, fun r30 w31 hP => ?_⟩⟩
        obtain ⟨rfl, hr30⟩ := hP
        rw [gB_in ⟨by omega, z⟩] at hr30
        obtain rfl : r30 = b x := by simpa using hr30
        refine ⟨_, k_isDigit hW _, fun r34 w35 hP => ?_⟩
        obtain ⟨rfl, hr34⟩ := hP
        obtain rfl : r34 = bI (48 ≤ b x ∧ b x ≤ 57) := by simpa using hr34
        refine ⟨fun z2 => ?_, fun z2 => ?_⟩
        · rw [bI_0] at z2
          refine fin ?_
          rcases Int.lt_or_le x (tEnd b n (tS b n c)) with q | q
          · exact absurd (dgB_iff.mp (r3 x (by omega) q)) z2
          · omega
        · rw [bI_n0] at z2
          have hlt2 : x < tEnd b n (tS b n c) := by
            rcases Int.lt_or_le x (tEnd b n (tS b n c)) with q | q
            · exact q
            · have e3 : x = tEnd b n (tS b n c) := by omega
              rw [e3] at z2 z
              exact absurd (dgB_iff.mpr z2) (r4 z)
          exact ⟨⟨by omega, by omega⟩, ih (x + 1) (by omega) ⟨by omega, by omega⟩⟩
      exact ⟨⟨by omega, by omega⟩, key _ ⟨Int.le_refl _, by omega⟩⟩
  · rw [bI_n0] at g
    have hc : tcW b n (tS b n c) := by
      rcases hcase with q | q | q | q | q
      · exact absurd q.1 (by omega)
      · exact q
      · have := q.2.1; omega
      · have := q.2.1; omega
      · exact absurd g q.2.1.1
    exact ⟨_, k_readWord hW hKW hB h h0 hc, fun r22 w23 hP => ⟨rfl, hP⟩⟩
/-- what reading all touches -/
def SLx (r j : Int) : Prop := SLt r j ∨ (r = 13 ∧ j = 1) ∨ r = 14
theorem lS_blank {b : Int → Int} {n p : Int} (h : p < n) (hb : bkB (b p) = true) : lS b n (p + 1) = lS b n p := by
  obtain ⟨a1, a2, a3, a4⟩ := rEnd_spec b bkB (Int.le_of_lt h)
  have hp := rEnd_pos h hb
  refine (RunTo.eq (b := b) (p := bkB) ⟨by omega, a2, fun i i0 i1 => a3 i (by omega) i1, a4⟩).symm
theorem lS_stop {b : Int → Int} {n p : Int} (h : p ≤ n) (hb : p < n → ¬ bkB (b p) = true) : lS b n p = p :=
  (RunTo.eq (b := b) (p := bkB) ⟨Int.le_refl _, h, fun i i0 i1 => by omega, hb⟩).symm
set_option maxRecDepth 100000 in
set_option maxHeartbeats 4000000 in
theorem k_readAll {X : XX} {v : VV} {b : Int → Int} {n : Int} (hW : SW X) (hKW : KWc X) (hT : TX b n) (h11 : v 1 1 = n) (h2 : ∀ i, 0 ≤ i → i < n → v 2 i = b i) (hz : 0 ≤ v 6 1 ∧ 0 ≤ v 8 1 ∧ 0 ≤ v 10 1 ∧ 0 ≤ v 13 1) : CX mX8_readAll 10 [(2, 5), (2, 1)] X v (fun _ v1 => (∃ N, TOK b n N v1) ∧ Fr SLx v v1) := by
  have hn4 := hT.1
  have key : ∀ (x : Int) (V : VV) (c : Int), 0 ≤ x → x ≤ n → 0 ≤ c → c ≤ x → lS b n x = tS b n c → (∀ i, 0 ≤ i → i < c → tS b n i < n) → BY b n V → TKp b n c V → Fr SLx v V → Ex mX8_readAll 10 42 [(2, 5), (2, 1), (0, x), (3, 0)] [] X V 0 0 (fun _ X1 v1 => X1 = X ∧ (∃ N, TOK b n N v1) ∧ Fr SLx v v1) := by
    refine loop2 (fun (x : Int) (_ : VV) => (n - x).toNat) (fun (x : Int) (V : VV) => ∀ c : Int, 0 ≤ x → x ≤ n → 0 ≤ c → c ≤ x → lS b n x = tS b n c → (∀ i, 0 ≤ i → i < c → tS b n i < n) → BY b n V → TKp b n c V → Fr SLx v V → Ex mX8_readAll 10 42 [(2, 5), (2, 1), (0, x), (3, 0)] [] X V 0 0 (fun _ X1 v1 => X1 = X ∧ (∃ N, TOK b n N v1) ∧ Fr SLx v v1)) (fun x V ih => ?_)
    intro c x0 xn c0 cx hl hin hB hP hf
    refine bX8_readAll_42 x (Nat.le_refl _) hW (fun _ => ⟨_, k_bytes hW hB, fun r22 w23 hPx => ?_⟩)
    obtain ⟨rfl, hr⟩ := hPx
    obtain rfl : n = r22 := (by simpa using hr : r22 = n).symm
    refine ⟨fun g => ⟨_, k_bytes hW hB, fun r26 w27 hPx => ?_⟩, fun g => ⟨_, k_byte hW hB x, fun r34 w35 hPx => ?_⟩⟩
    · obtain ⟨rfl, hr26⟩ := hPx
      obtain rfl : n = r26 := (by simpa using hr26 : r26 = n).symm
      have ex : x = n := by omega
      have eS : tS b n c = n := by rw [← hl, ex]; exact lS_stop (Int.le_refl _) (fun z => by omega)
      have eK : (260 : Int) = tK b n c := ((tK_end b hT c).mpr eS).symm
      have eE : tEnd b n n = n := by unfold tEnd; rw [if_pos rfl]
      have eL : (0 : Int) = tL b n c := by unfold tL; rw [eS, eE]; omega
      refine ⟨_, k_put hW hP ⟨c0, by omega⟩ 260 n 0, fun r30 w31 hPx => ?_⟩
      obtain ⟨-, e31⟩ := hPx
      have z := (tPut_one hP (Fr.rf (S := SLt)) (fun z0 _ _ => by omega)).2
      rw [← eK, ← eL, eS] at z
      rw [e31]
      obtain ⟨⟨⟨t1, t2, t3⟩, t4, t5⟩, f1⟩ := z
      have f2 : Fr SLx v (tPut w27 260 n 0) := hf.via f1 (fun _ _ q => q) (fun _ _ q => Or.inl q)
      have hB2 := hB.fr f1
      refine ⟨rfl, ⟨c, hT, ⟨c0, by omega, eK.symm, fun i i0 i1 z => ?_⟩, ⟨t1, t2, t3⟩, fun i i0 i1 => t4 i i0 (by omega), fun i i0 i1 z1 z2 => t5 i i0 (by omega) (hin i i0 i1) z1 z2, hB2.2.1, hB2.2.2⟩, f2⟩
      have := (tK_end b hT i).mp z
      have := hin i i0 i1
      omega
    · obtain ⟨rfl, hr34⟩ := hPx
      rw [gB_in ⟨x0, g⟩] at hr34
      obtain rfl : r34 = b x := by simpa using hr34
      refine ⟨_, k_isBlank hW _, fun r38 w39 hPx => ?_⟩
      obtain ⟨rfl, hr38⟩ := hPx
      obtain rfl : r38 = bI (b x = 10 ∨ b x = 32) := by simpa using hr38
      refine ⟨fun g2 => ?_, fun g2 => ?_⟩
      · rw [bI_0] at g2
        have ex : lS b n x = x := lS_stop (by omega) (fun _ z => g2 (bkB_iff.mp z))
        have eS : x = tS b n c := by rw [← hl, ex]
        have hlt : tS b n c < n := by omega
        have hone := k_readOne hW hKW hB hP ⟨c0, by omega⟩ hlt
        rw [← eS] at hone
        refine ⟨_, hone, fun r42 w43 hPx => ?_⟩
        obtain ⟨hr42, o2, o3⟩ := hPx
        obtain rfl : r42 = tL b n c := by simpa using hr42
        have hE := tEnd_bd b (Int.le_of_lt hlt)
        have hEl := hE.2.1 hlt
        have hL : tL b n c = tEnd b n (tS b n c) - tS b n c := rfl
        rw [if_neg (show ¬ tL b n c < 1 by omega)]
        have e : x + tL b n c = tEnd b n (tS b n c) := by omega
        rw [e]
        refine ⟨fun _ => ⟨by omega, by omega⟩, ih _ _ (by omega) (c + 1) (by omega) hE.1 (by omega) (by omega) (by rw [tS_s b n c0]) (fun i i0 i1 => ?_) (hB.fr o3) o2 (hf.via o3 (fun _ _ q => q) (fun _ _ q => Or.inl q))⟩
        by_cases hi : i = c
        · subst hi; exact hlt
        · exact hin i i0 (by omega)
      · rw [bI_n0] at g2
        refine ⟨fun _ => ⟨by omega, by omega⟩, ?_⟩
        show Ex mX8_readAll 10 42 [(2, 5), (2, 1), (0, x + 1), (3, 0)] [] X w39 0 0 _
        exact ih _ _ (by omega) c (by omega) (by omega) c0 (by omega) (by rw [lS_blank g (bkB_iff.mpr g2)]; exact hl) hin hB hP hf
  refine CX.of (by decide +kernel) rfl rfl rfl (bX8_readAll_0 (Nat.le_refl _) hW ⟨_, k_cut hW (rowS6 hW) 0, fun w3 hP => ⟨_, k_cut hW (rowS8 hW) 0, fun w7 hP2 => ⟨_, k_cut hW (rowS10 hW) 0, fun w11 hP3 => ⟨_, k_cut hW (rowS13 hW) 0, fun w15 hP4 => ?_⟩⟩⟩⟩)
  have e3 : w3 = rCut v 6 0 := hP
  have e7 : w7 = rCut w3 8 0 := hP2
  have e11 : w11 = rCut w7 10 0 := hP3
  have e15 : w15 = rCut w11 13 0 := hP4
  have f3 : Fr (fun r j => r = 6 ∧ j = 1) v w3 := fun r j hn => by rw [e3]; exact rCut_n hn
  have f7 : Fr (fun r j => r = 8 ∧ j = 1) w3 w7 := fun r j hn => by rw [e7]; exact rCut_n hn
  have f11 : Fr (fun r j => r = 10 ∧ j = 1) w7 w11 := fun r j hn => by rw [e11]; exact rCut_n hn
  have f15 : Fr (fun r j => r = 13 ∧ j = 1) w11 w15 := fun r j hn => by rw [e15]; exact rCut_n hn
  have a1 : w15 6 1 = 0 := by rw [f15 6 1 (by omega), f11 6 1 (by omega), f7 6 1 (by omega), e3]; exact rCut_0 hz.1
  have a2 : w15 8 1 = 0 := by
    rw [f15 8 1 (by omega), f11 8 1 (by omega), e7]; exact rCut_0 (by rw [f3 8 1 (by omega)]; exact hz.2.1)
  have a3 : w15 10 1 = 0 := by
    rw [f15 10 1 (by omega), e11]; exact rCut_0 (by rw [f7 10 1 (by omega), f3 10 1 (by omega)]; exact hz.2.2.1)
  have a4 : w15 13 1 = 0 := by
    rw [e15]; exact rCut_0 (by rw [f11 13 1 (by omega), f7 13 1 (by omega), f3 13 1 (by omega)]; exact hz.2.2.2)
  have g : ∀ r j, ¬ ((6 ≤ r ∧ r ≤ 13) ∧ j = 1) → w15 r j = v r j := fun r j hn => by
    rw [f15 r j (by omega), f11 r j (by omega), f7 r j (by omega), f3 r j (by omega)]
  have b1 : w15 1 1 = n := (g 1 1 (by omega)).trans h11
  refine ⟨_, k_addAll hW (rowS13 hW) (rowS1 hW) (by decide) (by omega) (by omega) (by omega), fun w19 hP5 => ?_⟩
  obtain ⟨p1, p2, p3⟩ := hP5
  have f19 : Fr (fun r j => (r = 13 ∧ j = 1) ∨ r = 14) w15 w19 := p3.mono (fun r j h q => h (by omega))
  have hB : BY b n w19 := ⟨hT, by rw [p1, a4, b1]; omega, fun i i0 i1 => by
    have z := p2 i i0 (by omega)
    rw [a4, show (0 : Int) + i = i by omega, g 2 i (by omega)] at z
    rw [z]; exact h2 i i0 i1⟩
  have hTK : TKp b n 0 w19 := ⟨⟨(f19 6 1 (by omega)).trans a1, (f19 8 1 (by omega)).trans a2, (f19 10 1 (by omega)).trans a3⟩, fun i i0 i1 => by omega, fun i i0 i1 => by omega⟩
  refine key 0 w19 0 (Int.le_refl _) hn4.1 (Int.le_refl _) (Int.le_refl _) rfl (fun i i0 i1 => by omega) hB hTK (fun r j hn => ?_)
  have h1 : ¬ ((r = 13 ∧ j = 1) ∨ r = 14) := fun q => hn (Or.inr q)
  have h3 : ¬ SLt r j := fun q => hn (Or.inl q)
  unfold SLt at h3
  rw [f19 r j h1, f15 r j (by omega), f11 r j (by omega), f7 r j (by omega), f3 r j (by omega)]
