/-! ===== types in the reference ===== -/
def opT (s l r : Int) : Int := if s = 38 then (if l = 116 ∧ r = 116 then 116 else 0) else if r = 110 then (if l = 110 ∨ l = 100 then l else 0) else if s = 45 ∧ l = 100 ∧ r = 100 then 110 else 0
def wrV (v : VV) (p : Int) : VV := if v 47 52 = 0 then upd2 v 47 50 (v 47 50 + 1) else mMeans (upd2 v 47 50 (v 47 50 + 1)) 3 p
def cmV (v : VV) (a : Int) : VV := if v 73 (v 47 51) = 0 then upd2 (upd2 v 73 (v 47 51) 0) 72 (v 47 51) a else upd2 (if ¬ v 72 (v 47 51) = 0 ∧ ¬ a = 0 ∧ opT (v 73 (v 47 51)) (v 72 (v 47 51)) a = 0 then wrV (upd2 v 73 (v 47 51) 0) (v 74 (v 47 51)) else upd2 v 73 (v 47 51) 0) 72 (v 47 51) (opT (v 73 (v 47 51)) (v 72 (v 47 51)) a)
theorem mM_n {v : VV} {k p r j : Int} (h : ¬ (r = 47 ∧ (j = 25 ∨ j = 26))) : mMeans v k p r j = v r j := by
  unfold mMeans
  split
  · rfl
  · rw [upd2_n _ (by omega), upd2_n _ (by omega)]
theorem wrV_n {v : VV} {p r j : Int} (h : ¬ (r = 47 ∧ (j = 25 ∨ j = 26 ∨ j = 50))) : wrV v p r j = v r j := by
  unfold wrV
  split
  · rw [upd2_n _ (by omega)]
  · rw [mM_n (by omega), upd2_n _ (by omega)]
set_option maxRecDepth 100000 in
set_option maxHeartbeats 4000000 in
theorem l_c142 {X : XX} {w : VV} {Q : QQ} {d mc ms : Nat} (hW : SW X) (hd : 2 ≤ d) (hD : 0 ≤ w 47 51 ∧ w 47 51 < 4) (he : -2000000000 ≤ w 47 50 ∧ w 47 50 ≤ 2000000000) (a1 x2 x3 x4 x5 : Int) (hQ : Q none X (upd2 (if ¬ x4 = 0 ∧ x5 = 0 then wrV w (w 74 (w 47 51)) else w) 72 (w 47 51) x5)) : Ex mX11_comes d 142 [(2, 47), (0, a1), (0, x2), (0, x3), (0, x4), (0, x5)] [] X w mc ms Q := by
  refine bX11_comes_142 a1 x2 x3 x4 x5 hd hW (fun _ _ _ _ _ => ⟨fun g => ?_, fun g => ⟨fun g2 => ?_, fun g2 => ⟨hD, _, c_wrong hW he _, fun w3 hP => ?_⟩⟩⟩)
  · refine bX11_comes_165 a1 x2 x3 x4 x5 hd hW (fun _ _ _ _ _ => ⟨hD, ?_⟩)
    rw [if_neg (fun z => z.1 g)] at hQ
    exact hQ
  · refine bX11_comes_165 a1 x2 x3 x4 x5 hd hW (fun _ _ _ _ _ => ⟨hD, ?_⟩)
    rw [if_neg (fun z => g2 z.2)] at hQ
    exact hQ
  · rw [if_pos ⟨g, g2⟩] at hQ
    have e : w3 = wrV w (w 74 (w 47 51)) := hP
    have e51 : w3 47 51 = w 47 51 := by rw [e]; exact wrV_n (by omega)
    refine bX11_comes_165 a1 x2 x3 x4 x5 hd hW (fun _ _ _ _ _ => ?_)
    rw [e51]
    refine ⟨hD, ?_⟩
    rw [e]; exact hQ
set_option maxRecDepth 100000 in
set_option maxHeartbeats 4000000 in
theorem l_c57 {X : XX} {w : VV} {Q : QQ} {d mc ms : Nat} (hW : SW X) (hd : 2 ≤ d) (hD : 0 ≤ w 47 51 ∧ w 47 51 < 4) (he : -2000000000 ≤ w 47 50 ∧ w 47 50 ≤ 2000000000) (a1 x2 x3 : Int) (hQ : Q none X (upd2 w 72 (w 47 51) (opT x3 x2 a1))) : Ex mX11_comes d 57 [(2, 47), (0, a1), (0, x2), (0, x3), (3, 0), (3, 0)] [] X w mc ms Q := by
  have l142 : ∀ r, opT x3 x2 a1 = r → Ex mX11_comes d 142 [(2, 47), (0, a1), (0, x2), (0, x3), (0, 0), (0, r)] [] X w mc ms Q := fun r hr => l_c142 hW hd hD he a1 x2 x3 0 r (by rw [if_neg (fun z => z.1 rfl), ← hr]; exact hQ)
  have l86 : opT x3 x2 a1 = 0 → Ex mX11_comes d 86 [(2, 47), (0, a1), (0, x2), (0, x3), (0, 0), (0, 0)] [] X w mc ms Q := fun hr => bX11_comes_86 a1 x2 x3 0 0 hd hW (fun _ _ _ _ _ => l142 0 hr)
  have l110 : opT x3 x2 a1 = x2 → Ex mX11_comes d 110 [(2, 47), (0, a1), (0, x2), (0, x3), (0, 0), (0, 0)] [] X w mc ms Q := fun hr => bX11_comes_110 a1 x2 x3 0 0 hd hW (fun _ _ _ _ _ => l142 x2 hr)
  refine bX11_comes_57 a1 x2 x3 hd hW ?_
  intro g1
  have g1a := g1.1
  have g1b := g1.2
  intro g2
  have g2a := g2.1
  have g2b := g2.2
  intro g3
  have g3a := g3.1
  have g3b := g3.2
  refine ⟨fun g4 => ?_, fun g5 => ?_⟩
  · refine ⟨fun g6 => ?_, fun g7 => ?_⟩
    · refine ⟨fun g8 => ?_, fun g9 => ?_⟩
      · exact l142 _ (by unfold opT; (repeat' split) <;> omega)
      · refine ⟨fun g10 => ?_, fun g11 => ?_⟩
        · exact l142 _ (by unfold opT; (repeat' split) <;> omega)
        · refine ⟨fun g12 => ?_, fun g13 => ?_⟩
          · exact l142 _ (by unfold opT; (repeat' split) <;> omega)
          · exact l142 _ (by unfold opT; (repeat' split) <;> omega)
    · refine ⟨fun g14 => ?_, fun g15 => ?_⟩
      · exact l110 (by unfold opT; (repeat' split) <;> omega)
      · refine ⟨fun g16 => ?_, fun g17 => ?_⟩
        · exact l142 _ (by unfold opT; (repeat' split) <;> omega)
        · exact l110 (by unfold opT; (repeat' split) <;> omega)
  · refine ⟨fun g18 => ?_, fun g19 => ?_⟩
    · exact l86 (by unfold opT; (repeat' split) <;> omega)
    · refine ⟨fun g20 => ?_, fun g21 => ?_⟩
      · exact l86 (by unfold opT; (repeat' split) <;> omega)
      · exact l142 _ (by unfold opT; (repeat' split) <;> omega)
set_option maxRecDepth 100000 in
set_option maxHeartbeats 4000000 in
theorem c_comes {X : XX} {v : VV} (hW : SW X) (hD : 0 ≤ v 47 51 ∧ v 47 51 < 4) (he : -2000000000 ≤ v 47 50 ∧ v 47 50 ≤ 2000000000) (a1 : Int) : CX mX11_comes 2 [(2, 47), (0, a1)] X v (fun o v1 => v1 = cmV v a1) := by
  have eD : upd2 v 73 (v 47 51) 0 47 51 = v 47 51 := upd2_n _ (by omega)
  have e74 : upd2 v 73 (v 47 51) 0 74 (v 47 51) = v 74 (v 47 51) := upd2_n _ (by omega)
  have hD' : 0 ≤ upd2 v 73 (v 47 51) 0 47 51 ∧ upd2 v 73 (v 47 51) 0 47 51 < 4 := by rw [eD]; exact hD
  have he' : -2000000000 ≤ upd2 v 73 (v 47 51) 0 47 50 ∧ upd2 v 73 (v 47 51) 0 47 50 ≤ 2000000000 := by rw [upd2_n _ (by omega)]; exact he
  have q0 : v 73 (v 47 51) = 0 → (fun o X1 v1 => X1 = X ∧ v1 = cmV v a1) (none : Option AV) X (upd2 (upd2 v 73 (v 47 51) 0) 72 (v 47 51) a1) := fun g => ⟨rfl, by unfold cmV; rw [if_pos g]⟩
  have m57 : ¬ v 73 (v 47 51) = 0 → (v 72 (v 47 51) = 0 ∨ a1 = 0) → Ex mX11_comes 2 57 [(2, 47), (0, a1), (0, v 72 (v 47 51)), (0, v 73 (v 47 51)), (3, 0), (3, 0)] [] X (upd2 v 73 (v 47 51) 0) 0 0 (fun o X1 v1 => X1 = X ∧ v1 = cmV v a1) := fun g g2 => l_c57 hW (Nat.le_refl _) hD' he' _ _ _ ⟨rfl, by unfold cmV; rw [if_neg g, if_neg (by omega), eD]⟩
  have m142 : ¬ v 73 (v 47 51) = 0 → ¬ v 72 (v 47 51) = 0 → ¬ a1 = 0 → ∀ r, opT (v 73 (v 47 51)) (v 72 (v 47 51)) a1 = r → Ex mX11_comes 2 142 [(2, 47), (0, a1), (0, v 72 (v 47 51)), (0, v 73 (v 47 51)), (0, 1), (0, r)] [] X (upd2 v 73 (v 47 51) 0) 0 0 (fun o X1 v1 => X1 = X ∧ v1 = cmV v a1) := fun g g2 g3 r hr => l_c142 hW (Nat.le_refl _) hD' he' _ _ _ 1 r ⟨rfl, by
    unfold cmV
    rw [if_neg g, hr, eD, e74]
    by_cases hr0 : r = 0
    · rw [if_pos ⟨by decide, hr0⟩, if_pos ⟨g2, g3, hr0⟩]
    · rw [if_neg (fun z => hr0 z.2), if_neg (fun z => hr0 z.2.2)]⟩
  have m86 : ¬ v 73 (v 47 51) = 0 → ¬ v 72 (v 47 51) = 0 → ¬ a1 = 0 → opT (v 73 (v 47 51)) (v 72 (v 47 51)) a1 = 0 → Ex mX11_comes 2 86 [(2, 47), (0, a1), (0, v 72 (v 47 51)), (0, v 73 (v 47 51)), (0, 1), (0, 0)] [] X (upd2 v 73 (v 47 51) 0) 0 0 (fun o X1 v1 => X1 = X ∧ v1 = cmV v a1) := fun g g2 g3 hr => bX11_comes_86 _ _ _ 1 0 (Nat.le_refl _) hW (fun _ _ _ _ _ => m142 g g2 g3 0 hr)
  have m110 : ¬ v 73 (v 47 51) = 0 → ¬ v 72 (v 47 51) = 0 → ¬ a1 = 0 → opT (v 73 (v 47 51)) (v 72 (v 47 51)) a1 = v 72 (v 47 51) → Ex mX11_comes 2 110 [(2, 47), (0, a1), (0, v 72 (v 47 51)), (0, v 73 (v 47 51)), (0, 1), (0, 0)] [] X (upd2 v 73 (v 47 51) 0) 0 0 (fun o X1 v1 => X1 = X ∧ v1 = cmV v a1) := fun g g2 g3 hr => bX11_comes_110 _ _ _ 1 0 (Nat.le_refl _) hW (fun _ _ _ _ _ => m142 g g2 g3 _ hr)
  refine CX.of (by decide +kernel) rfl rfl rfl (bX11_comes_0 a1 (Nat.le_refl _) hW ?_)
  intro g1
  have g1a := g1.1
  have g1b := g1.2
  refine ⟨hD, ?_⟩
  refine ⟨hD, ?_⟩
  refine ⟨hD, ?_⟩
  refine ⟨fun g2 => ?_, fun g3 => ?_⟩
  · refine ⟨fun g4 => ?_, fun g5 => ?_⟩
    · exact m57 (by assumption) (by omega)
    · refine ⟨fun g6 => ?_, fun g7 => ?_⟩
      · exact m57 (by assumption) (by omega)
      · refine ⟨fun g8 => ?_, fun g9 => ?_⟩
        · refine ⟨fun g10 => ?_, fun g11 => ?_⟩
          · refine ⟨fun g12 => ?_, fun g13 => ?_⟩
            · exact m142 (by assumption) (by assumption) (by omega) _ (by unfold opT; (repeat' split) <;> omega)
            · refine ⟨fun g14 => ?_, fun g15 => ?_⟩
              · exact m142 (by assumption) (by assumption) (by omega) _ (by unfold opT; (repeat' split) <;> omega)
              · refine ⟨fun g16 => ?_, fun g17 => ?_⟩
                · exact m142 (by assumption) (by assumption) (by omega) _ (by unfold opT; (repeat' split) <;> omega)
                · exact m142 (by assumption) (by assumption) (by omega) _ (by unfold opT; (repeat' split) <;> omega)
          · refine ⟨fun g18 => ?_, fun g19 => ?_⟩
            · exact m110 (by assumption) (by assumption) (by omega) (by unfold opT; (repeat' split) <;> omega)
            · refine ⟨fun g20 => ?_, fun g21 => ?_⟩
              · exact m142 (by assumption) (by assumption) (by omega) _ (by unfold opT; (repeat' split) <;> omega)
              · exact m110 (by assumption) (by assumption) (by omega) (by unfold opT; (repeat' split) <;> omega)
        · refine ⟨fun g22 => ?_, fun g23 => ?_⟩
          · exact m86 (by assumption) (by assumption) (by omega) (by unfold opT; (repeat' split) <;> omega)
          · refine ⟨fun g24 => ?_, fun g25 => ?_⟩
            · exact m86 (by assumption) (by assumption) (by omega) (by unfold opT; (repeat' split) <;> omega)
            · exact m142 (by assumption) (by assumption) (by omega) _ (by unfold opT; (repeat' split) <;> omega)
  · refine ⟨hD, ?_⟩
    exact q0 (by assumption)
/-- the tokens and the text of table t -/
def TKt (b : Int → Int) (n t A : Int) (v : VV) : Prop := (∀ i, 0 ≤ i → i < A → v 61 (400 * t + i) = lNow b n (tS b n i) ∧ v 62 (400 * t + i) = tS b n i ∧ v 63 (400 * t + i) = tL b n i) ∧ (∀ i, 0 ≤ i → i < n → v 64 (400 * t + i) = b i) ∧ TX b n ∧ (0 ≤ t ∧ t ≤ 16) ∧ (0 ≤ A ∧ A ≤ 400)
theorem word_tc {b : Int → Int} {n p : Int} (h : p ≤ n) (h1 : lNow b n p = 1) (h8 : tEnd b n p - p ≤ 8) : p < tEnd b n p ∧ tEnd b n p ≤ n ∧ (∀ i, p ≤ i → i < tEnd b n p → 97 ≤ b i ∧ b i ≤ 122) ∧ lWord b n p = cdm 27 (fun i => b (p + i)) (tEnd b n p - p).toNat := by
  rcases tcase b h with q | q | q | q | q
  · have := q.2.1; omega
  · obtain ⟨q1, q2, q3, q4, q5, q6⟩ := q
    have h2 := tEnd_bd b h
    have h3 := (rEnd_spec b ltB h).2.2.1
    refine ⟨h2.2.1 q1, h2.1, fun i i0 i1 => ltB_iff.mp (h3 i i0 (by omega)), ?_⟩
    rcases q6 with q6 | q6
    · rw [q6.2.2.1, q5]
    · omega
  · have := q.2.2.1; omega
  · have := q.2.2.1; omega
  · have := q.2.2.1
    have := q.2.1
    omega
set_option maxRecDepth 100000 in
set_option maxHeartbeats 4000000 in
theorem l_wordOf {X : XX} {v : VV} {Q : QQ} {d mc ms : Nat} {b : Int → Int} {n t A k : Int} (hW : SW X) (hK : TKt b n t A v) (hk : 0 ≤ k ∧ k < A) (h1 : lNow b n (tS b n k) = 1) (h8 : tL b n k ≤ 8) (hQ : Q (some (1, tW b n k)) X v) : ∀ x6 : Int, (0 ≤ x6 ∧ x6 ≤ tL b n k) → Ex mX11_wordOf d 14 [(2, 47), (0, t), (0, k), (1, cdm 27 (fun i => b (tS b n k + i)) x6.toNat), (3, 0), (0, 400 * t + k), (0, x6)] [] X v mc ms Q := by
  obtain ⟨k1, k2, k3, k4, k5⟩ := hK
  have hp := tS_bd b k3.1.1 k
  obtain ⟨w1, w2, w3, w4⟩ := word_tc hp.2 h1 h8
  have hL : tL b n k = tEnd b n (tS b n k) - tS b n k := rfl
  obtain ⟨c1, c2, c3⟩ := k1 k hk.1 hk.2
  have k31 := k3.1
  refine loop1 (fun x6 => (tL b n k - x6).toNat) (fun x6 => (0 ≤ x6 ∧ x6 ≤ tL b n k) → Ex mX11_wordOf d 14 [(2, 47), (0, t), (0, k), (1, cdm 27 (fun i => b (tS b n k + i)) x6.toNat), (3, 0), (0, 400 * t + k), (0, x6)] [] X v mc ms Q) (fun x6 ih => ?_)
  intro hx
  refine bX11_wordOf_14 t k _ _ x6 (Nat.zero_le _) hW (fun _ _ _ _ => ?_)
  rw [c3, c2]
  refine ⟨⟨by omega, by omega⟩, fun g => ?_, fun g => ?_⟩
  · have e : cdm 27 (fun i => b (tS b n k + i)) x6.toNat = tW b n k := by
      unfold tW
      rw [w4, show x6 = tEnd b n (tS b n k) - tS b n k by omega]
    rw [e]; exact hQ
  · have hbd := cdm_bd (m := 27) (by decide) (f := fun i => b (tS b n k + i)) x6.toNat (fun i i0 i1 => w3 _ (by omega) (by omega))
    have hpw : (27 : Int) ^ x6.toNat ≤ 27 ^ 8 := p27_8 (by omega)
    have e27 : (27 : Int) ^ 8 = 282429536481 := by decide
    rw [e27] at hpw
    have hl := w3 (tS b n k + x6) (by omega) (by omega)
    have e64 : v 64 (400 * t + tS b n k + x6) = b (tS b n k + x6) := by
      rw [show 400 * t + tS b n k + x6 = 400 * t + (tS b n k + x6) by omega]
      exact k2 _ (by omega) (by omega)
    rw [e64]
    have hst : 27 * cdm 27 (fun i => b (tS b n k + i)) x6.toNat + b (tS b n k + x6) - 97 + 1 = cdm 27 (fun i => b (tS b n k + i)) (x6 + 1).toNat := by
      rw [show (x6 + 1).toNat = x6.toNat + 1 by omega]
      show _ = 27 * cdm 27 (fun i => b (tS b n k + i)) x6.toNat + (b (tS b n k + (x6.toNat : Int)) - 96)
      rw [show (x6.toNat : Int) = x6 by omega]
      omega
    refine ⟨⟨by omega, by omega⟩, ⟨by omega, by omega⟩, ⟨by omega, by omega⟩, fun _ _ => ⟨by omega, by omega⟩, fun _ => ⟨by omega, by omega⟩, ⟨by omega, by omega⟩, ⟨by omega, by omega⟩, ⟨by omega, by omega⟩, ⟨by omega, by omega⟩, ⟨by omega, by omega⟩, ?_⟩
    rw [hst]
    exact ih (x6 + 1) (by omega) ⟨by omega, by omega⟩
set_option maxRecDepth 100000 in
set_option maxHeartbeats 4000000 in
theorem c_wordOf {X : XX} {v : VV} {b : Int → Int} {n t A k : Int} (hW : SW X) (hK : TKt b n t A v) (hk : 0 ≤ k ∧ k < A) (h1 : lNow b n (tS b n k) = 1) (h8 : tL b n k ≤ 8) : CX mX11_wordOf 0 [(2, 47), (0, t), (0, k)] X v (fun o v1 => v1 = v ∧ o = some (1, tW b n k)) := by
  have k4 := hK.2.2.2.1
  have k5 := hK.2.2.2.2
  have hL : 0 ≤ tL b n k := by
    have := (tEnd_bd b (tS_bd b hK.2.2.1.1.1 k).2).2.2
    unfold tL; omega
  refine CX.of (by decide +kernel) rfl rfl rfl (bX11_wordOf_0 t k (Nat.le_refl _) hW (fun _ _ => ⟨⟨by omega, by omega⟩, fun _ => ⟨by omega, by omega⟩, ?_⟩))
  exact l_wordOf (Q := fun o X1 v1 => X1 = X ∧ (v1 = v ∧ o = some (1, tW b n k))) (mc := 0) (ms := 0) (d := 0) hW hK hk h1 h8 ⟨rfl, rfl, rfl⟩ 0 ⟨Int.le_refl _, hL⟩
theorem k256_now {b : Int → Int} {n p : Int} (h : p ≤ n) (h0 : 0 ≤ p) (hT : TX b n) (hk : tKind b n p = 256 ∨ tKind b n p = 266 ∨ tKind b n p = 267) : lNow b n p = 1 := by
  rcases tcase b h with q | q | q | q | q
  · obtain ⟨q1, q2, q3, q4, q5, q6, q7⟩ := q; omega
  · exact q.2.2.1
  · obtain ⟨q1, q2, q3, q4, q5, q6⟩ := q; omega
  · obtain ⟨q1, q2, q3, q4, q5, q6, q7⟩ := q; omega
  · obtain ⟨q1, q2, q3, q4, q5, q6, q7⟩ := q
    have := hT.2 p h0 q1
    omega
/-- the first below n, or -1 -/
noncomputable def fst1 (p : Int → Prop) : Nat → Int
  | 0 => -1
  | n + 1 => if fst1 p n = -1 then (@ite Int (p n) (Classical.propDecidable _) n (-1)) else fst1 p n
theorem fst1_spec (p : Int → Prop) : ∀ n : Nat, First p n (fst1 p n)
  | 0 => Or.inl ⟨rfl, fun t h0 h1 => by omega⟩
  | n + 1 => by
    have h := fst1_spec p n
    unfold fst1
    rcases h with ⟨h1, h2⟩ | ⟨h1, h2, h3, h4⟩
    · rw [if_pos h1]
      by_cases hp : p n
      · rw [if_pos hp]
        exact Or.inr ⟨by omega, by omega, hp, fun t h0 h5 => h2 t h0 h5⟩
      · rw [if_neg hp]
        refine Or.inl ⟨rfl, fun t h0 h5 => ?_⟩
        by_cases ht : t = n
        · rw [ht]; exact hp
        · exact h2 t h0 (by omega)
    · rw [if_neg (by omega)]
      exact Or.inr ⟨h1, by omega, h3, h4⟩
theorem First.eq {p : Int → Prop} {n r : Int} (h0 : 0 ≤ n) (h : First p n r) : r = fst1 p n.toNat := by
  have h2 := fst1_spec p n.toNat
  rw [Int.toNat_of_nonneg h0] at h2
  exact h.unique h2
/-- the table behind t that bears the name w, and a table's column of a name -/
noncomputable def qOf (v : VV) (t w : Int) : Int := if fst1 (bhn v t w) (v 54 t).toNat = -1 then -1 else v 55 (3 * t + fst1 (bhn v t w) (v 54 t).toNat)
noncomputable def cOf (v : VV) (q w : Int) : Int := fst1 (fun c => v 52 (8 * q + c) = w) (v 51 q).toNat
noncomputable def refTy (ty : Int) (v : VV) (t w1 w2 : Int) : Int := if qOf v t w1 = -1 then 0 else if cOf v (qOf v t w1) w2 = -1 then 0 else v ty (8 * qOf v t w1 + cOf v (qOf v t w1) w2)
def told (v : VV) (t w : Int) : Prop := ∃ i, 0 ≤ i ∧ i < v 54 t ∧ v 70 i = w
noncomputable def tnV (v : VV) (t w1 w2 p1 p2 : Int) : VV := if v 47 52 = 0 then v else if qOf v t w1 = -1 then (@ite VV (told v t w1) (Classical.propDecidable _) v (mMeans v 2 p1)) else if cOf v (qOf v t w1) w2 = -1 then mMeans v 2 p2 else v
set_option maxRecDepth 100000 in
set_option maxHeartbeats 4000000 in
theorem l_tn76 {X : XX} {v : VV} {Q : QQ} {d mc ms : Nat} {t k : Int} (hW : SW X) (hd : 1 ≤ d) (ht : 0 ≤ t ∧ t ≤ 16) (hk : 0 ≤ k ∧ k < 400) (w x3 x5 p1 : Int) (hp : v 62 (400 * t + k) = p1) (hQ : Q (some (0, 0)) X (if v 47 52 = 0 then v else (@ite VV (told v t w) (Classical.propDecidable _) v (mMeans v 2 p1)))) (hm : ¬ v 47 52 = 0 → True) (x4 : Int) (hx4 : ¬ v 47 52 = 0 → x4 = bI (told v t w)) : Ex mX11_typeOfName d 76 [(2, 47), (0, t), (0, k), (0, x3), (0, x4), (0, x5)] [] X v mc ms Q := by
  refine bX11_typeOfName_76 t k x3 x4 x5 hd hW (fun _ _ _ _ _ => ⟨fun g => ?_, fun g => ?_⟩)
  · rw [if_pos g] at hQ; exact hQ
  · rw [if_neg g] at hQ
    have e := hx4 g
    subst e
    refine ⟨fun g2 => ?_, fun g2 => ⟨⟨by omega, by omega⟩, fun _ => ⟨by omega, by omega⟩, ⟨by omega, by omega⟩, _, c_means hW _ _, fun w28 hP => ?_⟩⟩
    · rw [bI_n0] at g2
      rw [if_pos g2] at hQ; exact hQ
    · rw [bI_0] at g2
      rw [if_neg g2] at hQ
      have e : w28 = mMeans v 2 (v 62 (400 * t + k)) := hP
      rw [e, hp]; exact hQ
set_option maxRecDepth 100000 in
set_option maxHeartbeats 4000000 in
theorem l_tn23 {X : XX} {v : VV} {Q : QQ} {d mc ms : Nat} {b : Int → Int} {n t A k : Int} (hW : SW X) (hd : 1 ≤ d) (hK : TKt b n t A v) (hk : 0 ≤ k ∧ k < A) (h1 : lNow b n (tS b n k) = 1) (h8 : tL b n k ≤ 8) (h54 : 0 ≤ v 54 t ∧ v 54 t ≤ 3) (x3 : Int) (hQ : Q (some (0, 0)) X (if v 47 52 = 0 then v else (@ite VV (told v t (tW b n k)) (Classical.propDecidable _) v (mMeans v 2 (tS b n k))))) : ∀ x5 : Int, (0 ≤ x5 ∧ x5 ≤ v 54 t) → Ex mX11_typeOfName d 23 [(2, 47), (0, t), (0, k), (0, x3), (0, bI (∃ i, 0 ≤ i ∧ i < x5 ∧ v 70 i = tW b n k)), (0, x5)] [] X v mc ms Q := by
  have ht := hK.2.2.2.1
  have hA := hK.2.2.2.2
  have hp := (hK.1 k hk.1 hk.2).2.1
  refine loop1 (fun x5 => (v 54 t - x5).toNat) (fun x5 => (0 ≤ x5 ∧ x5 ≤ v 54 t) → Ex mX11_typeOfName d 23 [(2, 47), (0, t), (0, k), (0, x3), (0, bI (∃ i, 0 ≤ i ∧ i < x5 ∧ v 70 i = tW b n k)), (0, x5)] [] X v mc ms Q) (fun x5 ih => ?_)
  intro hx
  refine bX11_typeOfName_23 t k x3 _ x5 hd hW (fun _ _ _ _ _ => ⟨⟨by omega, by omega⟩, fun g => ?_, fun g => ⟨fun g2 => ?_, fun g2 => ?_⟩⟩)
  · exact l_tn76 hW hd ht ⟨hk.1, by omega⟩ (tW b n k) x3 x5 _ hp hQ (fun _ => trivial) _ (fun _ => by rw [show x5 = v 54 t by omega]; rfl)
  · exact l_tn76 hW hd ht ⟨hk.1, by omega⟩ (tW b n k) x3 x5 _ hp hQ (fun _ => trivial) _ (fun z => absurd g2 z)
  · have nx := ih (x5 + 1) (by omega) ⟨by omega, by omega⟩
    refine ⟨fun g3 => ⟨⟨by omega, by omega⟩, ?_⟩, fun g3 => ⟨⟨by omega, by omega⟩, _, c_wordOf hW hK hk h1 h8, fun r22 w23 hP => ?_⟩⟩
    · rw [bI_n0] at g3
      obtain ⟨i, i0, i1, i2⟩ := g3
      rw [bI_t (show ∃ i, 0 ≤ i ∧ i < x5 + 1 ∧ v 70 i = tW b n k from ⟨i, i0, by omega, i2⟩)] at nx
      exact nx
    · obtain ⟨rfl, hr⟩ := hP
      obtain rfl : r22 = tW b n k := by simpa using hr
      rw [bI_0] at g3
      refine ⟨fun g4 => ⟨⟨by omega, by omega⟩, ?_⟩, fun g4 => ⟨⟨by omega, by omega⟩, ?_⟩⟩
      · rw [bI_f (fun ⟨i, i0, i1, i2⟩ => by
          by_cases hi : i = x5
          · exact g4 (hi ▸ i2)
          · exact g3 ⟨i, i0, by omega, i2⟩)] at nx
        exact nx
      · rw [bI_t ⟨x5, hx.1, by omega, g4⟩] at nx
        exact nx
set_option maxRecDepth 100000 in
set_option maxHeartbeats 4000000 in
theorem c_typeOfName {X : XX} {v : VV} {b : Int → Int} {n t A k : Int} (hW : SW X) (hK : TKt b n t A v) (hk : 0 ≤ k ∧ k + 2 < A) (h1 : lNow b n (tS b n k) = 1) (h8 : tL b n k ≤ 8) (h1' : lNow b n (tS b n (k + 2)) = 1) (h8' : tL b n (k + 2) ≤ 8) (h54 : 0 ≤ v 54 t ∧ v 54 t ≤ 3) (hf : ∀ i, 0 ≤ i → i < v 54 t → -1 ≤ v 55 (3 * t + i) ∧ v 55 (3 * t + i) < t) (hc : ∀ q, 0 ≤ q → q < t → 0 ≤ v 51 q ∧ v 51 q ≤ 6) : CX mX11_typeOfName 1 [(2, 47), (0, t), (0, k)] X v (fun o v1 => v1 = tnV v t (tW b n k) (tW b n (k + 2)) (tS b n k) (tS b n (k + 2)) ∧ o = some (0, refTy (if v 47 52 = 0 then 77 else 53) v t (tW b n k) (tW b n (k + 2)))) := by
  have ht := hK.2.2.2.1
  have hA := hK.2.2.2.2
  refine CX.of (by decide +kernel) rfl rfl rfl (bX11_typeOfName_0 t k (Nat.le_refl _) hW (fun _ _ => ⟨_, c_wordOf hW hK ⟨hk.1, by omega⟩ h1 h8, fun r2 w3 hP => ?_⟩))
  obtain ⟨rfl, hr⟩ := hP
  obtain rfl : r2 = tW b n k := by simpa using hr
  refine ⟨_, c_behindNamed hW t _ ⟨ht.1, by omega⟩ h54 (fun i i0 i1 => ⟨(hf i i0 i1).1, by have := (hf i i0 i1).2; omega⟩), fun r6 w7 hP => ?_⟩
  obtain ⟨rfl, r, hr, hF⟩ := hP
  have er := hF.eq h54.1
  obtain rfl : r6 = if r = -1 then -1 else w7 55 (3 * t + r) := by simpa using hr
  have eq6 : (if r = -1 then -1 else w7 55 (3 * t + r)) = qOf w7 t (tW b n k) := by rw [er]; rfl
  have hq : qOf w7 t (tW b n k) = -1 ∨ (0 ≤ qOf w7 t (tW b n k) ∧ qOf w7 t (tW b n k) < t) := by
    rw [← eq6]
    rcases hF with ⟨z1, z2⟩ | ⟨z1, z2, z3, z4⟩
    · left; rw [if_pos z1]
    · right
      rw [if_neg (by omega)]
      have := hf r z1 z2
      have := z3.1
      omega
  rw [eq6]
  refine ⟨fun g => ⟨⟨by omega, by omega⟩, _, c_wordOf hW hK (k := k + 2) ⟨by omega, hk.2⟩ h1' h8', fun r10 w11 hP => ?_⟩, fun g => ?_⟩
  · obtain ⟨rfl, hr10⟩ := hP
    obtain rfl : r10 = tW b n (k + 2) := by simpa using hr10
    have hq2 : 0 ≤ qOf w11 t (tW b n k) ∧ qOf w11 t (tW b n k) < t := by omega
    have hc2 := hc _ hq2.1 hq2.2
    refine ⟨_, c_columnNamed hW _ _ ⟨hq2.1, by omega⟩ hc2, fun r14 w15 hP => ?_⟩
    obtain ⟨rfl, r', hr', hF'⟩ := hP
    obtain rfl : r14 = r' := by simpa using hr'
    have ec : r14 = cOf w15 (qOf w15 t (tW b n k)) (tW b n (k + 2)) := hF'.eq hc2.1
    have hr6 : r14 = -1 ∨ (0 ≤ r14 ∧ r14 < 6) := by
      rcases hF' with ⟨z1, -⟩ | ⟨z1, z2, -, -⟩
      · exact Or.inl z1
      · right; omega
    have p62 := (hK.1 (k + 2) (by omega) hk.2).2.1
    refine ⟨fun g2 => ⟨fun g3 => ⟨fun _ => ⟨by omega, by omega⟩, fun _ _ => ⟨by omega, by omega⟩, ⟨by omega, by omega⟩, rfl, ?_, ?_⟩, fun g3 => ⟨fun _ => ⟨by omega, by omega⟩, fun _ _ => ⟨by omega, by omega⟩, ⟨by omega, by omega⟩, rfl, ?_, ?_⟩⟩, fun g2 => ⟨fun g3 => ⟨rfl, ?_, ?_⟩, fun g3 => ⟨⟨by omega, by omega⟩, fun _ => ⟨by omega, by omega⟩, fun _ => ⟨by omega, by omega⟩, ⟨by omega, by omega⟩, _, c_means hW _ _, fun w19 hP => ⟨rfl, ?_, ?_⟩⟩⟩⟩
    · unfold tnV; rw [if_pos g3]
    · unfold refTy; rw [if_neg g, ← ec, if_neg g2, if_pos g3]
    · unfold tnV; rw [if_neg g3, if_neg g, ← ec, if_neg g2]
    · unfold refTy; rw [if_neg g, ← ec, if_neg g2, if_neg g3]
    · unfold tnV; rw [if_pos g3]
    · unfold refTy; rw [if_neg g, ← ec, if_pos g2]
    · have e : w19 = mMeans w15 2 (w15 62 (400 * t + k + 2)) := hP
      unfold tnV
      rw [if_neg g3, if_neg g, ← ec, if_pos g2, e, ← p62, show 400 * t + k + 2 = 400 * t + (k + 2) by omega]
    · unfold refTy; rw [if_neg g, ← ec, if_pos g2]
  · have h := l_tn23 (Q := fun o X1 v1 => X1 = X ∧ (v1 = tnV w7 t (tW b n k) (tW b n (k + 2)) (tS b n k) (tS b n (k + 2)) ∧ o = some (0, refTy (if w7 47 52 = 0 then 77 else 53) w7 t (tW b n k) (tW b n (k + 2))))) (mc := 0) (ms := 0) (d := 1) hW (Nat.le_refl _) hK ⟨hk.1, by omega⟩ h1 h8 h54 (qOf w7 t (tW b n k)) ⟨rfl, by
      unfold tnV
      by_cases g3 : w7 47 52 = 0
      · rw [if_pos g3, if_pos g3]
      · rw [if_neg g3, if_neg g3, if_pos g], by unfold refTy; rw [if_pos g]⟩ 0 ⟨Int.le_refl _, h54.1⟩
    rw [bI_f (fun ⟨i, i0, i1, _⟩ => by omega)] at h
    exact h
