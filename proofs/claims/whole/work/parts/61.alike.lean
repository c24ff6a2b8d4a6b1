/-! ===== alike, named of the reference ===== -/
/-- token i of a's and of b's are the same -/
def tkEq (v : VV) (a b k i : Int) : Prop := v 61 (400 * a + k) = v 61 (400 * b + i) ∧ v 63 (400 * a + k) = v 63 (400 * b + i) ∧ ∀ m, 0 ≤ m → m < v 63 (400 * a + k) → v 64 (400 * a + v 62 (400 * a + k) + m) = v 64 (400 * b + v 62 (400 * b + i) + m)
def alk (v : VV) (a b : Int) : Prop := v 60 a - v 67 a = v 60 b - v 67 b ∧ ∀ i, 0 ≤ i → i < v 60 a - v 67 a → tkEq v a b (v 67 a + i) (v 67 b + i)
def TkB (v : VV) (t : Int) : Prop := (0 ≤ v 67 t ∧ v 67 t ≤ v 60 t ∧ v 60 t ≤ 400) ∧ ∀ k, 0 ≤ k → k < v 60 t → 0 ≤ v 62 (400 * t + k) ∧ v 62 (400 * t + k) + v 63 (400 * t + k) ≤ 400 ∧ 0 ≤ v 63 (400 * t + k)
theorem TkB.of {b : Int → Int} {n t : Int} {v : VV} (hK : TKt b n t (v 60 t) v) (h : 0 ≤ v 67 t ∧ v 67 t ≤ v 60 t) : TkB v t := by
  obtain ⟨k1, k2, k3, k4, k5⟩ := hK
  refine ⟨⟨h.1, h.2, k5.2⟩, fun k k0 k1' => ?_⟩
  obtain ⟨-, e2, e3⟩ := k1 k k0 k1'
  have hp := tS_bd b k3.1.1 k
  have he := tEnd_bd b hp.2
  have hn := k3.1
  rw [e2, e3]
  unfold tL
  omega
set_option maxRecDepth 100000 in
set_option maxHeartbeats 4000000 in
theorem l_alike137 {X : XX} {v : VV} {Q : QQ} {d mc ms : Nat} (hW : SW X) (hd : 2 ≤ d) (a b k i : Int) (ha : 0 ≤ a ∧ a < 17) (hb : 0 ≤ b ∧ b < 17) (hA : TkB v a) (hB : TkB v b) (hk : 0 ≤ k ∧ k < v 60 a) (hi : 0 ≤ i ∧ i < v 60 b) (e1 : v 61 (400 * a + k) = v 61 (400 * b + i)) (e2 : v 63 (400 * a + k) = v 63 (400 * b + i)) (hn : ¬ tkEq v a b k i → Q (some (0, 0)) X v) (hy : tkEq v a b k i → Ex mX11_alike d 69 [(2, 47), (0, a), (0, b), (0, k + 1), (0, i + 1), (3, 0), (3, 0), (3, 0)] [] X v mc ms Q) : ∀ x : Int, (0 ≤ x ∧ x ≤ v 63 (400 * a + k)) → (∀ m, 0 ≤ m → m < x → v 64 (400 * a + v 62 (400 * a + k) + m) = v 64 (400 * b + v 62 (400 * b + i) + m)) → Ex mX11_alike d 137 [(2, 47), (0, a), (0, b), (0, k), (0, i), (0, 400 * a + k), (0, 400 * b + i), (0, x)] [] X v mc ms Q := by
  obtain ⟨p1, p2, p3⟩ := hA.2 k hk.1 hk.2
  obtain ⟨q1, q2, q3⟩ := hB.2 i hi.1 hi.2
  have h4 := hA.1
  have h5 := hB.1
  refine loop1 (fun x : Int => (v 63 (400 * a + k) - x).toNat) (fun x : Int => (0 ≤ x ∧ x ≤ v 63 (400 * a + k)) → (∀ m, 0 ≤ m → m < x → v 64 (400 * a + v 62 (400 * a + k) + m) = v 64 (400 * b + v 62 (400 * b + i) + m)) → Ex mX11_alike d 137 [(2, 47), (0, a), (0, b), (0, k), (0, i), (0, 400 * a + k), (0, 400 * b + i), (0, x)] [] X v mc ms Q) (fun x ih => ?_)
  intro hx hp
  refine bX11_alike_137 a b k i _ _ x hd hW (fun _ _ _ _ _ _ _ => ⟨⟨by omega, by omega⟩, fun g => ⟨⟨by omega, by omega⟩, ⟨by omega, by omega⟩, hy ⟨e1, e2, fun m m0 m1 => hp m m0 (by omega)⟩⟩, fun g => ⟨⟨by omega, by omega⟩, ⟨by omega, by omega⟩, fun _ _ => ⟨by omega, by omega⟩, fun _ => ⟨by omega, by omega⟩, ⟨by omega, by omega⟩, ⟨by omega, by omega⟩, ⟨by omega, by omega⟩, fun _ _ => ⟨by omega, by omega⟩, fun _ => ⟨by omega, by omega⟩, ⟨by omega, by omega⟩, fun g2 => ⟨⟨by omega, by omega⟩, ?_⟩, fun g2 => ?_⟩⟩)
  · refine ih (x + 1) (by omega) ⟨by omega, by omega⟩ (fun m m0 m1 => ?_)
    by_cases h : m = x
    · subst h; exact g2
    · exact hp m m0 (by omega)
  · exact hn (fun z => g2 (z.2.2 x hx.1 g))
set_option maxRecDepth 100000 in
set_option maxHeartbeats 4000000 in
theorem l_alike69 {X : XX} {v : VV} {Q : QQ} {d mc ms : Nat} (hW : SW X) (hd : 2 ≤ d) (a b : Int) (ha : 0 ≤ a ∧ a < 17) (hb : 0 ≤ b ∧ b < 17) (hA : TkB v a) (hB : TkB v b) (hl : v 60 a - v 67 a = v 60 b - v 67 b) (hn : ¬ alk v a b → Q (some (0, 0)) X v) (hy : alk v a b → Q (some (0, 1)) X v) : ∀ x : Int, (0 ≤ x ∧ x ≤ v 60 a - v 67 a) → (∀ m, 0 ≤ m → m < x → tkEq v a b (v 67 a + m) (v 67 b + m)) → Ex mX11_alike d 69 [(2, 47), (0, a), (0, b), (0, v 67 a + x), (0, v 67 b + x), (3, 0), (3, 0), (3, 0)] [] X v mc ms Q := by
  have h4 := hA.1
  have h5 := hB.1
  refine loop1 (fun x : Int => (v 60 a - v 67 a - x).toNat) (fun x : Int => (0 ≤ x ∧ x ≤ v 60 a - v 67 a) → (∀ m, 0 ≤ m → m < x → tkEq v a b (v 67 a + m) (v 67 b + m)) → Ex mX11_alike d 69 [(2, 47), (0, a), (0, b), (0, v 67 a + x), (0, v 67 b + x), (3, 0), (3, 0), (3, 0)] [] X v mc ms Q) (fun x ih => ?_)
  intro hx hp
  have no : x < v 60 a - v 67 a → ¬ tkEq v a b (v 67 a + x) (v 67 b + x) → Q (some (0, 0)) X v := fun g h => hn (fun z => h (z.2 x hx.1 g))
  refine bX11_alike_69 a b _ _ hd hW (fun _ _ _ _ => ⟨⟨by omega, by omega⟩, fun g => hy ⟨hl, fun i i0 i1 => hp i i0 (by omega)⟩, fun g => ⟨⟨by omega, by omega⟩, fun _ => ⟨by omega, by omega⟩, ⟨by omega, by omega⟩, fun _ => ⟨by omega, by omega⟩, ⟨by omega, by omega⟩, ⟨by omega, by omega⟩, fun g2 => no (by omega) (fun z => g2 z.1), fun g2 => ⟨⟨by omega, by omega⟩, ⟨by omega, by omega⟩, fun g3 => ?_, fun g3 => no (by omega) (fun z => g3 z.2.1)⟩⟩⟩)
  have hq := hA.2 (v 67 a + x) (by omega) (by omega)
  refine l_alike137 hW hd a b (v 67 a + x) (v 67 b + x) ha hb hA hB ⟨by omega, by omega⟩ ⟨by omega, by omega⟩ g2 g3 (fun h => no (by omega) h) (fun h => ?_) 0 ⟨Int.le_refl _, hq.2.2⟩ (fun m m0 m1 => by omega)
  have h9 := ih (x + 1) (by omega) ⟨by omega, by omega⟩ (fun m m0 m1 => by
    by_cases hm : m = x
    · subst hm; exact h
    · exact hp m m0 (by omega))
  rw [← Int.add_assoc, ← Int.add_assoc] at h9
  exact h9
set_option maxRecDepth 100000 in
set_option maxHeartbeats 4000000 in
theorem c_alike {X : XX} {v : VV} {G : GT} (hW : SW X) (hI : MS G v) (hE : ∀ t, isS v t → 0 ≤ v 67 t ∧ v 67 t ≤ v 60 t) (a1 a2 : Int) : CX mX11_alike 2 [(2, 47), (0, a1), (0, a2)] X v (fun o v1 => v1 = v ∧ ((isS v a1 ∧ isS v a2 ∧ ¬ a1 = a2) ∧ o = some (0, bI (alk v a1 a2)) ∨ (¬ (isS v a1 ∧ isS v a2 ∧ ¬ a1 = a2) ∧ o = some (0, -1)))) := by
  have hb1 := hI.1.1
  refine CX.of (by decide +kernel) rfl rfl rfl (bX11_alike_0 a1 a2 (Nat.le_refl _) hW (fun _ _ => ⟨_, c_isSelect hW (by omega) a1, fun r2 w3 hP => ?_⟩))
  obtain ⟨rfl, hr⟩ := hP
  obtain rfl : r2 = bI (isS w3 a1) := by simpa using hr
  refine ⟨fun g => ?_, fun g => ⟨_, c_isSelect hW (by omega) a2, fun r6 w7 hP => ?_⟩⟩
  · rw [bI_0] at g; exact ⟨rfl, rfl, Or.inr ⟨fun z => g z.1, rfl⟩⟩
  rw [bI_n0] at g
  obtain ⟨rfl, hr6⟩ := hP
  obtain rfl : r6 = bI (isS w7 a2) := by simpa using hr6
  refine ⟨fun g2 => ?_, fun g2 => ⟨fun g3 => ?_, fun g3 => ?_⟩⟩
  · rw [bI_0] at g2; exact ⟨rfl, rfl, Or.inr ⟨fun z => g2 z.2.1, rfl⟩⟩
  rotate_left
  · exact ⟨rfl, rfl, Or.inr ⟨fun z => z.2.2 g3, rfl⟩⟩
  rw [bI_n0] at g2
  have ht1 := isT_b hI.1 g.1
  have ht2 := isT_b hI.1 g2.1
  have hA := TkB.of (hI.2.2 a1 g).1 (hE a1 g)
  have hB := TkB.of (hI.2.2 a2 g2).1 (hE a2 g2)
  have hA1 := hA.1
  have hB1 := hB.1
  refine ⟨⟨by omega, by omega⟩, ⟨by omega, by omega⟩, fun _ _ => ⟨by omega, by omega⟩, ⟨by omega, by omega⟩, ⟨by omega, by omega⟩, fun _ _ => ⟨by omega, by omega⟩, fun g4 => ⟨⟨by omega, by omega⟩, ⟨by omega, by omega⟩, ?_⟩, fun g4 => ⟨rfl, rfl, Or.inl ⟨⟨g, g2, g3⟩, by rw [bI_f (fun z => g4 z.1)]⟩⟩⟩
  have h := l_alike69 (Q := fun o X1 v1 => X1 = X ∧ v1 = w7 ∧ ((isS w7 a1 ∧ isS w7 a2 ∧ ¬ a1 = a2) ∧ o = some (0, bI (alk w7 a1 a2)) ∨ (¬ (isS w7 a1 ∧ isS w7 a2 ∧ ¬ a1 = a2) ∧ o = some (0, -1)))) (d := 2) (mc := 0) (ms := 0) hW (Nat.le_refl _) a1 a2 ⟨by omega, by omega⟩ ⟨by omega, by omega⟩ hA hB g4 (fun z => ⟨rfl, rfl, Or.inl ⟨⟨g, g2, g3⟩, by rw [bI_f z]⟩⟩) (fun z => ⟨rfl, rfl, Or.inl ⟨⟨g, g2, g3⟩, by rw [bI_t z]⟩⟩) 0 ⟨Int.le_refl _, by omega⟩ (fun m m0 m1 => by omega)
  rw [Int.add_zero, Int.add_zero] at h
  exact h
theorem lE_bd (b : Int → Int) {n s : Int} (h : s ≤ n) : lE b n s ≤ n ∧ s ≤ lE b n s := by
  rcases tcase b h with q | q | q | q | q
  · obtain ⟨q1, q2, q3, q4, q5, q6, q7⟩ := q; omega
  · obtain ⟨q1, q2, q3, q4, q5, q6⟩ := q
    have := (rEnd_spec b ltB h).1
    have := (rEnd_spec b ltB h).2.1
    omega
  · obtain ⟨q1, q2, q3, q4, q5, q6⟩ := q
    have := tEnd_bd b h
    omega
  · obtain ⟨q1, q2, q3, q4, q5, q6, q7⟩ := q; omega
  · obtain ⟨q1, q2, q3, q4, q5, q6, q7⟩ := q; omega
def NdS (r j : Int) : Prop := r = 47 ∧ (j = 22 ∨ j = 23 ∨ j = 24 ∨ j = 29 ∨ j = 30 ∨ j = 31 ∨ j = 32)
noncomputable def ndR (b : Int → Int) (n : Int) (v : VV) : Int := if tK b n 0 = 256 ∧ tL b n 0 ≤ 8 ∧ tK b n 1 = 260 then (if tN v (tW b n 0) = -1 then -2 else tN v (tW b n 0)) else -1
set_option maxRecDepth 100000 in
set_option maxHeartbeats 4000000 in
theorem c_named {X : XX} {v : VV} {b : Int → Int} {n : Int} (hW : SW X) (hb : MB v) (hM : MW v) (hX : TX b n) (eb : b = v 68) (en : v 47 22 = n) : CX mX11_named_ 2 [(2, 47)] X v (fun o v1 => o = some (0, ndR b n v) ∧ Fr NdS v v1 ∧ v1 47 22 = 0) := by
  have hn := hX.1
  have hb1 := hb.1
  refine CX.of (by decide +kernel) rfl rfl rfl (bX11_named__0 (Nat.le_refl _) hW ?_)
  rw [en]
  have f0 : Fr NdS v (upd2 (upd2 (upd2 v 47 23 0) 47 24 n) 47 22 0) := ((Fr.rf.up (by unfold NdS; omega)).up (by unfold NdS; omega)).up (by unfold NdS; omega)
  have k24 : upd2 (upd2 (upd2 v 47 23 0) 47 24 n) 47 22 0 47 24 = n := by rw [upd2_n _ (by omega), upd2_s]
  have k23 : upd2 (upd2 (upd2 v 47 23 0) 47 24 n) 47 22 0 47 23 = 0 := by rw [upd2_n _ (by omega), upd2_n _ (by omega), upd2_s]
  have k22 : upd2 (upd2 (upd2 v 47 23 0) 47 24 n) 47 22 0 47 22 = 0 := upd2_s _ _ _ _
  have k68 : upd2 (upd2 (upd2 v 47 23 0) 47 24 n) 47 22 0 68 = b := funext fun j => by rw [f0 68 j (by unfold NdS; omega), eb]
  generalize upd2 (upd2 (upd2 v 47 23 0) 47 24 n) 47 22 0 = u at *
  refine ⟨_, c_next hW (by omega) (by omega) (by omega), fun w3 hP => ?_⟩
  obtain ⟨n1, n2, n3, n4, n5, n6⟩ := hP
  rw [k68, k24, k23, ← tS_0] at n1 n2 n3 n4 n5
  have g3 : ∀ r j, ¬ SN r j → w3 r j = u r j := n6
  have f3 : Fr NdS v w3 := f0.via n6 (fun _ _ q => q) (fun r j q => by unfold SN at q; unfold NdS; omega)
  have hp := tS_bd b hn.1 0
  have hMw : MW w3 := hM.fr f3 (fun j j0 j1 => by unfold NdS; omega)
  obtain ⟨q1, q2, q3, q4⟩ := now_name (b := b) hp.2 hMw n3 n4 n5 hp.1 hX
  refine ⟨_, c_isName hW, fun r6 w7 hP => ?_⟩
  obtain ⟨rfl, hr⟩ := hP
  obtain rfl : r6 = bI (isNm w7) := by simpa using hr
  have e24 : w7 47 24 = n := (g3 47 24 (by unfold SN; omega)).trans k24
  have e68 : w7 68 = b := funext fun j => (g3 68 j (by unfold SN; omega)).trans (congrFun k68 j)
  have hle := lE_bd b hp.2
  refine ⟨_, c_next hW (by omega) (by omega) (by omega), fun w11 hP => ?_⟩
  obtain ⟨m1, m2, m3, m4, m5, m6⟩ := hP
  have f11 : Fr NdS v w11 := f3.via m6 (fun _ _ q => q) (fun r j q => by unfold SN at q; unfold NdS; omega)
  have h22 : w11 47 22 = 0 := by rw [m6 47 22 (by unfold SN; omega), g3 47 22 (by unfold SN; omega)]; exact k22
  rw [e68, e24, n2] at m3
  refine ⟨fun g => ?_, fun g => ?_⟩
  · rw [bI_0, q1] at g
    refine ⟨rfl, ?_, f11, h22⟩
    unfold ndR
    rw [if_neg (fun z => g ⟨z.1, z.2.1⟩)]
  · rw [bI_n0, q1] at g
    have e1 : tS b n 1 = lS b n (lE b n (tS b n 0)) := by
      rw [(q2 g.1).1]
      have := tS_s b n (a := 0) (Int.le_refl _)
      rw [Int.zero_add] at this
      exact this
    rw [← e1] at m3
    have hp1 := tS_bd b hn.1 1
    have hend := now_end (b := b) hp1.2 hp1.1 hX
    rw [m3]
    refine ⟨fun g2 => ?_, fun g2 => ?_⟩
    · have h260 : tK b n 1 = 260 := hend.mp g2
      have hbw : MB w11 := by
        unfold MB at hb ⊢
        rw [f11 47 0 (by unfold NdS; omega), f11 47 57 (by unfold NdS; omega), f11 47 59 (by unfold NdS; omega), f11 47 64 (by unfold NdS; omega)]
        omega
      have ew : w7 47 32 = tW b n 0 := n5
      rw [ew]
      refine ⟨_, c_tableNamed hW hbw _, fun r14 w15 hP => ?_⟩
      obtain ⟨rfl, r, hr14, hF⟩ := hP
      obtain rfl : r14 = r := by simpa using hr14
      have er : r14 = tN v (tW b n 0) := by
        rw [tN_eq f11 (fun j => ⟨by unfold NdS; omega, by unfold NdS; omega⟩), f11 47 0 (by unfold NdS; omega)] at hF
        exact hF.eq hb1.1
      have eR : ndR b n v = if r14 = -1 then -2 else r14 := by unfold ndR; rw [if_pos ⟨g.1, g.2, h260⟩, ← er]
      exact ⟨fun g5 => ⟨rfl, by rw [eR, if_neg g5], f11, h22⟩, fun g5 => ⟨rfl, by rw [eR, if_pos g5], f11, h22⟩⟩
    · refine ⟨rfl, ?_, f11, h22⟩
      unfold ndR
      rw [if_neg (fun z => g2 (hend.mpr z.2.2))]
