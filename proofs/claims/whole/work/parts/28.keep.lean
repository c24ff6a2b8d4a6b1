/-! ===== the reference at a token ===== -/
def MW (v : VV) : Prop := v 47 33 = 439745 ∧ v 47 34 = 70441 ∧ v 47 35 = 10650290 ∧ v 47 36 = 131638 ∧ v 47 37 = 12384743 ∧ v 47 38 = 8897 ∧ v 47 39 = 14409
def TBx (b : Int → Int) (n T : Int) (v : VV) : Prop := (∀ j, v 68 j = b j) ∧ v 47 24 = n ∧ v 47 0 = T ∧ (0 ≤ T ∧ T ≤ 16) ∧ TX b n ∧ MW v
/-- what TBx speaks of -/
def TBs (r j : Int) : Prop := r = 68 ∨ (r = 47 ∧ (j = 24 ∨ j = 0 ∨ (33 ≤ j ∧ j ≤ 39)))
theorem TBx.fr {S : Int → Int → Prop} {b : Int → Int} {n T : Int} {v v1 : VV} (h : TBx b n T v) (hf : Fr S v v1) (hs : ∀ r j, TBs r j → ¬ S r j) : TBx b n T v1 := by
  obtain ⟨h1, h2, h3, h4, h5, m1, m2, m3, m4, m5, m6, m7⟩ := h
  have k : ∀ r j, TBs r j → v1 r j = v r j := fun r j q => hf r j (hs r j q)
  exact ⟨fun j => (k 68 j (by unfold TBs; omega)).trans (h1 j), (k 47 24 (by unfold TBs; omega)).trans h2, (k 47 0 (by unfold TBs; omega)).trans h3, h4, h5, (k 47 33 (by unfold TBs; omega)).trans m1, (k 47 34 (by unfold TBs; omega)).trans m2, (k 47 35 (by unfold TBs; omega)).trans m3, (k 47 36 (by unfold TBs; omega)).trans m4, (k 47 37 (by unfold TBs; omega)).trans m5, (k 47 38 (by unfold TBs; omega)).trans m6, (k 47 39 (by unfold TBs; omega)).trans m7⟩
def AT (b : Int → Int) (n T a e : Int) (v : VV) : Prop := TBx b n T v ∧ (0 ≤ a ∧ a ≤ 400 ∧ (v 47 25 = 0 → v 47 26 = -1)) ∧ v 47 30 = tS b n a ∧ v 47 23 = e ∧ v 47 29 = lNow b n (tS b n a) ∧ v 47 31 = lOver b n (tS b n a) ∧ v 47 32 = lWord b n (tS b n a) ∧ v 60 T = a ∧ (∀ i, 0 ≤ i → i < a → v 61 (400 * T + i) = lNow b n (tS b n i) ∧ v 62 (400 * T + i) = tS b n i ∧ v 63 (400 * T + i) = tL b n i)
def AT0 (b : Int → Int) (n T a : Int) (v : VV) : Prop := AT b n T a (lE b n (tS b n a)) v
/-- what reading touches -/
def AS (T r j : Int) : Prop := (r = 47 ∧ (j = 23 ∨ j = 29 ∨ j = 30 ∨ j = 31 ∨ j = 32 ∨ j = 25 ∨ j = 26)) ∨ (r = 60 ∧ j = T) ∨ ((r = 61 ∨ r = 62 ∨ r = 63) ∧ 400 * T ≤ j ∧ j < 400 * T + 400)
theorem AS_TB {T r j : Int} (h : TBs r j) : ¬ AS T r j := by unfold TBs at h; unfold AS; omega
set_option maxRecDepth 100000 in
set_option maxHeartbeats 4000000 in
theorem c_keeps {X : XX} {v : VV} {b : Int → Int} {n T a : Int} (hW : SW X) (hA : AT b n T a (tEnd b n (tS b n a)) v) (hk : ¬ tK b n a = 260) : CX mX11_keeps 2 [(2, 47)] X v (fun o v1 => AT0 b n T (a + 1) v1 ∧ (v1 47 25 = v 47 25 ∧ v1 47 26 = v 47 26) ∧ Fr (AS T) v v1) := by
  obtain ⟨hB, ha, a1, a2, a3, a4, a5, a6, a7⟩ := hA
  obtain ⟨b1, b2, b3, b4, b5, b6⟩ := id hB
  obtain ⟨k1, k2⟩ := tK_in b b5 ha.1 hk
  have k3 := (tS_bd b b5.1.1 a).1
  have k4 := tEnd_bd b (Int.le_of_lt k1)
  have k5 := b5.1.2
  refine CX.of (by decide +kernel) rfl rfl rfl (bX11_keeps_0 (Nat.le_refl _) hW ?_)
  rw [b3, a6]
  refine ⟨fun _ => ⟨by omega, by omega⟩, ⟨by omega, by omega⟩, fun _ _ => ⟨by omega, by omega⟩, ⟨by omega, by omega⟩, ⟨by omega, by omega⟩, fun _ _ => ⟨by rw [a1, a2]; omega, by rw [a1, a2]; omega⟩, ⟨by omega, by omega⟩, ⟨by omega, by omega⟩, fun _ => ⟨by omega, by omega⟩, ⟨by omega, by omega⟩, ?_⟩
  rw [a1, a2, a3]
  have hfr : Fr (AS T) v (upd2 (upd2 (upd2 (upd2 v 61 (400 * T + a) (lNow b n (tS b n a))) 62 (400 * T + a) (tS b n a)) 63 (400 * T + a) (tEnd b n (tS b n a) - tS b n a)) 60 T (a + 1)) := (((Fr.rf.up (by unfold AS; omega)).up (by unfold AS; omega)).up (by unfold AS; omega)).up (by unfold AS; omega)
  have u60 : upd2 (upd2 (upd2 (upd2 v 61 (400 * T + a) (lNow b n (tS b n a))) 62 (400 * T + a) (tS b n a)) 63 (400 * T + a) (tEnd b n (tS b n a) - tS b n a)) 60 T (a + 1) 60 T = a + 1 := upd2_s _ _ _ _
  have u23 : upd2 (upd2 (upd2 (upd2 v 61 (400 * T + a) (lNow b n (tS b n a))) 62 (400 * T + a) (tS b n a)) 63 (400 * T + a) (tEnd b n (tS b n a) - tS b n a)) 60 T (a + 1) 47 23 = tEnd b n (tS b n a) := by
    rw [upd2_n _ (by omega), upd2_n _ (by omega), upd2_n _ (by omega), upd2_n _ (by omega)]; exact a2
  have u25 : upd2 (upd2 (upd2 (upd2 v 61 (400 * T + a) (lNow b n (tS b n a))) 62 (400 * T + a) (tS b n a)) 63 (400 * T + a) (tEnd b n (tS b n a) - tS b n a)) 60 T (a + 1) 47 25 = v 47 25 := by
    rw [upd2_n _ (by omega), upd2_n _ (by omega), upd2_n _ (by omega), upd2_n _ (by omega)]
  have u26 : upd2 (upd2 (upd2 (upd2 v 61 (400 * T + a) (lNow b n (tS b n a))) 62 (400 * T + a) (tS b n a)) 63 (400 * T + a) (tEnd b n (tS b n a) - tS b n a)) 60 T (a + 1) 47 26 = v 47 26 := by
    rw [upd2_n _ (by omega), upd2_n _ (by omega), upd2_n _ (by omega), upd2_n _ (by omega)]
  have uT : ∀ i, 0 ≤ i → i < a + 1 → upd2 (upd2 (upd2 (upd2 v 61 (400 * T + a) (lNow b n (tS b n a))) 62 (400 * T + a) (tS b n a)) 63 (400 * T + a) (tEnd b n (tS b n a) - tS b n a)) 60 T (a + 1) 61 (400 * T + i) = lNow b n (tS b n i) ∧ upd2 (upd2 (upd2 (upd2 v 61 (400 * T + a) (lNow b n (tS b n a))) 62 (400 * T + a) (tS b n a)) 63 (400 * T + a) (tEnd b n (tS b n a) - tS b n a)) 60 T (a + 1) 62 (400 * T + i) = tS b n i ∧ upd2 (upd2 (upd2 (upd2 v 61 (400 * T + a) (lNow b n (tS b n a))) 62 (400 * T + a) (tS b n a)) 63 (400 * T + a) (tEnd b n (tS b n a) - tS b n a)) 60 T (a + 1) 63 (400 * T + i) = tL b n i := fun i i0 i1 => by
    by_cases hi : i = a
    · subst hi
      refine ⟨?_, ?_, ?_⟩
      · rw [upd2_n _ (by omega), upd2_n _ (by omega), upd2_n _ (by omega), upd2_s]
      · rw [upd2_n _ (by omega), upd2_n _ (by omega), upd2_s]
      · rw [upd2_n _ (by omega), upd2_s]; rfl
    · obtain ⟨q1, q2, q3⟩ := a7 i i0 (by omega)
      refine ⟨?_, ?_, ?_⟩
      · rw [upd2_n _ (by omega), upd2_n _ (by omega), upd2_n _ (by omega), upd2_n _ (by omega)]; exact q1
      · rw [upd2_n _ (by omega), upd2_n _ (by omega), upd2_n _ (by omega), upd2_n _ (by omega)]; exact q2
      · rw [upd2_n _ (by omega), upd2_n _ (by omega), upd2_n _ (by omega), upd2_n _ (by omega)]; exact q3
  generalize upd2 (upd2 (upd2 (upd2 v 61 (400 * T + a) (lNow b n (tS b n a))) 62 (400 * T + a) (tS b n a)) 63 (400 * T + a) (tEnd b n (tS b n a) - tS b n a)) 60 T (a + 1) = u at *
  have hBu : TBx b n T u := hB.fr hfr (fun r j q => AS_TB q)
  refine ⟨_, c_next hW (by rw [hBu.2.1]; omega) (by rw [u23]; omega) (by rw [u23, hBu.2.1]; omega), fun w3 hP => ?_⟩
  obtain ⟨n1, n2, n3, n4, n5, n6⟩ := hP
  have e68 : u 68 = b := funext hBu.1
  rw [e68, hBu.2.1, u23, ← tS_s b n ha.1] at n1 n2 n3 n4 n5
  have f2 : Fr (AS T) v w3 := Fr.tr hfr n6 (fun r j h => ⟨h, fun q => h (by unfold SN at q; unfold AS; omega)⟩)
  have g : ∀ r j, ¬ SN r j → w3 r j = u r j := n6
  have w25 : w3 47 25 = v 47 25 := by rw [g _ _ (by unfold SN; omega)]; exact u25
  have w26 : w3 47 26 = v 47 26 := by rw [g _ _ (by unfold SN; omega)]; exact u26
  refine ⟨rfl, ⟨hB.fr f2 (fun r j q => AS_TB q), ⟨by omega, by omega, by rw [w25, w26]; exact ha.2.2⟩, n1, n2, n3, n4, n5, ?_, fun i i0 i1 => ?_⟩, ⟨w25, w26⟩, f2⟩
  · rw [g _ _ (by unfold SN; omega)]; exact u60
  · rw [g _ _ (by unfold SN; omega), g _ _ (by unfold SN; omega), g _ _ (by unfold SN; omega)]; exact uT i i0 i1
/-! ===== what is read, in spec ===== -/
def rTake (b : Int → Int) (n s a : Int) : Bool × Int := if tK b n a = s then (true, a + 1) else (false, tS b n a)
def rName (b : Int → Int) (n a : Int) : Bool × Int := if tK b n a = 256 then (if tL b n a ≤ 8 then (true, a + 1) else (false, tS b n a + 8)) else (false, tS b n a)
def rThen (r : Bool × Int) (f : Int → Bool × Int) : Bool × Int := if r.1 = true then f r.2 else r
def rLeaf (b : Int → Int) (n a : Int) : Bool × Int := if tK b n a = 256 then rThen (rName b n a) (fun a => rThen (rTake b n 46 a) (rName b n)) else if tK b n a = 257 then (if tL b n a ≤ 4 then (true, a + 1) else (false, tS b n a + 4)) else if tK b n a = 258 then (true, a + 1) else if tK b n a = 259 then (false, tS b n a + tL b n a) else (false, tS b n a)
/-- behind a reading that answers r -/
def PR (b : Int → Int) (n T : Int) (S : Int → Int → Prop) (v : VV) (r : Bool × Int) (v1 : VV) : Prop := Fr S v v1 ∧ ((r.1 = true ∧ AT0 b n T r.2 v1 ∧ v1 47 25 = 0) ∨ (r.1 = false ∧ v1 47 25 = 1 ∧ v1 47 26 = r.2))
theorem PR.fail {b : Int → Int} {n T : Int} {S : Int → Int → Prop} {v v0 : VV} {p : Int} (h : v 47 25 = 0) (hf : Fr S v0 v) (h1 : S 47 25) (h2 : S 47 26) : PR b n T S v0 (false, p) (mFail v 1 p) := by
  unfold mFail
  rw [if_pos h]
  exact ⟨(hf.up h1).up h2, Or.inr ⟨rfl, by rw [upd2_n _ (by omega), upd2_s], upd2_s _ _ _ _⟩⟩
theorem PR.mono {b : Int → Int} {n T : Int} {S S' : Int → Int → Prop} {v v0 v1 : VV} {r : Bool × Int} (h : PR b n T S v r v1) (h0 : Fr S' v0 v) (hs : ∀ r j, ¬ S' r j → ¬ S r j) : PR b n T S' v0 r v1 := ⟨Fr.tr h0 h.1 (fun r j q => ⟨q, hs r j q⟩), h.2⟩
theorem AS25 (T : Int) : AS T 47 25 := by unfold AS; omega
theorem AS26 (T : Int) : AS T 47 26 := by unfold AS; omega
/-- a sign's byte -/
def sgB (s : Int) : Prop := 33 ≤ s ∧ s ≤ 126 ∧ ¬ s = 39 ∧ ¬ (48 ≤ s ∧ s ≤ 57) ∧ ¬ (97 ≤ s ∧ s ≤ 122)
theorem now_sign {b : Int → Int} {n p s : Int} (h : p ≤ n) (hs : sgB s) : (lNow b n p = s ↔ tKind b n p = s) ∧ (tKind b n p = s → lE b n p = tEnd b n p ∧ ¬ tKind b n p = 260) := by
  unfold sgB at hs
  rcases tcase b h with q | q | q | q | q
  · obtain ⟨q1, q2, q3, q4, q5, q6, q7⟩ := q; omega
  · obtain ⟨q1, q2, q3, q4, q5, q6⟩ := q
    have := wKind_cases (lWord b n p); omega
  · obtain ⟨q1, q2, q3, q4, q5, q6⟩ := q; omega
  · obtain ⟨q1, q2, q3, q4, q5, q6, q7⟩ := q; omega
  · obtain ⟨q1, q2, q3, q4, q5, q6, q7⟩ := q; omega
set_option maxRecDepth 100000 in
set_option maxHeartbeats 4000000 in
theorem c_sign2 {X : XX} {v : VV} {b : Int → Int} {n T a : Int} (hW : SW X) (hA : AT0 b n T a v) (h25 : v 47 25 = 0) (s : Int) (hs : sgB s) : CX mX11_sign 3 [(2, 47), (0, s)] X v (fun o v1 => PR b n T (AS T) v (rTake b n s a) v1 ∧ ((rTake b n s a).1 = false → v1 = mFail v 1 (tS b n a))) := by
  obtain ⟨hB, ha, a1, a2, a3, a4, a5, a6, a7⟩ := id hA
  obtain ⟨k1, k2⟩ := now_sign (b := b) (tS_bd b hB.2.2.2.2.1.1.1 a).2 hs
  refine CX.of (by decide +kernel) rfl rfl rfl (bX11_sign_0 s (Nat.le_refl _) hW ?_)
  intro _
  rw [a1, a3]
  refine ⟨fun g => ?_, fun g => ?_⟩
  · have e : rTake b n s a = (false, tS b n a) := if_neg (fun z => g (k1.mpr z))
    rw [e]
    refine ⟨_, c_fail hW _ _, fun w3 hP => ?_⟩
    obtain rfl := hP
    exact ⟨rfl, PR.fail h25 Fr.rf (AS25 T) (AS26 T), fun _ => rfl⟩
  · have g2 := k1.mp g
    obtain ⟨k3, k4⟩ := k2 g2
    have e : rTake b n s a = (true, a + 1) := if_pos g2
    rw [e]
    refine ⟨_, c_keeps (b := b) (n := n) (T := T) (a := a) hW (by unfold AT0 at hA; rw [k3] at hA; exact hA) k4, fun w7 hP => ?_⟩
    exact ⟨rfl, ⟨hP.2.2, Or.inl ⟨rfl, hP.1, hP.2.1.1.trans h25⟩⟩, fun z => Bool.noConfusion z⟩
theorem c_sign {X : XX} {v : VV} {b : Int → Int} {n T a : Int} (hW : SW X) (hA : AT0 b n T a v) (h25 : v 47 25 = 0) (s : Int) (hs : sgB s) : CX mX11_sign 3 [(2, 47), (0, s)] X v (fun o v1 => PR b n T (AS T) v (rTake b n s a) v1) := (c_sign2 hW hA h25 s hs).mono (fun _ _ h => h.1)
set_option maxRecDepth 100000 in
set_option maxHeartbeats 4000000 in
theorem c_signBad {X : XX} {v : VV} {b : Int → Int} {n T a : Int} (hW : SW X) (hA : AT0 b n T a v) (h25 : v 47 25 = 1) (s : Int) (hs : sgB s) : CX mX11_sign 3 [(2, 47), (0, s)] X v (fun o v1 => v1 47 25 = 1 ∧ v1 47 26 = v 47 26 ∧ Fr (AS T) v v1) := by
  obtain ⟨hB, ha, a1, a2, a3, a4, a5, a6, a7⟩ := id hA
  obtain ⟨k1, k2⟩ := now_sign (b := b) (tS_bd b hB.2.2.2.2.1.1.1 a).2 hs
  refine CX.of (by decide +kernel) rfl rfl rfl (bX11_sign_0 s (Nat.le_refl _) hW ?_)
  intro _
  rw [a1, a3]
  refine ⟨fun g => ?_, fun g => ?_⟩
  · refine ⟨_, c_fail hW _ _, fun w3 hP => ?_⟩
    obtain rfl := hP
    unfold mFail
    rw [if_neg (by omega)]
    exact ⟨rfl, h25, rfl, Fr.rf⟩
  · obtain ⟨k3, k4⟩ := k2 (k1.mp g)
    refine ⟨_, c_keeps (b := b) (n := n) (T := T) (a := a) hW (by unfold AT0 at hA; rw [k3] at hA; exact hA) k4, fun w7 hP => ?_⟩
    exact ⟨rfl, hP.2.1.1.trans h25, hP.2.1.2, hP.2.2⟩
theorem AT.mf {b : Int → Int} {n T a e : Int} {V : VV} (h : AT b n T a e V) (k p : Int) (hk : ¬ k = 0) : AT b n T a e (mFail V k p) := by
  unfold mFail
  split
  · obtain ⟨hB, ha, a1, a2, a3, a4, a5, a6, a7⟩ := h
    have hf : Fr (fun r j => r = 47 ∧ (j = 25 ∨ j = 26)) V (upd2 (upd2 V 47 25 k) 47 26 p) := (Fr.rf.up ⟨rfl, Or.inl rfl⟩).up ⟨rfl, Or.inr rfl⟩
    have g : ∀ r j, ¬ (r = 47 ∧ (j = 25 ∨ j = 26)) → upd2 (upd2 V 47 25 k) 47 26 p r j = V r j := hf
    refine ⟨hB.fr hf (fun r j q => by unfold TBs at q; omega), ⟨ha.1, ha.2.1, fun z => absurd (by rw [upd2_n _ (by omega), upd2_s] at z; exact z) hk⟩, ?_, ?_, ?_, ?_, ?_, ?_, fun i i0 i1 => ?_⟩
    · rw [g _ _ (by omega)]; exact a1
    · rw [g _ _ (by omega)]; exact a2
    · rw [g _ _ (by omega)]; exact a3
    · rw [g _ _ (by omega)]; exact a4
    · rw [g _ _ (by omega)]; exact a5
    · rw [g _ _ (by omega)]; exact a6
    · rw [g _ _ (by omega), g _ _ (by omega), g _ _ (by omega)]; exact a7 i i0 i1
  · exact h
theorem now_name {b : Int → Int} {n p : Int} (h : p ≤ n) {v : VV} (hM : MW v) (h1 : v 47 29 = lNow b n p) (h2 : v 47 31 = lOver b n p) (h3 : v 47 32 = lWord b n p) (h0 : 0 ≤ p) (hT : TX b n) : (isNm v ↔ tKind b n p = 256 ∧ tEnd b n p - p ≤ 8) ∧ (tKind b n p = 256 → lE b n p = tEnd b n p ∧ v 47 29 = 1) ∧ ((v 47 29 = 1 ∧ ¬ v 47 31 = -1) ↔ (tKind b n p = 256 ∧ 8 < tEnd b n p - p)) ∧ (¬ v 47 31 = -1 → v 47 29 = 1 → v 47 31 = p + 8) := by
  unfold isNm
  obtain ⟨m1, m2, m3, m4, m5, m6, m7⟩ := hM
  rw [m1, m2, m3, m4, m5, m6, m7, h1, h2, h3]
  rcases tcase b h with q | q | q | q | q
  · obtain ⟨q1, q2, q3, q4, q5, q6, q7⟩ := q; omega
  · obtain ⟨q1, q2, q3, q4, q5, q6⟩ := q
    have := wKind_cases (lWord b n p); omega
  · obtain ⟨q1, q2, q3, q4, q5, q6⟩ := q; omega
  · obtain ⟨q1, q2, q3, q4, q5, q6, q7⟩ := q; omega
  · obtain ⟨q1, q2, q3, q4, q5, q6, q7⟩ := q
    have := hT.2 p h0 q1
    omega
set_option maxRecDepth 100000 in
set_option maxHeartbeats 4000000 in
theorem c_name {X : XX} {v : VV} {b : Int → Int} {n T a : Int} (hW : SW X) (hA : AT0 b n T a v) (h25 : v 47 25 = 0) : CX mX11_name 3 [(2, 47)] X v (fun o v1 => PR b n T (AS T) v (rName b n a) v1) := by
  obtain ⟨hB, ha, a1, a2, a3, a4, a5, a6, a7⟩ := id hA
  have hp := tS_bd b hB.2.2.2.2.1.1.1 a
  obtain ⟨k1, k2, k3, k4⟩ := now_name (b := b) hp.2 hB.2.2.2.2.2 a3 a4 a5 hp.1 hB.2.2.2.2.1
  have l28 : ¬ (v 47 29 = 1 ∧ ¬ v 47 31 = -1) → Ex mX11_name 3 28 [(2, 47)] [] X v 0 0 (fun o X1 v1 => X1 = X ∧ PR b n T (AS T) v (rName b n a) v1) := fun hno => by
    refine bX11_name_28 (Nat.le_refl _) hW ⟨_, c_isName hW, fun r6 w7 hP => ?_⟩
    obtain ⟨rfl, hr⟩ := hP
    obtain rfl : r6 = bI (isNm w7) := by simpa using hr
    refine ⟨fun g => ?_, fun g => ?_⟩
    · rw [bI_n0, k1] at g
      have e : rName b n a = (true, a + 1) := by unfold rName; rw [if_pos (show tK b n a = 256 from g.1), if_pos (show tL b n a ≤ 8 from g.2)]
      rw [e]
      refine ⟨_, c_keeps (b := b) (n := n) (T := T) (a := a) hW (by unfold AT0 at hA; rw [(k2 g.1).1] at hA; exact hA) (by have := g.1; unfold tK; omega), fun w11 hP => ?_⟩
      exact ⟨rfl, hP.2.2, Or.inl ⟨rfl, hP.1, hP.2.1.1.trans h25⟩⟩
    · rw [bI_0, k1] at g
      rw [k3] at hno
      have e : rName b n a = (false, tS b n a) := by
        unfold rName
        by_cases h : tK b n a = 256
        · have h' : tKind b n (tS b n a) = 256 := h
          exfalso
          rcases Int.lt_or_le 8 (tEnd b n (tS b n a) - tS b n a) with q | q
          · exact hno ⟨h', q⟩
          · exact g ⟨h', q⟩
        · rw [if_neg h]
      rw [e]
      refine ⟨_, c_fail hW _ _, fun w15 hP => ?_⟩
      obtain rfl := hP
      rw [a1]
      exact ⟨rfl, PR.fail h25 Fr.rf (AS25 T) (AS26 T)⟩
  refine CX.of (by decide +kernel) rfl rfl rfl (bX11_name_0 (Nat.le_refl _) hW ⟨fun g => l28 (fun z => g z.1), fun g => ⟨fun g2 => l28 (fun z => z.2 g2), fun g2 => ?_⟩⟩)
  have g3 := k3.mp ⟨g, g2⟩
  have e : rName b n a = (false, tS b n a + 8) := by unfold rName; rw [if_pos (show tK b n a = 256 from g3.1), if_neg (show ¬ tL b n a ≤ 8 from by have := g3.2; unfold tL; omega)]
  rw [e, k4 g2 g]
  refine ⟨_, c_fail hW _ _, fun w15 hP => ?_⟩
  obtain rfl := hP
  exact ⟨rfl, PR.fail h25 Fr.rf (AS25 T) (AS26 T)⟩
theorem AT.at {b : Int → Int} {n T a e : Int} {V : VV} (h : AT b n T a e V) (e' : Int) : AT b n T a e' (upd2 V 47 23 e') := by
  obtain ⟨hB, ha, a1, a2, a3, a4, a5, a6, a7⟩ := h
  have hf : Fr (fun r j => r = 47 ∧ j = 23) V (upd2 V 47 23 e') := Fr.rf.up ⟨rfl, rfl⟩
  have g : ∀ r j, ¬ (r = 47 ∧ j = 23) → upd2 V 47 23 e' r j = V r j := hf
  refine ⟨hB.fr hf (fun r j q => by unfold TBs at q; omega), ⟨ha.1, ha.2.1, by rw [g _ _ (by omega), g _ _ (by omega)]; exact ha.2.2⟩, ?_, upd2_s _ _ _ _, ?_, ?_, ?_, ?_, fun i i0 i1 => ?_⟩
  · rw [g _ _ (by omega)]; exact a1
  · rw [g _ _ (by omega)]; exact a3
  · rw [g _ _ (by omega)]; exact a4
  · rw [g _ _ (by omega)]; exact a5
  · rw [g _ _ (by omega)]; exact a6
  · rw [g _ _ (by omega), g _ _ (by omega), g _ _ (by omega)]; exact a7 i i0 i1
set_option maxRecDepth 100000 in
set_option maxHeartbeats 4000000 in
theorem l_term43 {X : XX} {v : VV} {Q : QQ} {d mc ms : Nat} {b : Int → Int} {n T a : Int} (hW : SW X) (hl : tS b n a < n) (hq : b (tS b n a) = 39) (hd : 4 ≤ d) (hQ : ∀ V, PR b n T (AS T) v (rLeaf b n a) V → Q none X V) : ∀ (x : Int) (V : VV), (tS b n a + 1 ≤ x ∧ x ≤ n) → (∀ i, tS b n a + 1 ≤ i → i < x → qtB (b i) = true) → AT b n T a x V → V 47 25 = 0 → Fr (AS T) v V → Ex mX11_term d 43 [(2, 47)] [] X V mc ms Q := by
  refine loop2 (fun (x : Int) (V : VV) => (n - x).toNat) (fun (x : Int) (V : VV) => (tS b n a + 1 ≤ x ∧ x ≤ n) → (∀ i, tS b n a + 1 ≤ i → i < x → qtB (b i) = true) → AT b n T a x V → V 47 25 = 0 → Fr (AS T) v V → Ex mX11_term d 43 [(2, 47)] [] X V mc ms Q) (fun x V ih => ?_)
  intro hk hp hA h25 hf
  obtain ⟨hB, ha, a1, a2, a3, a4, a5, a6, a7⟩ := id hA
  have hn := hB.2.2.2.2.1.1.2
  have hs0 := (tS_bd b hB.2.2.2.2.1.1.1 a).1
  have tc : tcQ b n (tS b n a) := by
    rcases tcase b (Int.le_of_lt hl) with q | q | q | q | q
    · have := q.1; omega
    · have := q.2.1; omega
    · have := q.2.1; omega
    · exact q
    · exact absurd hq q.2.1.2.2
  have hx : ∀ (hend : RunTo b qtB n (tS b n a + 1) x), Ex mX11_term d 96 [(2, 47)] [] X V mc ms Q := fun hend => by
    have e : x = qE b n (tS b n a) := hend.eq
    obtain ⟨q1, q2, q3, q4, q5, q6, q7⟩ := tc
    have hKL : tK b n a = tKind b n (tS b n a) ∧ tL b n a = tEnd b n (tS b n a) - tS b n a := ⟨rfl, rfl⟩
    refine bX11_term_96 hd hW ?_
    rw [a2, hB.2.1, hB.1]
    have fail_ : ¬ (x < n ∧ b x = 39) → Q none X (mFail V 1 x) := fun hno => by
      rcases q7 with q7 | q7
      · exact absurd ⟨by rw [e]; exact q7.2.1, by rw [e]; exact q7.2.2.1⟩ hno
      · have e2 : rLeaf b n a = (false, x) := by
          unfold rLeaf
          rw [if_neg (by omega), if_neg (by omega), if_neg (by omega), if_pos (by omega)]
          exact congrArg (Prod.mk false) (by omega)
        refine hQ _ ?_
        rw [e2]
        exact PR.fail h25 hf (AS25 T) (AS26 T)
    refine ⟨fun g => ⟨_, c_fail hW _ _, fun w hP => ?_⟩, fun g => ⟨⟨by omega, by omega⟩, fun g2 => ⟨fun _ => ⟨by omega, by omega⟩, ?_⟩, fun g2 => ⟨_, c_fail hW _ _, fun w hP => ?_⟩⟩⟩
    · obtain rfl := hP; exact fail_ (fun z => by omega)
    · rcases q7 with q7 | q7
      · have e2 : rLeaf b n a = (true, a + 1) := by
          unfold rLeaf
          rw [if_neg (by omega), if_neg (by omega), if_pos (by omega)]
        have e3 : x + 1 = tEnd b n (tS b n a) := by omega
        rw [e3]
        refine ⟨_, c_keeps (b := b) (n := n) (T := T) (a := a) hW (hA.at _) (by omega), fun w27 hP => hQ _ ?_⟩
        rw [e2]
        refine ⟨Fr.tr (hf.up (by unfold AS; omega)) hP.2.2 (fun r j h => ⟨h, h⟩), Or.inl ⟨rfl, hP.1, ?_⟩⟩
        rw [hP.2.1.1, upd2_n _ (by omega)]; exact h25
      · exact absurd ⟨by omega, by rw [← e]; exact g2⟩ q7.2.1
    · obtain rfl := hP; exact fail_ (fun z => g2 z.2)
  have go : x < n → qtB (b x) = true → Ex mX11_term d 83 [(2, 47)] [] X V mc ms Q := fun g g2 => by
    refine bX11_term_83 hd hW ?_
    rw [a2]
    refine ⟨fun _ => ⟨by omega, by omega⟩, ih (x + 1) _ (by omega) ⟨by omega, by omega⟩ (fun i i0 i1 => ?_) (hA.at _) (by rw [upd2_n _ (by omega)]; exact h25) (hf.up (by unfold AS; omega))⟩
    by_cases hi : i = x
    · rw [hi]; exact g2
    · exact hp i i0 (by omega)
  refine bX11_term_43 hd hW ?_
  rw [a2, hB.2.1, hB.1]
  refine ⟨fun g => hx ⟨hk.1, hk.2, hp, fun q => by omega⟩, fun g => ⟨⟨by omega, by omega⟩, _, c_isLetter hW _, fun r18 w19 hP => ?_⟩⟩
  obtain ⟨rfl, hr⟩ := hP
  obtain rfl : r18 = bI (97 ≤ b x ∧ b x ≤ 122) := by simpa using hr
  refine ⟨fun g2 => ?_, fun g2 => ?_⟩
  · rw [bI_n0] at g2
    exact go g (qtB_iff.mpr (Or.inl g2))
  · rw [bI_0] at g2
    rw [a2, hB.1]
    exact ⟨⟨by omega, by omega⟩, fun g3 => hx ⟨hk.1, hk.2, hp, fun q z => (qtB_iff.mp z).elim g2 g3⟩, fun g3 => go g (qtB_iff.mpr (Or.inr g3))⟩
theorem now_num {b : Int → Int} {n p : Int} (h : p ≤ n) : (lNow b n p = 2 ↔ tKind b n p = 257 ∧ p < n ∧ (48 ≤ b p ∧ b p ≤ 57)) ∧ (lNow b n p = 2 → lE b n p = tEnd b n p ∧ ((tEnd b n p - p ≤ 4 ∧ lOver b n p = -1) ∨ (4 < tEnd b n p - p ∧ lOver b n p = p + 4))) := by
  rcases tcase b h with q | q | q | q | q
  · obtain ⟨q1, q2, q3, q4, q5, q6, q7⟩ := q; omega
  · obtain ⟨q1, q2, q3, q4, q5, q6⟩ := q
    have := wKind_cases (lWord b n p); omega
  · obtain ⟨q1, q2, q3, q4, q5, q6⟩ := q; omega
  · obtain ⟨q1, q2, q3, q4, q5, q6, q7⟩ := q; omega
  · obtain ⟨q1, q2, q3, q4, q5, q6, q7⟩ := q; omega
theorem now_let {b : Int → Int} {n p : Int} (h : p ≤ n) (hT : TX b n) (h0 : 0 ≤ p) : (lNow b n p = 3 ↔ p < n ∧ b p = 39) ∧ (tKind b n p = 258 ∨ tKind b n p = 259 → p < n ∧ b p = 39) ∧ (tKind b n p = 257 → lNow b n p = 2) ∧ (lNow b n p = 3 → lE b n p = p + 1) := by
  rcases tcase b h with q | q | q | q | q
  · obtain ⟨q1, q2, q3, q4, q5, q6, q7⟩ := q; omega
  · obtain ⟨q1, q2, q3, q4, q5, q6⟩ := q
    have := wKind_cases (lWord b n p); omega
  · obtain ⟨q1, q2, q3, q4, q5, q6⟩ := q; omega
  · obtain ⟨q1, q2, q3, q4, q5, q6, q7⟩ := q; omega
  · obtain ⟨q1, q2, q3, q4, q5, q6, q7⟩ := q
    have := hT.2 p h0 q1
    omega
theorem PR.r {b : Int → Int} {n T : Int} {S : Int → Int → Prop} {v v1 : VV} {r r' : Bool × Int} (h : PR b n T S v r v1) (e : r' = r) : PR b n T S v r' v1 := by rw [e]; exact h
theorem rThen_t {r : Bool × Int} {f : Int → Bool × Int} (h : r.1 = true) : rThen r f = f r.2 := if_pos h
theorem rThen_f {r : Bool × Int} {f : Int → Bool × Int} (h : r.1 = false) : rThen r f = r := if_neg (by rw [h]; decide)
set_option maxRecDepth 100000 in
set_option maxHeartbeats 4000000 in
theorem c_term {X : XX} {v : VV} {b : Int → Int} {n T a : Int} (hW : SW X) (hA : AT0 b n T a v) (h25 : v 47 25 = 0) : CX mX11_term 4 [(2, 47)] X v (fun o v1 => PR b n T (AS T) v (rLeaf b n a) v1) := by
  obtain ⟨hB, ha, a1, a2, a3, a4, a5, a6, a7⟩ := id hA
  have hp := tS_bd b hB.2.2.2.2.1.1.1 a
  obtain ⟨k1, k2, k3, k4⟩ := now_let (b := b) hp.2 hB.2.2.2.2.1 hp.1
  obtain ⟨k5, k6⟩ := now_num (b := b) hp.2
  have hKL : tK b n a = tKind b n (tS b n a) ∧ tL b n a = tEnd b n (tS b n a) - tS b n a := ⟨rfl, rfl⟩
  refine CX.of (by decide +kernel) rfl rfl rfl (bX11_term_0 (Nat.le_refl _) hW ⟨fun g => ⟨fun g2 => ?_, fun g2 => ?_⟩, fun g => ⟨fun g2 => ?_, fun g2 => ?_⟩⟩)
  · rw [a3] at g g2
    have e : rLeaf b n a = rThen (rName b n a) (fun a => rThen (rTake b n 46 a) (rName b n)) := by
      unfold rLeaf
      by_cases h : tK b n a = 256
      · rw [if_pos h]
      · rw [if_neg h, if_neg (fun z => g (k3 (hKL.1 ▸ z))), if_neg (fun z => g2 (k1.mpr (k2 (Or.inl (hKL.1 ▸ z))))), if_neg (fun z => g2 (k1.mpr (k2 (Or.inr (hKL.1 ▸ z)))))]
        unfold rName
        rw [if_neg h]
        rfl
    rw [e]
    refine ⟨_, c_name (b := b) (n := n) (T := T) (a := a) hW hA h25, fun w3 hP => ?_⟩
    have l165 : ∀ w, PR b n T (AS T) v (rThen (rName b n a) (rTake b n 46)) w → Ex mX11_term 4 165 [(2, 47)] [] X w 0 0 (fun o X1 v1 => X1 = X ∧ PR b n T (AS T) v (rThen (rName b n a) (fun a => rThen (rTake b n 46 a) (rName b n))) v1) := fun w hw => by
      refine bX11_term_165 (Nat.le_refl _) hW ?_
      rcases hw.2 with ⟨z1, z2, z3⟩ | ⟨z1, z2, z3⟩
      · have e3 : (rName b n a).1 = true := by
          cases h : (rName b n a).1 with
          | true => rfl
          | false => rw [rThen_f h, h] at z1; exact absurd z1 (by decide)
        rw [rThen_t e3] at z1 z2
        refine ⟨fun g => absurd z3 g, fun _ => ⟨_, c_name (b := b) (n := n) (T := T) hW z2 z3, fun w35 hP => ⟨rfl, ?_⟩⟩⟩
        exact (hP.mono hw.1 (fun r j h => h)).r (by rw [rThen_t e3, rThen_t z1])
      · refine ⟨fun g => ⟨rfl, ?_⟩, fun g => by omega⟩
        have hw' := hw
        cases h : (rName b n a).1 with
        | true =>
          refine hw'.r ?_
          rw [rThen_t h, rThen_t h]
          rw [rThen_t h] at z1
          exact rThen_f z1
        | false => exact hw'.r (by rw [rThen_f h, rThen_f h])
    rcases hP.2 with ⟨z1, z2, z3⟩ | ⟨z1, z2, z3⟩
    · refine ⟨fun g => absurd z3 g, fun _ => ⟨_, c_sign (b := b) (n := n) (T := T) hW z2 z3 46 (by unfold sgB; omega), fun w7 hP2 => l165 w7 ?_⟩⟩
      exact (hP2.mono hP.1 (fun r j h => h)).r (rThen_t z1)
    · exact ⟨fun _ => l165 w3 (hP.r (rThen_f z1)), fun g => by omega⟩
  · rw [a3] at g2
    obtain ⟨q1, q2⟩ := k1.mp g2
    refine l_term43 hW q1 q2 (Nat.le_refl _) (fun V hV => ⟨rfl, hV⟩) (tS b n a + 1) v ⟨Int.le_refl _, by omega⟩ (fun i i0 i1 => by omega) ?_ h25 Fr.rf
    have := k4 g2
    unfold AT0 at hA; rw [this] at hA; exact hA
  · rw [a3] at g
    rw [a4] at g2
    obtain ⟨q1, q2⟩ := k6 g
    obtain ⟨q3, q4, q5⟩ := k5.mp g
    have e : rLeaf b n a = (true, a + 1) := by unfold rLeaf; rw [if_neg (by omega), if_pos (by omega), if_pos (by omega)]
    rw [e]
    refine ⟨_, c_keeps (b := b) (n := n) (T := T) (a := a) hW (by unfold AT0 at hA; rw [q1] at hA; exact hA) (by omega), fun w11 hP => ?_⟩
    exact ⟨rfl, hP.2.2, Or.inl ⟨rfl, hP.1, hP.2.1.1.trans h25⟩⟩
  · rw [a3] at g
    rw [a4] at g2
    obtain ⟨q1, q2⟩ := k6 g
    obtain ⟨q3, q4, q5⟩ := k5.mp g
    have e : rLeaf b n a = (false, tS b n a + 4) := by unfold rLeaf; rw [if_neg (by omega), if_pos (by omega), if_neg (by omega)]
    rw [e]
    refine ⟨_, c_fail hW _ _, fun w hP => ?_⟩
    obtain rfl := hP
    rw [a4, show lOver b n (tS b n a) = tS b n a + 4 by omega]
    exact ⟨rfl, PR.fail h25 Fr.rf (AS25 T) (AS26 T)⟩
