/-! ===== formulas ===== -/
def isOp (k : Int) : Prop := k = 43 ∨ k = 45 ∨ k = 38
noncomputable def rMore (b : Int → Int) (n : Int) (pT : Int → Bool × Int) : Nat → Int → Bool × Int
  | 0, a => @ite _ (isOp (tK b n a)) (Classical.propDecidable _) (false, tS b n a) (true, a)
  | m + 1, a => @ite _ (isOp (tK b n a)) (Classical.propDecidable _) (rThen (pT (a + 1)) (rMore b n pT m)) (true, a)
noncomputable def rTerm (b : Int → Int) (n : Int) : Nat → Int → Bool × Int
  | 0, a => if tK b n a = 266 ∨ tK b n a = 267 then (false, tS b n (a + 1)) else rLeaf b n a
  | j + 1, a => if tK b n a = 266 ∨ tK b n a = 267 then rThen (rTake b n 40 (a + 1)) (fun a => rThen (rThen (rTerm b n j a) (rMore b n (rTerm b n j) 5)) (rTake b n 41)) else rLeaf b n a
noncomputable def rForm (b : Int → Int) (n : Int) (j : Nat) (a : Int) : Bool × Int := rThen (rTerm b n j a) (rMore b n (rTerm b n j) 5)
theorem rMore_no {b : Int → Int} {n : Int} {pT : Int → Bool × Int} {a : Int} (m : Nat) (h : ¬ isOp (tK b n a)) : rMore b n pT m a = (true, a) := by
  cases m with
  | zero => exact if_neg h
  | succ m => exact if_neg h
theorem rMore_0 {b : Int → Int} {n : Int} {pT : Int → Bool × Int} {a : Int} (h : isOp (tK b n a)) : rMore b n pT 0 a = (false, tS b n a) := if_pos h
theorem rMore_s {b : Int → Int} {n : Int} {pT : Int → Bool × Int} {a : Int} (m : Nat) (h : isOp (tK b n a)) : rMore b n pT (m + 1) a = rThen (pT (a + 1)) (rMore b n pT m) := if_pos h
def FS (T f r j : Int) : Prop := AS T r j ∨ r = 69 ∨ (r = 66 ∧ j = 8 * T + f)
theorem FS_TB {T f r j : Int} (h : TBs r j) : ¬ FS T f r j := fun q => by
  unfold FS at q
  rcases q with q | q
  · exact AS_TB h q
  · unfold TBs at h; omega
def FmF (X : XX) (v : VV) (Q : QQ) (T f : Int) (r : Bool × Int) : Prop := r.1 = false → ∀ V', Fr (FS T f) v V' → V' 47 25 = 1 → V' 47 26 = r.2 → Q none X V'
def FmT (X : XX) (v : VV) (Q : QQ) (d mc ms : Nat) (b : Int → Int) (n T f op : Int) (V : VV) (r : Bool × Int) : Prop := r.1 = true → ∀ V', AT0 b n T r.2 V' → V' 47 25 = 0 → Fr (FS T f) v V' → (∀ i, i ≤ op → V' 69 i = V 69 i) → Ex mX11_formula d 34 [(2, 47), (0, f), (0, op), (0, 0), (3, 0)] [] X V' mc ms Q
def FTj (X : XX) (v : VV) (Q : QQ) (d mc ms : Nat) (b : Int → Int) (n T f : Int) (j : Nat) : Prop := ∀ a V, AT0 b n T a V → V 47 25 = 0 → Fr (FS T f) v V → FmF X v Q T f (rTerm b n j a) → FmT X v Q d mc ms b n T f (3 - (j : Int)) V (rTerm b n j a) → Ex mX11_formula d 34 [(2, 47), (0, f), (0, 3 - (j : Int)), (0, 1), (3, 0)] [] X V mc ms Q
set_option maxRecDepth 100000 in
set_option maxHeartbeats 4000000 in
theorem l_fbad {X : XX} {v : VV} {Q : QQ} {d mc ms : Nat} {T f p : Int} (hW : SW X) (hd : 5 ≤ d) (hf : 0 ≤ f ∧ f < 8) (hQ : ∀ V', Fr (FS T f) v V' → V' 47 25 = 1 → V' 47 26 = p → Q none X V') (x2 x3 : Int) (V : VV) (hT : V 47 0 = T) (hT2 : 0 ≤ T ∧ T ≤ 16) (h : Fr (FS T f) v V) (h25 : V 47 25 = 1) (h26 : V 47 26 = p) : Ex mX11_formula d 34 [(2, 47), (0, f), (0, x2), (0, x3), (3, 0)] [] X V mc ms Q := by
  refine bX11_formula_34 f x2 x3 hd hW (fun _ _ _ => ⟨fun _ => ?_, fun g => by omega⟩)
  refine bX11_formula_252 f x2 x3 hd hW (fun _ _ _ => ?_)
  rw [hT]
  refine ⟨fun _ => ⟨by omega, by omega⟩, fun _ => ⟨by omega, by omega⟩, ⟨by omega, by omega⟩, ⟨by omega, by omega⟩, hQ _ (h.up (by unfold FS; omega)) ?_ ?_⟩
  · rw [upd2_n _ (by omega)]; exact h25
  · rw [upd2_n _ (by omega)]; exact h26
theorem now_op {b : Int → Int} {n p : Int} (h : p ≤ n) : (lNow b n p = 43 ∨ lNow b n p = 45 ∨ lNow b n p = 38) ↔ isOp (tKind b n p) := by
  unfold isOp
  rw [(now_sign (b := b) h (s := 43) (by unfold sgB; omega)).1, (now_sign (b := b) h (s := 45) (by unfold sgB; omega)).1, (now_sign (b := b) h (s := 38) (by unfold sgB; omega)).1]
theorem op_end {b : Int → Int} {n p : Int} (h : p ≤ n) (ho : isOp (tKind b n p)) : lE b n p = tEnd b n p ∧ ¬ tKind b n p = 260 := by
  rcases ho with q | q | q
  · exact (now_sign (b := b) h (s := 43) (by unfold sgB; omega)).2 q
  · exact (now_sign (b := b) h (s := 45) (by unfold sgB; omega)).2 q
  · exact (now_sign (b := b) h (s := 38) (by unfold sgB; omega)).2 q
theorem AT0.tEnd {b : Int → Int} {n T a : Int} {V : VV} (h : AT0 b n T a V) (e : lE b n (tS b n a) = tEnd b n (tS b n a)) : AT b n T a (tEnd b n (tS b n a)) V := by unfold AT0 at h; rw [e] at h; exact h
/-- a cell that is not AT0's was set -/
theorem AT.up {b : Int → Int} {n T a e : Int} {V : VV} (h : AT b n T a e V) {r j x : Int} (hs : ¬ TBs r j) (ha : ¬ AS T r j) : AT b n T a e (upd2 V r j x) := by
  obtain ⟨hB, h0, a1, a2, a3, a4, a5, a6, a7⟩ := h
  have hn := hB.2.2.2.2.1
  have hT := hB.2.2.2.1
  have g : ∀ r' j', AS T r' j' → upd2 V r j x r' j' = V r' j' := fun r' j' q => upd2_n _ (fun z => ha (by rw [← z.1, ← z.2]; exact q))
  refine ⟨hB.fr (S := fun r' j' => r' = r ∧ j' = j) (Fr.rf.up ⟨rfl, rfl⟩) (fun r' j' q z => hs (by rw [← z.1, ← z.2]; exact q)), ⟨h0.1, h0.2.1, by rw [g _ _ (AS25 T), g _ _ (AS26 T)]; exact h0.2.2⟩, ?_, ?_, ?_, ?_, ?_, ?_, fun i i0 i1 => ?_⟩
  · rw [g _ _ (by unfold AS; omega)]; exact a1
  · rw [g _ _ (by unfold AS; omega)]; exact a2
  · rw [g _ _ (by unfold AS; omega)]; exact a3
  · rw [g _ _ (by unfold AS; omega)]; exact a4
  · rw [g _ _ (by unfold AS; omega)]; exact a5
  · rw [g _ _ (by unfold AS; omega)]; exact a6
  · rw [g _ _ (by unfold AS; omega), g _ _ (by unfold AS; omega), g _ _ (by unfold AS; omega)]; exact a7 i i0 i1
theorem FS69 (T f i : Int) : FS T f 69 i := Or.inr (Or.inl rfl)
theorem FS_AS {T f r j : Int} (h : ¬ FS T f r j) : ¬ AS T r j := fun q => h (Or.inl q)
theorem AT0.up69 {b : Int → Int} {n T a i x : Int} {V : VV} (h : AT0 b n T a V) : AT0 b n T a (upd2 V 69 i x) := AT.up h (by unfold TBs; omega) (by unfold AS; omega)
theorem bool_nt {r : Bool} (h : ¬ r = true) : r = false := by cases r <;> simp_all
set_option maxRecDepth 100000 in
set_option maxHeartbeats 4000000 in
theorem l_fMore {X : XX} {v : VV} {Q : QQ} {d mc ms : Nat} {b : Int → Int} {n T f : Int} (hW : SW X) (hd : 5 ≤ d) (hf : 0 ≤ f ∧ f < 8) (j : Nat) (hj : j ≤ 3) (hFT : FTj X v Q d mc ms b n T f j) : ∀ (m : Nat) (a : Int) (V : VV), m ≤ 5 → AT0 b n T a V → V 47 25 = 0 → Fr (FS T f) v V → V 69 (3 - (j : Int)) = 5 - (m : Int) → FmF X v Q T f (rMore b n (rTerm b n j) m a) → ((rMore b n (rTerm b n j) m a).1 = true → ∀ V', AT0 b n T (rMore b n (rTerm b n j) m a).2 V' → ¬ isOp (tK b n (rMore b n (rTerm b n j) m a).2) → V' 47 25 = 0 → Fr (FS T f) v V' → (∀ i, i < 3 - (j : Int) → V' 69 i = V 69 i) → Ex mX11_formula d 34 [(2, 47), (0, f), (0, 3 - (j : Int)), (0, 0), (3, 0)] [] X V' mc ms Q) → Ex mX11_formula d 34 [(2, 47), (0, f), (0, 3 - (j : Int)), (0, 0), (3, 0)] [] X V mc ms Q := by
  intro m
  induction m with
  | zero =>
    intro a V _ hA h25 hFr h69 hF hT
    obtain ⟨hB, ha, a1, a2, a3, a4, a5, a6, a7⟩ := id hA
    have hp := tS_bd b hB.2.2.2.2.1.1.1 a
    by_cases ho : isOp (tK b n a)
    · rw [rMore_0 ho] at hF
      have hmo := (now_op (b := b) hp.2).mpr ho
      have l56 : Ex mX11_formula d 56 [(2, 47), (0, f), (0, 3 - (j : Int)), (0, 0), (3, 0)] [] X V mc ms Q := by
        refine bX11_formula_56 f _ _ hd hW (fun _ _ _ => ⟨fun _ => ⟨_, c_isMore hW, fun r6 w7 hP => ?_⟩, fun g => absurd rfl g⟩)
        obtain ⟨rfl, hr⟩ := hP
        obtain rfl : r6 = bI (w7 47 29 = 43 ∨ w7 47 29 = 45 ∨ w7 47 29 = 38) := by simpa using hr
        refine ⟨fun g => ?_, fun _ => ⟨⟨by omega, by omega⟩, fun _ => ⟨by omega, by omega⟩, ⟨by omega, by omega⟩, ⟨by omega, by omega⟩, fun g => by omega, fun g => ?_⟩⟩
        · rw [bI_0, a3] at g; exact absurd hmo g
        · refine ⟨_, c_fail hW _ _, fun w15 hP => ?_⟩
          obtain rfl := hP
          have e25 : upd2 w7 69 (3 - (j : Int)) (w7 69 (3 - (j : Int)) + 1) 47 25 = 0 := by rw [upd2_n _ (by omega)]; exact h25
          unfold mFail
          rw [if_pos e25]
          have k25 : upd2 (upd2 (upd2 w7 69 (3 - (j : Int)) (w7 69 (3 - (j : Int)) + 1)) 47 25 1) 47 26 (w7 47 30) 47 25 = 1 := by rw [upd2_n _ (by omega), upd2_s]
          refine bX11_formula_201 f _ _ hd hW (fun _ _ _ => ⟨fun _ => ?_, fun g => by omega⟩)
          refine l_fbad (v := v) (p := tS b n a) hW hd hf (hF rfl) _ _ _ ?_ hB.2.2.2.1 (((hFr.up (FS69 T f _)).up (Or.inl (AS25 T))).up (Or.inl (AS26 T))) k25 (by rw [upd2_s]; exact a1)
          rw [upd2_n _ (by omega), upd2_n _ (by omega), upd2_n _ (by omega)]; exact hB.2.2.1
      refine bX11_formula_34 f _ _ hd hW (fun _ _ _ => ⟨fun g => absurd h25 g, fun _ => ⟨fun g => absurd rfl g, fun _ => ⟨fun _ => l56, fun _ => ⟨_, c_isMore hW, fun r2 w3 hP => ?_⟩⟩⟩⟩)
      obtain ⟨rfl, hr⟩ := hP
      obtain rfl : r2 = bI (w3 47 29 = 43 ∨ w3 47 29 = 45 ∨ w3 47 29 = 38) := by simpa using hr
      refine ⟨fun g => ?_, fun _ => l56⟩
      rw [bI_0, a3] at g; exact absurd hmo g
    · rw [rMore_no 0 ho] at hT
      exact hT rfl V hA ho h25 hFr (fun _ _ => rfl)
  | succ m ih =>
    intro a V hm hA h25 hFr h69 hF hT
    obtain ⟨hB, ha, a1, a2, a3, a4, a5, a6, a7⟩ := id hA
    have hp := tS_bd b hB.2.2.2.2.1.1.1 a
    by_cases ho : isOp (tK b n a)
    · rw [rMore_s m ho] at hF hT
      have hmo := (now_op (b := b) hp.2).mpr ho
      obtain ⟨he1, he2⟩ := op_end (b := b) hp.2 ho
      have l56 : Ex mX11_formula d 56 [(2, 47), (0, f), (0, 3 - (j : Int)), (0, 0), (3, 0)] [] X V mc ms Q := by
        refine bX11_formula_56 f _ _ hd hW (fun _ _ _ => ⟨fun _ => ⟨_, c_isMore hW, fun r6 w7 hP => ?_⟩, fun g => absurd rfl g⟩)
        obtain ⟨rfl, hr⟩ := hP
        obtain rfl : r6 = bI (w7 47 29 = 43 ∨ w7 47 29 = 45 ∨ w7 47 29 = 38) := by simpa using hr
        refine ⟨fun g => ?_, fun _ => ⟨⟨by omega, by omega⟩, fun _ => ⟨by omega, by omega⟩, ⟨by omega, by omega⟩, ⟨by omega, by omega⟩, fun g => ?_, fun g => by omega⟩⟩
        · rw [bI_0, a3] at g; exact absurd hmo g
        · have hA2 : AT0 b n T a (upd2 w7 69 (3 - (j : Int)) (w7 69 (3 - (j : Int)) + 1)) := hA.up69
          have k25 : upd2 w7 69 (3 - (j : Int)) (w7 69 (3 - (j : Int)) + 1) 47 25 = 0 := by rw [upd2_n _ (by omega)]; exact h25
          have f2 : Fr (FS T f) v (upd2 w7 69 (3 - (j : Int)) (w7 69 (3 - (j : Int)) + 1)) := hFr.up (FS69 T f _)
          have k69 : upd2 w7 69 (3 - (j : Int)) (w7 69 (3 - (j : Int)) + 1) 69 (3 - (j : Int)) = 5 - (m : Int) := by rw [upd2_s]; omega
          have kk : ∀ i, i < 3 - (j : Int) → upd2 w7 69 (3 - (j : Int)) (w7 69 (3 - (j : Int)) + 1) 69 i = w7 69 i := fun i hi => upd2_n _ (by omega)
          generalize upd2 w7 69 (3 - (j : Int)) (w7 69 (3 - (j : Int)) + 1) = u at *
          refine bX11_formula_201 f _ _ hd hW (fun _ _ _ => ⟨fun g => absurd k25 g, fun _ => ⟨_, c_keeps (b := b) (n := n) (T := T) (a := a) hW (hA2.tEnd he1) he2, fun w43 hP => ?_⟩⟩)
          obtain ⟨p1, ⟨p2, -⟩, p3⟩ := hP
          have g69 : ∀ i, w43 69 i = u 69 i := fun i => p3 69 i (by unfold AS; omega)
          refine hFT (a + 1) w43 p1 (p2.trans k25) (Fr.tr f2 p3 (fun r j h => ⟨h, FS_AS h⟩)) (fun z => ?_) (fun z V' hV1 hV2 hV3 hV4 => ?_)
          · rw [rThen_f z] at hF; exact hF z
          · rw [rThen_t z] at hF hT
            refine ih _ V' (by omega) hV1 hV2 hV3 (by rw [hV4 _ (Int.le_refl _), g69]; exact k69) hF (fun z2 V2 q1 q2 q3 q4 q5 => hT z2 V2 q1 q2 q3 q4 (fun i hi => ?_))
            rw [q5 i hi, hV4 i (by omega), g69, kk i hi]
      refine bX11_formula_34 f _ _ hd hW (fun _ _ _ => ⟨fun g => absurd h25 g, fun _ => ⟨fun g => absurd rfl g, fun _ => ⟨fun _ => l56, fun _ => ⟨_, c_isMore hW, fun r2 w3 hP => ?_⟩⟩⟩⟩)
      obtain ⟨rfl, hr⟩ := hP
      obtain rfl : r2 = bI (w3 47 29 = 43 ∨ w3 47 29 = 45 ∨ w3 47 29 = 38) := by simpa using hr
      refine ⟨fun g => ?_, fun _ => l56⟩
      rw [bI_0, a3] at g; exact absurd hmo g
    · rw [rMore_no _ ho] at hT
      exact hT rfl V hA ho h25 hFr (fun _ _ => rfl)
/-- a word behind which brackets stand -/
theorem now_call {b : Int → Int} {n p : Int} (h : p ≤ n) {v : VV} (hM : MW v) (h1 : v 47 29 = lNow b n p) (h3 : v 47 32 = lWord b n p) (h0 : 0 ≤ p) (hTx : TX b n) : ((v 47 29 = 1 ∧ v 47 32 = v 47 38) ↔ tKind b n p = 266) ∧ ((v 47 29 = 1 ∧ v 47 32 = v 47 39) ↔ tKind b n p = 267) ∧ (tKind b n p = 266 ∨ tKind b n p = 267 → lE b n p = tEnd b n p) := by
  obtain ⟨m1, m2, m3, m4, m5, m6, m7⟩ := hM
  rw [m6, m7, h1, h3]
  rcases tcase b h with q | q | q | q | q
  · obtain ⟨q1, q2, q3, q4, q5, q6, q7⟩ := q; omega
  · obtain ⟨q1, q2, q3, q4, q5, q6⟩ := q
    have := wKind_cases (lWord b n p); omega
  · obtain ⟨q1, q2, q3, q4, q5, q6⟩ := q; omega
  · obtain ⟨q1, q2, q3, q4, q5, q6, q7⟩ := q; omega
  · obtain ⟨q1, q2, q3, q4, q5, q6, q7⟩ := q
    have := hTx.2 p h0 q1
    omega
set_option maxRecDepth 100000 in
set_option maxHeartbeats 4000000 in
theorem l_fClose {X : XX} {v : VV} {Q : QQ} {d mc ms : Nat} {b : Int → Int} {n T f : Int} (hW : SW X) (hd : 5 ≤ d) (hf : 0 ≤ f ∧ f < 8) (x2 a : Int) (V : VV) (hx : 0 < x2 ∧ x2 ≤ 3) (hA : AT0 b n T a V) (ho : ¬ isOp (tK b n a)) (h25 : V 47 25 = 0) (hFr : Fr (FS T f) v V) (hF : FmF X v Q T f (rTake b n 41 a)) (hT : FmT X v Q d mc ms b n T f (x2 + -1) V (rTake b n 41 a)) : Ex mX11_formula d 34 [(2, 47), (0, f), (0, x2), (0, 0), (3, 0)] [] X V mc ms Q := by
  obtain ⟨hB, ha, a1, a2, a3, a4, a5, a6, a7⟩ := id hA
  have hp := tS_bd b hB.2.2.2.2.1.1.1 a
  obtain ⟨k1, k2⟩ := now_sign (b := b) hp.2 (s := 41) (by unfold sgB; omega)
  have hmo : ¬ (lNow b n (tS b n a) = 43 ∨ lNow b n (tS b n a) = 45 ∨ lNow b n (tS b n a) = 38) := fun q => ho ((now_op (b := b) hp.2).mp q)
  refine bX11_formula_34 f _ _ hd hW (fun _ _ _ => ⟨fun g => absurd h25 g, fun _ => ⟨fun g => absurd rfl g, fun _ => ⟨fun _ => ?_, fun g => by omega⟩⟩⟩)
  refine bX11_formula_56 f _ _ hd hW (fun _ _ _ => ⟨fun _ => ⟨_, c_isMore hW, fun r6 w7 hP => ?_⟩, fun g => absurd rfl g⟩)
  obtain ⟨rfl, hr⟩ := hP
  obtain rfl : r6 = bI (w7 47 29 = 43 ∨ w7 47 29 = 45 ∨ w7 47 29 = 38) := by simpa using hr
  refine ⟨fun _ => ⟨fun g => ?_, fun g => ?_⟩, fun g => ?_⟩
  · rw [a3] at g
    have g2 : tK b n a = 41 := k1.mp g
    have e : rTake b n 41 a = (true, a + 1) := if_pos g2
    rw [e] at hT
    refine bX11_formula_235 f _ _ hd hW (fun _ _ _ => ⟨fun g => absurd h25 g, fun _ => ⟨_, c_keeps (b := b) (n := n) (T := T) (a := a) hW (hA.tEnd (k2 g2).1) (k2 g2).2, fun w43 hP => ⟨⟨by omega, by omega⟩, ?_⟩⟩⟩)
    obtain ⟨p1, ⟨p2, -⟩, p3⟩ := hP
    exact hT rfl w43 p1 (p2.trans h25) (Fr.tr hFr p3 (fun r j h => ⟨h, FS_AS h⟩)) (fun i _ => p3 69 i (by unfold AS; omega))
  · rw [a3] at g
    have g2 : ¬ tK b n a = 41 := fun z => g (k1.mpr z)
    have e : rTake b n 41 a = (false, tS b n a) := if_neg g2
    rw [e] at hF
    refine ⟨_, c_fail hW _ _, fun w11 hP => ?_⟩
    obtain rfl := hP
    have k := PR.fail (b := b) (n := n) (T := T) (p := w7 47 30) h25 hFr (Or.inl (AS25 T)) (Or.inl (AS26 T))
    obtain ⟨f1, ⟨z, -, -⟩ | ⟨-, z1, z2⟩⟩ := k
    · exact Bool.noConfusion z
    · refine bX11_formula_235 f _ _ hd hW (fun _ _ _ => ⟨fun _ => ⟨⟨by omega, by omega⟩, ?_⟩, fun g => by omega⟩)
      exact l_fbad (v := v) (p := tS b n a) hW hd hf (hF rfl) _ _ _ ((hB.fr (S := FS T f) (v1 := mFail w7 1 (w7 47 30)) (PR.fail (b := b) (n := n) (T := T) (p := w7 47 30) h25 Fr.rf (Or.inl (AS25 T)) (Or.inl (AS26 T))).1 (fun r j q => FS_TB q)).2.2.1) hB.2.2.2.1 f1 z1 (z2.trans a1)
  · rw [bI_n0, a3] at g; exact absurd g hmo
set_option maxRecDepth 100000 in
set_option maxHeartbeats 4000000 in
theorem l_fT {X : XX} {v : VV} {Q : QQ} {d mc ms : Nat} {b : Int → Int} {n T f : Int} (hW : SW X) (hd : 5 ≤ d) (hf : 0 ≤ f ∧ f < 8) : ∀ (j : Nat), j ≤ 3 → FTj X v Q d mc ms b n T f j := by
  intro j
  induction j with
  | zero =>
    intro _ a V hA h25 hFr hF hT
    obtain ⟨hB, ha, a1, a2, a3, a4, a5, a6, a7⟩ := id hA
    have hp := tS_bd b hB.2.2.2.2.1.1.1 a
    obtain ⟨k1, k2, k3⟩ := now_call (b := b) hp.2 hB.2.2.2.2.2 a3 a5 hp.1 hB.2.2.2.2.1
    have leaf : ¬ (tK b n a = 266 ∨ tK b n a = 267) → ∀ w, w = V → ∃ P25 : Option AV → VV → Prop, CX mX11_term 4 [(2, 47)] X w P25 ∧ ∀ w27, P25 none w27 → Ex mX11_formula d 34 [(2, 47), (0, f), (0, 3 - ((0 : Nat) : Int)), (0, 0), (3, 0)] [] X w27 mc ms Q := fun hno w hw => by
      subst hw
      have e : rTerm b n 0 a = rLeaf b n a := if_neg hno
      rw [e] at hF hT
      refine ⟨_, c_term (b := b) (n := n) (T := T) (a := a) hW hA h25, fun w27 hP => ?_⟩
      obtain ⟨f1, ⟨z1, z2, z3⟩ | ⟨z1, z2, z3⟩⟩ := hP
      · exact hT z1 w27 z2 z3 (Fr.tr hFr f1 (fun r j h => ⟨h, FS_AS h⟩)) (fun i _ => f1 69 i (by unfold AS; omega))
      · exact l_fbad (v := v) (p := (rLeaf b n a).2) hW hd hf (hF z1) _ _ _ ((hB.fr f1 (fun r j q => AS_TB q)).2.2.1) hB.2.2.2.1 (Fr.tr hFr f1 (fun r j h => ⟨h, FS_AS h⟩)) z2 z3
    have l82 : (tK b n a = 266 ∨ tK b n a = 267) → Ex mX11_formula d 82 [(2, 47), (0, f), (0, 3 - ((0 : Nat) : Int)), (0, 1), (3, 0)] [] X V mc ms Q := fun hy => by
      have hne : ¬ tK b n a = 260 := by omega
      refine bX11_formula_82 f _ _ hd hW (fun _ _ _ => ⟨_, c_keeps (b := b) (n := n) (T := T) (a := a) hW (hA.tEnd (k3 hy)) hne, fun w31 hP => ?_⟩)
      obtain ⟨p1, ⟨p2, -⟩, p3⟩ := hP
      have q25 := p2.trans h25
      have f1 : Fr (FS T f) v w31 := Fr.tr hFr p3 (fun r j h => ⟨h, FS_AS h⟩)
      obtain ⟨hB1, ha1, c1, c2, c3, c4, c5, c6, c7⟩ := id p1
      obtain ⟨s1, s2⟩ := now_sign (b := b) (tS_bd b hB.2.2.2.2.1.1.1 (a + 1)).2 (s := 40) (by unfold sgB; omega)
      have e : rTerm b n 0 a = (false, tS b n (a + 1)) := if_pos hy
      rw [e] at hF
      have fin : ∀ w, Fr (FS T f) v w → w 47 25 = 1 → w 47 26 = tS b n (a + 1) → Ex mX11_formula d 134 [(2, 47), (0, f), (0, 3 - ((0 : Nat) : Int)), (0, 1), (0, 1)] [] X w mc ms Q := fun w z0 z1 z2 =>
        bX11_formula_134 f _ _ _ hd hW (fun _ _ _ _ => ⟨fun g => by omega, fun _ => hF rfl w z0 z1 z2⟩)
      have l121 : ∀ w, Fr (FS T f) v w → w 47 25 = 1 → w 47 26 = tS b n (a + 1) → Ex mX11_formula d 121 [(2, 47), (0, f), (0, 3 - ((0 : Nat) : Int)), (0, 1), (0, 1)] [] X w mc ms Q := fun w z0 z1 z2 =>
        bX11_formula_121 f _ _ _ hd hW (fun _ _ _ _ => ⟨fun _ => fin w z0 z1 z2, fun g => by omega⟩)
      rw [c3]
      refine ⟨fun g => ?_, fun g => ⟨fun g2 => absurd rfl g2, fun _ => ⟨_, c_fail hW _ _, fun w35 hP => ?_⟩⟩⟩
      · refine bX11_formula_121 f _ _ _ hd hW (fun _ _ _ _ => ⟨fun g => absurd q25 g, fun _ => ⟨_, c_sign (b := b) (n := n) (T := T) hW p1 q25 40 (by unfold sgB; omega), fun w39 hP => ?_⟩⟩)
        have e2 : rTake b n 40 (a + 1) = (false, tS b n (a + 1)) := if_neg (fun z => g (s1.mpr z))
        rw [e2] at hP
        obtain ⟨f2, ⟨z1, -, -⟩ | ⟨z1, z2, z3⟩⟩ := hP
        · exact Bool.noConfusion z1
        · exact fin w39 (Fr.tr f1 f2 (fun r j h => ⟨h, FS_AS h⟩)) z2 z3
      · obtain rfl := hP
        obtain ⟨f2, ⟨z1, -, -⟩ | ⟨z1, z2, z3⟩⟩ := PR.fail (b := b) (n := n) (T := T) (p := w31 47 30) q25 f1 (Or.inl (AS25 T)) (Or.inl (AS26 T))
        · exact Bool.noConfusion z1
        · exact l121 _ f2 z2 (z3.trans c1)
    refine bX11_formula_34 f _ _ hd hW (fun _ _ _ => ⟨fun g => absurd h25 g, fun _ => ⟨fun _ => ?_, fun g => absurd g (by decide)⟩⟩)
    refine bX11_formula_56 f _ _ hd hW (fun _ _ _ => ⟨fun g => absurd g (by decide), fun _ => ⟨_, c_isWord hW _, fun r18 w19 hP => ?_⟩⟩)
    obtain ⟨rfl, hr⟩ := hP
    obtain rfl : r18 = bI (w19 47 29 = 1 ∧ w19 47 32 = w19 47 38) := by simpa using hr
    refine ⟨fun g => ?_, fun g => ⟨_, c_isWord hW _, fun r22 w23 hP => ?_⟩⟩
    · rw [bI_n0, k1] at g
      exact l82 (Or.inl g)
    · obtain ⟨rfl, hr⟩ := hP
      obtain rfl : r22 = bI (w23 47 29 = 1 ∧ w23 47 32 = w23 47 39) := by simpa using hr
      rw [bI_0, k1] at g
      refine ⟨fun g2 => ?_, fun g2 => ?_⟩
      · rw [bI_0, k2] at g2
        exact leaf (fun z => z.elim g g2) w23 rfl
      · rw [bI_n0, k2] at g2
        exact l82 (Or.inr g2)
  | succ j ih =>
    intro hj a V hA h25 hFr hF hT
    obtain ⟨hB, ha, a1, a2, a3, a4, a5, a6, a7⟩ := id hA
    have hp := tS_bd b hB.2.2.2.2.1.1.1 a
    obtain ⟨k1, k2, k3⟩ := now_call (b := b) hp.2 hB.2.2.2.2.2 a3 a5 hp.1 hB.2.2.2.2.1
    have leaf : ¬ (tK b n a = 266 ∨ tK b n a = 267) → ∀ w, w = V → ∃ P25 : Option AV → VV → Prop, CX mX11_term 4 [(2, 47)] X w P25 ∧ ∀ w27, P25 none w27 → Ex mX11_formula d 34 [(2, 47), (0, f), (0, 3 - ((j + 1 : Nat) : Int)), (0, 0), (3, 0)] [] X w27 mc ms Q := fun hno w hw => by
      subst hw
      have e : rTerm b n (j + 1) a = rLeaf b n a := if_neg hno
      rw [e] at hF hT
      refine ⟨_, c_term (b := b) (n := n) (T := T) (a := a) hW hA h25, fun w27 hP => ?_⟩
      obtain ⟨f1, ⟨z1, z2, z3⟩ | ⟨z1, z2, z3⟩⟩ := hP
      · exact hT z1 w27 z2 z3 (Fr.tr hFr f1 (fun r j h => ⟨h, FS_AS h⟩)) (fun i _ => f1 69 i (by unfold AS; omega))
      · exact l_fbad (v := v) (p := (rLeaf b n a).2) hW hd hf (hF z1) _ _ _ ((hB.fr f1 (fun r j q => AS_TB q)).2.2.1) hB.2.2.2.1 (Fr.tr hFr f1 (fun r j h => ⟨h, FS_AS h⟩)) z2 z3
    have l82 : (tK b n a = 266 ∨ tK b n a = 267) → Ex mX11_formula d 82 [(2, 47), (0, f), (0, 3 - ((j + 1 : Nat) : Int)), (0, 1), (3, 0)] [] X V mc ms Q := fun hy => by
      have hne : ¬ tK b n a = 260 := by omega
      refine bX11_formula_82 f _ _ hd hW (fun _ _ _ => ⟨_, c_keeps (b := b) (n := n) (T := T) (a := a) hW (hA.tEnd (k3 hy)) hne, fun w31 hP => ?_⟩)
      obtain ⟨p1, ⟨p2, -⟩, p3⟩ := hP
      have q25 := p2.trans h25
      have f1 : Fr (FS T f) v w31 := Fr.tr hFr p3 (fun r j h => ⟨h, FS_AS h⟩)
      obtain ⟨hB1, ha1, c1, c2, c3, c4, c5, c6, c7⟩ := id p1
      obtain ⟨s1, s2⟩ := now_sign (b := b) (tS_bd b hB.2.2.2.2.1.1.1 (a + 1)).2 (s := 40) (by unfold sgB; omega)
      have e : rTerm b n (j + 1) a = rThen (rTake b n 40 (a + 1)) (fun a => rThen (rThen (rTerm b n j a) (rMore b n (rTerm b n j) 5)) (rTake b n 41)) := if_pos hy
      rw [e] at hF hT
      have l121 : Ex mX11_formula d 121 [(2, 47), (0, f), (0, 3 - ((j + 1 : Nat) : Int)), (0, 1), (0, 1)] [] X w31 mc ms Q := by
        refine bX11_formula_121 f _ _ _ hd hW (fun _ _ _ _ => ⟨fun g => absurd q25 g, fun _ => ⟨_, c_sign (b := b) (n := n) (T := T) hW p1 q25 40 (by unfold sgB; omega), fun w39 hP => ?_⟩⟩)
        obtain ⟨f2, hz⟩ := hP
        have f3 : Fr (FS T f) v w39 := Fr.tr f1 f2 (fun r j h => ⟨h, FS_AS h⟩)
        rcases hz with ⟨z1, z2, z3⟩ | ⟨z1, z2, z3⟩
        · rw [rThen_t z1] at hF hT
          refine bX11_formula_134 f _ _ _ hd hW (fun _ _ _ _ => ⟨fun _ => ⟨⟨by omega, by omega⟩, ⟨by omega, by omega⟩, ?_⟩, fun g => absurd z3 g⟩)
          have e3 : 3 - ((j + 1 : Nat) : Int) + 1 = 3 - (j : Int) := by omega
          rw [e3]
          have u1 : AT0 b n T (rTake b n 40 (a + 1)).2 (upd2 w39 69 (3 - (j : Int)) 0) := z2.up69
          have u2 : upd2 w39 69 (3 - (j : Int)) 0 47 25 = 0 := by rw [upd2_n _ (by omega)]; exact z3
          have u3 : Fr (FS T f) v (upd2 w39 69 (3 - (j : Int)) 0) := f3.up (FS69 T f _)
          have u4 : upd2 w39 69 (3 - (j : Int)) 0 69 (3 - (j : Int)) = 0 := upd2_s _ _ _ _
          have u5 : ∀ i, i < 3 - (j : Int) → upd2 w39 69 (3 - (j : Int)) 0 69 i = V 69 i := fun i hi => by
            rw [upd2_n _ (by omega), f2 69 i (by unfold AS; omega), p3 69 i (by unfold AS; omega)]
          generalize upd2 w39 69 (3 - (j : Int)) 0 = u at *
          generalize (rTake b n 40 (a + 1)).2 = a2 at *
          refine ih (by omega) a2 u u1 u2 u3 (fun y => ?_) (fun y V1 y1 y2 y3 y4 => ?_)
          · have e4 : rThen (rThen (rTerm b n j a2) (rMore b n (rTerm b n j) 5)) (rTake b n 41) = rTerm b n j a2 := by rw [rThen_f y, rThen_f y]
            rw [e4] at hF
            exact hF y
          · rw [rThen_t y] at hF hT
            refine l_fMore (v := v) hW hd hf j (by omega) (ih (by omega)) 5 _ V1 (Nat.le_refl _) y1 y2 y3 (by rw [y4 _ (Int.le_refl _), u4]; rfl) (fun x => ?_) (fun x V2 x1 x2 x3 x4 x5 => ?_)
            · rw [rThen_f x] at hF; exact hF x
            · rw [rThen_t x] at hF hT
              refine l_fClose (v := v) hW hd hf _ _ V2 ⟨by omega, by omega⟩ x1 x2 x3 x4 hF (fun t V3 t1 t2 t3 t4 => ?_)
              have e5 : 3 - (j : Int) + -1 = 3 - ((j + 1 : Nat) : Int) := by omega
              rw [e5] at t4 ⊢
              exact hT t V3 t1 t2 t3 (fun i hi => by rw [t4 i hi, x5 i (by omega), y4 i (by omega), u5 i (by omega)])
        · rw [rThen_f z1] at hF
          exact bX11_formula_134 f _ _ _ hd hW (fun _ _ _ _ => ⟨fun g => by omega, fun _ => hF z1 w39 f3 z2 z3⟩)
      rw [c3]
      exact ⟨fun _ => l121, fun _ => ⟨fun _ => l121, fun g2 => by omega⟩⟩
    refine bX11_formula_34 f _ _ hd hW (fun _ _ _ => ⟨fun g => absurd h25 g, fun _ => ⟨fun _ => ?_, fun g => absurd g (by decide)⟩⟩)
    refine bX11_formula_56 f _ _ hd hW (fun _ _ _ => ⟨fun g => absurd g (by decide), fun _ => ⟨_, c_isWord hW _, fun r18 w19 hP => ?_⟩⟩)
    obtain ⟨rfl, hr⟩ := hP
    obtain rfl : r18 = bI (w19 47 29 = 1 ∧ w19 47 32 = w19 47 38) := by simpa using hr
    refine ⟨fun g => ?_, fun g => ⟨_, c_isWord hW _, fun r22 w23 hP => ?_⟩⟩
    · rw [bI_n0, k1] at g
      exact l82 (Or.inl g)
    · obtain ⟨rfl, hr⟩ := hP
      obtain rfl : r22 = bI (w23 47 29 = 1 ∧ w23 47 32 = w23 47 39) := by simpa using hr
      rw [bI_0, k1] at g
      refine ⟨fun g2 => ?_, fun g2 => ?_⟩
      · rw [bI_0, k2] at g2
        exact leaf (fun z => z.elim g g2) w23 rfl
      · rw [bI_n0, k2] at g2
        exact l82 (Or.inr g2)
/-- what a formula touches -/
def FG (T f r j : Int) : Prop := FS T f r j ∨ (r = 65 ∧ j = 8 * T + f)
/-- behind a formula -/
def FR (b : Int → Int) (n T f : Int) (v : VV) (a : Int) (r : Bool × Int) (v1 : VV) : Prop := PR b n T (FG T f) v r v1 ∧ (r.1 = true → v1 65 (8 * T + f) = a ∧ v1 66 (8 * T + f) = r.2 ∧ ¬ isOp (tK b n r.2))
theorem Fr.via {S S' U : Int → Int → Prop} {a b c : VV} (h1 : Fr S a b) (h2 : Fr S' b c) (hs : ∀ r j, S r j → U r j) (hs' : ∀ r j, S' r j → U r j) : Fr U a c := Fr.tr h1 h2 (fun r j h => ⟨fun q => h (hs r j q), fun q => h (hs' r j q)⟩)
set_option maxRecDepth 100000 in
set_option maxHeartbeats 4000000 in
theorem c_formula {X : XX} {v : VV} {b : Int → Int} {n T a f : Int} (hW : SW X) (hf : 0 ≤ f ∧ f < 8) (hA : AT0 b n T a v) (h25 : v 47 25 = 0) : CX mX11_formula 5 [(2, 47), (0, f)] X v (fun o v1 => FR b n T f v a (rForm b n 3 a) v1) := by
  obtain ⟨hB, ha, a1, a2, a3, a4, a5, a6, a7⟩ := id hA
  refine CX.of (by decide +kernel) rfl rfl rfl (bX11_formula_0 f (Nat.le_refl _) hW ?_)
  intro _
  have hT := hB.2.2.2.1
  rw [hB.2.2.1, a6]
  refine ⟨fun _ => ⟨by omega, by omega⟩, fun _ => ⟨by omega, by omega⟩, ⟨by omega, by omega⟩, ⟨by omega, by omega⟩, ?_⟩
  have u1 : AT0 b n T a (upd2 (upd2 v 65 (8 * T + f) a) 69 0 0) := AT0.up69 (AT.up hA (by unfold TBs; omega) (by unfold AS; omega))
  have u2 : upd2 (upd2 v 65 (8 * T + f) a) 69 0 0 47 25 = 0 := by rw [upd2_n _ (by omega), upd2_n _ (by omega)]; exact h25
  have u3 : Fr (FG T f) v (upd2 (upd2 v 65 (8 * T + f) a) 69 0 0) := (Fr.rf.up (Or.inr ⟨rfl, rfl⟩)).up (Or.inl (FS69 T f _))
  have u4 : upd2 (upd2 v 65 (8 * T + f) a) 69 0 0 69 0 = 0 := upd2_s _ _ _ _
  have u5 : upd2 (upd2 v 65 (8 * T + f) a) 69 0 0 65 (8 * T + f) = a := by rw [upd2_n _ (by omega), upd2_s]
  generalize upd2 (upd2 v 65 (8 * T + f) a) 69 0 0 = u at *
  have k65 : ∀ V, Fr (FS T f) u V → V 65 (8 * T + f) = a := fun V h => (h 65 _ (by unfold FS AS; omega)).trans u5
  have kF : ∀ V, Fr (FS T f) u V → Fr (FG T f) v V := fun V h => u3.via h (fun _ _ q => q) (fun _ _ q => Or.inl q)
  have hFT := l_fT (X := X) (v := u) (Q := fun o X1 v1 => X1 = X ∧ FR b n T f v a (rForm b n 3 a) v1) (d := 5) (mc := 0) (ms := 0) (b := b) (n := n) (T := T) hW (Nat.le_refl _) hf 3 (Nat.le_refl _)
  have e0 : (3 : Int) - ((3 : Nat) : Int) = 0 := by decide
  have bad_ : ∀ p V, rForm b n 3 a = (false, p) → Fr (FS T f) u V → V 47 25 = 1 → V 47 26 = p → FR b n T f v a (rForm b n 3 a) V := fun p V e z1 z2 z3 => by
    rw [e]
    exact ⟨⟨kF V z1, Or.inr ⟨rfl, z2, z3⟩⟩, fun z => Bool.noConfusion z⟩
  have h := hFT a u u1 u2 Fr.rf (fun y V z1 z2 z3 => ⟨rfl, bad_ _ V (by unfold rForm; rw [rThen_f y]; exact Prod.ext y rfl) z1 z2 z3⟩) (fun y V y1 y2 y3 y4 => ?_)
  · rw [e0] at h
    exact h
  · refine l_fMore (v := u) hW (Nat.le_refl _) hf 3 (Nat.le_refl _) hFT 5 _ V (Nat.le_refl _) y1 y2 y3 (by rw [y4 _ (Int.le_refl _), e0, u4]; rfl) (fun x V2 z1 z2 z3 => ⟨rfl, bad_ _ V2 (by unfold rForm; rw [rThen_t y]; exact Prod.ext x rfl) z1 z2 z3⟩) (fun x V2 x1 x2 x3 x4 x5 => ?_)
    have e : rForm b n 3 a = rMore b n (rTerm b n 3) 5 (rTerm b n 3 a).2 := by unfold rForm; rw [rThen_t y]
    rw [← e] at x x1 x2
    generalize rForm b n 3 a = r at *
    obtain ⟨hB2, hb, b1, b2, b3, b4, b5, b6, b7⟩ := id x1
    have l252 : Ex mX11_formula 5 252 [(2, 47), (0, f), (0, 3 - ((3 : Nat) : Int)), (0, 0), (3, 0)] [] X V2 0 0 (fun o X1 v1 => X1 = X ∧ FR b n T f v a r v1) := by
      refine bX11_formula_252 f _ _ (Nat.le_refl _) hW (fun _ _ _ => ?_)
      rw [hB2.2.2.1, b6]
      refine ⟨fun _ => ⟨by omega, by omega⟩, fun _ => ⟨by omega, by omega⟩, ⟨by omega, by omega⟩, ⟨by omega, by omega⟩, rfl, ⟨(kF V2 x4).up (Or.inl (by unfold FS; omega)), Or.inl ⟨x, AT.up x1 (by unfold TBs; omega) (by unfold AS; omega), ?_⟩⟩, fun _ => ⟨?_, upd2_s _ _ _ _, x2⟩⟩
      · rw [upd2_n _ (by omega)]; exact x3
      · rw [upd2_n _ (by omega)]; exact k65 V2 x4
    refine bX11_formula_34 f _ _ (Nat.le_refl _) hW (fun _ _ _ => ⟨fun _ => l252, fun _ => ⟨fun g => absurd rfl g, fun _ => ⟨fun g => by omega, fun _ => ⟨_, c_isMore hW, fun r2 w3 hP => ?_⟩⟩⟩⟩)
    obtain ⟨rfl, hr⟩ := hP
    obtain rfl : r2 = bI (w3 47 29 = 43 ∨ w3 47 29 = 45 ∨ w3 47 29 = 38) := by simpa using hr
    refine ⟨fun _ => l252, fun g => ?_⟩
    rw [bI_n0, b3] at g
    exact absurd ((now_op (b := b) (tS_bd b hB2.2.2.2.2.1.1.1 _).2).mp g) x2
