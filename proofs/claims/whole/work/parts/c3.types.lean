/-! ===== types found without a fault; names alike on either side ===== -/
theorem okN_op {s l r : Int} (hl : okN l) (hr : okN r) (h : ¬ opBad s l r) : okN (opT s l r) := by
  have h0 : ¬ l = 0 := by unfold okN at hl; omega
  have h1 : ¬ r = 0 := by unfold okN at hr; omega
  have h2 : ¬ opT s l r = 0 := fun z => h ⟨h0, h1, z⟩
  have h3 : okT (opT s l r) := okT_opT (Or.inr hl) (Or.inr hr)
  exact h3.resolve_left h2
theorem okN_L {b : Int → Int} {n a : Int} {R : Int → Int} (h : tK b n a = 256 → okN (R a)) : okN (tyL b n R a) := by
  unfold tyL
  by_cases k1 : tK b n a = 256
  · rw [if_pos k1]; exact h k1
  · rw [if_neg k1]
    unfold okN
    split <;> omega
theorem okN_T {b : Int → Int} {n : Int} {R : Int → Int} : ∀ (j : Nat) (a : Int), (∀ r, rfT b n j a r → okN (R r)) → okN (tyT b n R j a)
  | 0, a, h => by
    show okN (tyL b n R a)
    exact okN_L (fun k => h a ⟨k, rfl⟩)
  | j + 1, a, h => by
    show okN (if tK b n a = 266 then 110 else if tK b n a = 267 then 116 else tyL b n R a)
    by_cases k1 : tK b n a = 266
    · rw [if_pos k1]; exact Or.inl rfl
    · rw [if_neg k1]
      by_cases k2 : tK b n a = 267
      · rw [if_pos k2]; exact Or.inr (Or.inl rfl)
      · rw [if_neg k2]
        exact okN_L (fun k => h a (Or.inl ⟨k, rfl⟩))
theorem okN_M {b : Int → Int} {n : Int} {R : Int → Int} {j : Nat} : ∀ (m : Nat) (l a : Int), okN l → (∀ r, rfM b n (rTerm b n j) (rfT b n j) m a r → okN (R r)) → (∀ p, ¬ erM b n (tyT b n R j) (rTerm b n j) (erT b n R j) m l a p) → okN (tyM b n (tyT b n R j) (rTerm b n j) m l a)
  | 0, _, _, hl, _, _ => hl
  | m + 1, l, a, hl, hr, he => by
    unfold tyM
    by_cases g : isOp (tK b n a)
    · rw [if_pos g]
      have ht : okN (tyT b n R j (a + 1)) := okN_T j (a + 1) (fun r q => hr r ⟨g, Or.inl q⟩)
      exact okN_M m _ _ (okN_op hl ht (fun z => he (tS b n a) ⟨g, Or.inr (Or.inl ⟨z, rfl⟩)⟩)) (fun r q => hr r ⟨g, Or.inr q⟩) (fun p q => he p ⟨g, Or.inr (Or.inr q)⟩)
    · rw [if_neg g]; exact hl
theorem tyF_okN {b : Int → Int} {n a : Int} {R : Int → Int} (hR : ∀ r, rfF b n 3 a r → okN (R r)) (he : ∀ p, ¬ erF b n R 3 a p) : okN (tyF b n R 3 a) := okN_M 5 _ _ (okN_T 3 a (fun r q => hR r (Or.inl q))) (fun r q => hR r (Or.inr q)) (fun p q => he p (Or.inr q))
theorem qOf_cg {v V : VV} {t : Int} (h54 : V 54 t = v 54 t) (h55 : ∀ k, 0 ≤ k → k < v 54 t → V 55 (3 * t + k) = v 55 (3 * t + k)) (h49 : ∀ s, V 49 s = v 49 s) (w : Int) : qOf V t w = qOf v t w := by
  have e : fst1 (bhn V t w) (V 54 t).toNat = fst1 (bhn v t w) (v 54 t).toNat := by
    rw [h54]
    refine fst1_cg _ (fun k k0 k1 => ?_)
    unfold bhn
    rw [h55 k k0 (by omega), h49]
  unfold qOf
  rw [e]
  by_cases z : fst1 (bhn v t w) (v 54 t).toNat = -1
  · rw [if_pos z, if_pos z]
  · rw [if_neg z, if_neg z]
    rcases fst1_spec (bhn v t w) (v 54 t).toNat with ⟨q, -⟩ | ⟨q0, q1, -⟩
    · exact absurd q z
    · exact h55 _ q0 (by omega)
theorem cOf_cg {v V : VV} {q : Int} (h51 : V 51 q = v 51 q) (h52 : ∀ j, V 52 j = v 52 j) (w : Int) : cOf V q w = cOf v q w := by
  unfold cOf
  rw [h51]
  exact fst1_cg _ (fun c _ _ => by rw [h52])
theorem refU_cg {v V : VV} {t : Int} {b : Int → Int} {n : Int} (h54 : V 54 t = v 54 t) (h55 : ∀ k, 0 ≤ k → k < v 54 t → V 55 (3 * t + k) = v 55 (3 * t + k)) (h49 : ∀ s, V 49 s = v 49 s) (h51 : ∀ s, V 51 s = v 51 s) (h52 : ∀ j, V 52 j = v 52 j) : refU b n V t = refU b n v t := by
  funext r
  unfold refU uAt
  rw [qOf_cg h54 h55 h49, cOf_cg (h51 _) h52]
theorem refC_refU {X : XX} {vc vm : VV} {cC : Int → Nat} {b : Int → Int} {n T a : Int} {B : Nat} {cb : Int → Int} (h : LkR X vc vm cC) (hB : BhR b n T B cb vm) (hr : RefOK b n a) (hm : ∀ p, ¬ miss b n vm T a p) : refC X vc cC b n cb B a = refU b n vm T a := by
  obtain ⟨q1, q2⟩ := qOf_nth h hB hr.1
  unfold refU
  by_cases hm1 : nth b n cb B (nm32 b n a) = -1
  · rw [if_pos (q1 hm1).1]; unfold refC; rw [if_pos hm1]
  · have e := (q2 hm1).1
    rcases tC_bd X vc (nm32 b n (cb (nth b n cb B (nm32 b n a)))) with y | ⟨y1, y2, y3⟩
    · rw [if_pos (e.trans y)]; unfold refC itC; rw [if_neg hm1, if_neg (fun z => by omega)]
    · have hc : ¬ cOf vm (qOf vm T (tW b n a)) (tW b n (a + 2)) = -1 := fun z => hm _ (Or.inr ⟨by rw [e]; omega, z, rfl⟩)
      rw [if_neg (by rw [e]; omega)]
      unfold uAt
      rw [e] at hc ⊢
      unfold refC itC
      rw [if_neg hm1, if_pos ⟨y1, y2, y3⟩, colC_cOf h hr.2 y1 y2 y3, if_neg hc]
      omega
theorem LLs_cg {b : Int → Int} {n w : Int} {C : Nat} {U U' : Int → Int} (hF : FmSel b n C w) (hU : ∀ r, rfL b n C w r → U r = U' r) {f : Int} (f0 : 0 ≤ f) : LLs b n C w U f = LLs b n C w U' f := by
  have one : ∀ a, 0 ≤ a → (rForm b n 3 a).1 = true → (∀ r, rfF b n 3 a r → U r = U' r) → (emF b n 3 a).map (rs U) = (emF b n 3 a).map (rs U') := fun a a0 hr h => List.map_congr_left (fun q hq => by
    unfold rs
    by_cases z : 2000 ≤ q.1
    · rw [if_pos z, if_pos z]
      rcases (EmS_F a0 hr).1 q hq with y | y
      · omega
      · rw [h _ y.2]
    · rw [if_neg z, if_neg z])
  unfold LLs
  by_cases h1 : f < C
  · rw [if_pos h1, if_pos h1]
    obtain ⟨z1, z2⟩ := hF.1 f.toNat (by omega)
    exact one _ z1 z2 (fun r q => hU r (Or.inl ⟨f.toNat, by omega, q⟩))
  · rw [if_neg h1, if_neg h1]
    by_cases h2 : f = 6 ∧ tK b n w = 265
    · rw [if_pos h2, if_pos h2]
      obtain ⟨w1, w2, w3⟩ := hF.2.2 h2.2
      have w0 := hF.2.1
      have hlt := rForm_lt w1
      have e : rs U (tK b n (rForm b n 3 (w + 1)).2, tS b n (rForm b n 3 (w + 1)).2) = rs U' (tK b n (rForm b n 3 (w + 1)).2, tS b n (rForm b n 3 (w + 1)).2) := by
        unfold rs
        rw [if_neg (by show ¬ 2000 ≤ tK b n (rForm b n 3 (w + 1)).2; omega), if_neg (by show ¬ 2000 ≤ tK b n (rForm b n 3 (w + 1)).2; omega)]
      unfold emW
      simp only [List.map_append, List.map_cons, List.map_nil]
      rw [one (w + 1) (by omega) w1 (fun r q => hU r (Or.inr ⟨h2.2, Or.inl q⟩)), one ((rForm b n 3 (w + 1)).2 + 1) (by omega) w3 (fun r q => hU r (Or.inr ⟨h2.2, Or.inr q⟩)), e]
    · rw [if_neg h2, if_neg h2]
