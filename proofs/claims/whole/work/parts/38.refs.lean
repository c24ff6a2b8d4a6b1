/-! ===== the references of a formula, as the reference's loops meet them ===== -/
def rOK (b : Int → Int) (n k : Int) : Prop := tK b n k = 256 ∧ tL b n k ≤ 8 ∧ tK b n (k + 1) = 46 ∧ tK b n (k + 2) = 256 ∧ tL b n (k + 2) ≤ 8
theorem rfM_ok {b : Int → Int} {n : Int} {pT : Int → Bool × Int} {rT : Int → Int → Prop} (hlt : ∀ a, (pT a).1 = true → a < (pT a).2) (hp : ∀ a k, (pT a).1 = true → rT a k → rOK b n k ∧ a ≤ k ∧ k + 3 ≤ (pT a).2) : ∀ (m : Nat) (a k : Int), (rMore b n pT m a).1 = true → rfM b n pT rT m a k → rOK b n k ∧ a ≤ k ∧ k + 3 ≤ (rMore b n pT m a).2
  | 0, a, k, _, h => h.elim
  | m + 1, a, k, hr, h => by
    obtain ⟨ho, h⟩ := h
    rw [rMore_s m ho] at hr ⊢
    obtain ⟨h1, e1⟩ := rThen_true hr
    rw [e1] at hr ⊢
    have hle := rMore_le hlt m _ hr
    have hl2 := hlt _ h1
    rcases h with h | h
    · obtain ⟨q1, q2, q3⟩ := hp _ _ h1 h
      exact ⟨q1, by omega, by omega⟩
    · obtain ⟨q1, q2, q3⟩ := rfM_ok hlt hp m _ _ hr h
      exact ⟨q1, by omega, q3⟩
theorem rLeaf_rOK {b : Int → Int} {n a : Int} (h : (rLeaf b n a).1 = true) (hk : tK b n a = 256) : rOK b n a ∧ (rLeaf b n a).2 = a + 3 := by
  rcases rLeaf_t h with q | q | q
  · exact ⟨⟨q.1, q.2.1, q.2.2.1, q.2.2.2.1, q.2.2.2.2.1⟩, q.2.2.2.2.2⟩
  · omega
  · omega
theorem rfT_ok {b : Int → Int} {n : Int} : ∀ (j : Nat) (a k : Int), (rTerm b n j a).1 = true → rfT b n j a k → rOK b n k ∧ a ≤ k ∧ k + 3 ≤ (rTerm b n j a).2
  | 0, a, k, hr, h => by
    obtain ⟨h1, rfl⟩ := h
    rw [rTerm_leaf 0 (by omega)] at hr ⊢
    obtain ⟨q1, q2⟩ := rLeaf_rOK hr h1
    exact ⟨q1, Int.le_refl _, by omega⟩
  | j + 1, a, k, hr, h => by
    rcases h with ⟨h1, rfl⟩ | ⟨hy, h⟩
    · rw [rTerm_leaf _ (by omega)] at hr ⊢
      obtain ⟨q1, q2⟩ := rLeaf_rOK hr h1
      exact ⟨q1, Int.le_refl _, by omega⟩
    · obtain ⟨c1, c2, c3, c4, c5⟩ := rTerm_call hy hr
      have hl := rTerm_lt j _ c2
      have hle := rMore_le (pT := rTerm b n j) (fun a => rTerm_lt j a) 5 _ c3
      rcases h with h | h
      · obtain ⟨q1, q2, q3⟩ := rfT_ok j _ _ c2 h
        exact ⟨q1, by omega, by omega⟩
      · obtain ⟨q1, q2, q3⟩ := rfM_ok (pT := rTerm b n j) (fun a => rTerm_lt j a) (fun a k => rfT_ok j a k) 5 _ _ c3 h
        exact ⟨q1, by omega, by omega⟩
theorem rfF_ok {b : Int → Int} {n : Int} {j : Nat} {a k : Int} (hr : (rForm b n j a).1 = true) (h : rfF b n j a k) : rOK b n k ∧ a ≤ k ∧ k + 3 ≤ (rForm b n j a).2 := by
  obtain ⟨h1, h2, h3⟩ := rForm_t hr
  rw [h3]
  have hl := rTerm_lt j _ h1
  have hle := rMore_le (pT := rTerm b n j) (fun a => rTerm_lt j a) 5 _ h2
  rcases h with h | h
  · obtain ⟨q1, q2, q3⟩ := rfT_ok j _ _ h1 h
    exact ⟨q1, by omega, by omega⟩
  · obtain ⟨q1, q2, q3⟩ := rfM_ok (pT := rTerm b n j) (fun a => rTerm_lt j a) (fun a k => rfT_ok j a k) 5 _ _ h2 h
    exact ⟨q1, by omega, by omega⟩
/-- a place where the loop sees a name and a dot -/
def nmN (b : Int → Int) (n k : Int) : Prop := lNow b n (tS b n k) = 1 ∧ lNow b n (tS b n (k + 1)) = 46
def scF (b : Int → Int) (n : Int) : Nat → Int → Int → Int → Prop
  | 0, _, _, _ => False
  | f + 1, x, e, k => x < e ∧ ((nmN b n x ∧ (k = x ∨ scF b n f (x + 3) e k)) ∨ (¬ nmN b n x ∧ scF b n f (x + 1) e k))
theorem scF_fuel {b : Int → Int} {n e k : Int} : ∀ (f f' : Nat) (x : Int), e - x ≤ f → e - x ≤ f' → (scF b n f x e k ↔ scF b n f' x e k)
  | 0, 0, x, _, _ => Iff.rfl
  | 0, f' + 1, x, h, _ => ⟨fun q => q.elim, fun q => by have := q.1; omega⟩
  | f + 1, 0, x, _, h => ⟨fun q => by have := q.1; omega, fun q => q.elim⟩
  | f + 1, f' + 1, x, h, h' => by
    have i3 := scF_fuel (b := b) (n := n) (e := e) (k := k) f f' (x + 3) (by omega) (by omega)
    have i1 := scF_fuel (b := b) (n := n) (e := e) (k := k) f f' (x + 1) (by omega) (by omega)
    unfold scF
    rw [i3, i1]
/-- the names that the loop from x to e meets -/
def SC (b : Int → Int) (n x e k : Int) : Prop := scF b n (e - x).toNat x e k
theorem SC_end {b : Int → Int} {n x e k : Int} (h : e ≤ x) : ¬ SC b n x e k := by
  unfold SC
  rw [show (e - x).toNat = 0 by omega]
  exact id
theorem SC_y {b : Int → Int} {n x e k : Int} (h : x < e) (hn : nmN b n x) : SC b n x e k ↔ (k = x ∨ SC b n (x + 3) e k) := by
  unfold SC
  rw [scF_fuel (e - x).toNat ((e - x).toNat - 1 + 1) x (by omega) (by omega), scF_fuel (e - (x + 3)).toNat ((e - x).toNat - 1) (x + 3) (by omega) (by omega)]
  show (_ ∧ _) ↔ _
  exact ⟨fun q => q.2.elim (fun z => z.2) (fun z => absurd hn z.1), fun q => ⟨h, Or.inl ⟨hn, q⟩⟩⟩
theorem SC_n {b : Int → Int} {n x e k : Int} (h : x < e) (hn : ¬ nmN b n x) : SC b n x e k ↔ SC b n (x + 1) e k := by
  unfold SC
  rw [scF_fuel (e - x).toNat ((e - x).toNat - 1 + 1) x (by omega) (by omega), scF_fuel (e - (x + 1)).toNat ((e - x).toNat - 1) (x + 1) (by omega) (by omega)]
  show (_ ∧ _) ↔ _
  exact ⟨fun q => q.2.elim (fun z => absurd z.1 hn) (fun z => z.2), fun q => ⟨h, Or.inr ⟨hn, q⟩⟩⟩
theorem k25_now {b : Int → Int} {n p : Int} (h : p ≤ n) (h0 : 0 ≤ p) (hT : TX b n) (hk : tKind b n p = 257 ∨ tKind b n p = 258) : ¬ lNow b n p = 1 := by
  rcases tcase b h with q | q | q | q | q
  · obtain ⟨q1, q2, q3, q4, q5, q6, q7⟩ := q; omega
  · obtain ⟨q1, q2, q3, q4, q5, q6⟩ := q
    have := wKind_cases (lWord b n p); omega
  · obtain ⟨q1, q2, q3, q4, q5, q6⟩ := q; omega
  · obtain ⟨q1, q2, q3, q4, q5, q6, q7⟩ := q; omega
  · obtain ⟨q1, q2, q3, q4, q5, q6, q7⟩ := q
    have := hT.2 p h0 q1
    omega
theorem SC_sign {b : Int → Int} {n x e k s : Int} (hT : TX b n) (h : x < e) (hk : tK b n x = s) (hs : sgB s) : SC b n x e k ↔ SC b n (x + 1) e k := by
  refine SC_n h (fun z => ?_)
  have h1 := (now_sign (b := b) (tS_bd b hT.1.1 x).2 hs).1.mpr hk
  have := z.1
  unfold sgB at hs
  omega
theorem SC_leaf {b : Int → Int} {n a e k : Int} (hT : TX b n) (h : (rLeaf b n a).1 = true) (he : (rLeaf b n a).2 ≤ e) : SC b n a e k ↔ ((tK b n a = 256 ∧ k = a) ∨ SC b n (rLeaf b n a).2 e k) := by
  have hp := tS_bd b hT.1.1 a
  rcases rLeaf_t h with q | q | q
  · obtain ⟨q1, q2, q3, q4, q5, q6⟩ := q
    rw [q6] at he ⊢
    have n1 : nmN b n a := ⟨k256_now hp.2 hp.1 hT (Or.inl q1), (now_sign (b := b) (tS_bd b hT.1.1 (a + 1)).2 (s := 46) (by unfold sgB; omega)).1.mpr q3⟩
    rw [SC_y (by omega) n1]
    exact ⟨fun z => z.imp (fun y => ⟨q1, y⟩) id, fun z => z.imp (fun y => y.2) id⟩
  · obtain ⟨q1, q2, q3⟩ := q
    rw [q3] at he ⊢
    rw [SC_n (by omega) (fun z => k25_now hp.2 hp.1 hT (Or.inl q1) z.1)]
    exact ⟨Or.inr, fun z => z.elim (fun y => by omega) id⟩
  · obtain ⟨q1, q3⟩ := q
    rw [q3] at he ⊢
    rw [SC_n (by omega) (fun z => k25_now hp.2 hp.1 hT (Or.inr q1) z.1)]
    exact ⟨Or.inr, fun z => z.elim (fun y => by omega) id⟩
theorem SC_M {b : Int → Int} {n e : Int} {pT : Int → Bool × Int} {rT : Int → Int → Prop} (hT : TX b n) (hlt : ∀ a, (pT a).1 = true → a < (pT a).2) (hp : ∀ a k, (pT a).1 = true → (pT a).2 ≤ e → (SC b n a e k ↔ (rT a k ∨ SC b n (pT a).2 e k))) : ∀ (m : Nat) (a k : Int), (rMore b n pT m a).1 = true → (rMore b n pT m a).2 ≤ e → (SC b n a e k ↔ (rfM b n pT rT m a k ∨ SC b n (rMore b n pT m a).2 e k))
  | 0, a, k, hr, he => by
    by_cases ho : isOp (tK b n a)
    · rw [rMore_0 ho] at hr; exact Bool.noConfusion hr
    · rw [rMore_no 0 ho]
      exact ⟨Or.inr, fun z => z.elim (fun y => y.elim) id⟩
  | m + 1, a, k, hr, he => by
    by_cases ho : isOp (tK b n a)
    · rw [rMore_s m ho] at hr he ⊢
      obtain ⟨h1, e1⟩ := rThen_true hr
      rw [e1] at hr he ⊢
      have h2 := hlt _ h1
      have h3 := rMore_le hlt m _ hr
      have hs : SC b n a e k ↔ SC b n (a + 1) e k := by
        have ho' : tK b n a = 43 ∨ tK b n a = 45 ∨ tK b n a = 38 := ho
        rcases ho' with q | q | q
        · exact SC_sign hT (by omega) q (by unfold sgB; omega)
        · exact SC_sign hT (by omega) q (by unfold sgB; omega)
        · exact SC_sign hT (by omega) q (by unfold sgB; omega)
      rw [hs, hp _ k h1 (by omega), SC_M hT hlt hp m _ k hr he]
      show _ ↔ ((isOp (tK b n a) ∧ (rT (a + 1) k ∨ rfM b n pT rT m (pT (a + 1)).2 k)) ∨ _)
      exact ⟨fun z => by rcases z with z | z | z; exact Or.inl ⟨ho, Or.inl z⟩; exact Or.inl ⟨ho, Or.inr z⟩; exact Or.inr z, fun z => by rcases z with ⟨_, z | z⟩ | z; exact Or.inl z; exact Or.inr (Or.inl z); exact Or.inr (Or.inr z)⟩
    · rw [rMore_no _ ho]
      exact ⟨Or.inr, fun z => z.elim (fun y => absurd y.1 ho) id⟩
theorem SC_T {b : Int → Int} {n e : Int} (hT : TX b n) : ∀ (j : Nat) (a k : Int), (rTerm b n j a).1 = true → (rTerm b n j a).2 ≤ e → (SC b n a e k ↔ (rfT b n j a k ∨ SC b n (rTerm b n j a).2 e k))
  | 0, a, k, hr, he => by
    by_cases hy : tK b n a = 266 ∨ tK b n a = 267
    · rw [show rTerm b n 0 a = (false, tS b n (a + 1)) from if_pos hy] at hr; exact Bool.noConfusion hr
    · rw [rTerm_leaf 0 hy] at hr he ⊢
      exact SC_leaf hT hr he
  | j + 1, a, k, hr, he => by
    by_cases hy : tK b n a = 266 ∨ tK b n a = 267
    · obtain ⟨c1, c2, c3, c4, c5⟩ := rTerm_call hy hr
      rw [c5] at he ⊢
      have hl := rTerm_lt j _ c2
      have hle := rMore_le (pT := rTerm b n j) (fun a => rTerm_lt j a) 5 _ c3
      have hp1 := tS_bd b hT.1.1 (a + 1)
      have n0 : ¬ nmN b n a := fun z => by
        have h1 := (now_sign (b := b) hp1.2 (s := 40) (by unfold sgB; omega)).1.mpr c1
        have := z.2
        omega
      rw [SC_n (by omega) n0, SC_sign hT (by omega) c1 (by unfold sgB; omega), show a + 1 + 1 = a + 2 by omega, SC_T hT j _ k c2 (by omega), SC_M (pT := rTerm b n j) hT (fun a => rTerm_lt j a) (fun a k => SC_T hT j a k) 5 _ k c3 (by omega), SC_sign hT (by omega) c4 (by unfold sgB; omega)]
      show _ ↔ (((tK b n a = 256 ∧ k = a) ∨ ((tK b n a = 266 ∨ tK b n a = 267) ∧ (_ ∨ _))) ∨ _)
      constructor
      · rintro (z | z | z)
        · exact Or.inl (Or.inr ⟨hy, Or.inl z⟩)
        · exact Or.inl (Or.inr ⟨hy, Or.inr z⟩)
        · exact Or.inr z
      · rintro ((z | ⟨_, z | z⟩) | z)
        · omega
        · exact Or.inl z
        · exact Or.inr (Or.inl z)
        · exact Or.inr (Or.inr z)
    · rw [rTerm_leaf _ hy] at hr he ⊢
      rw [SC_leaf hT hr he]
      show _ ↔ (((tK b n a = 256 ∧ k = a) ∨ ((tK b n a = 266 ∨ tK b n a = 267) ∧ (_ ∨ _))) ∨ _)
      exact ⟨fun z => z.imp Or.inl id, fun z => z.imp (fun y => y.elim id (fun w => absurd w.1 hy)) id⟩
theorem SC_F {b : Int → Int} {n a k : Int} (hT : TX b n) {j : Nat} (hr : (rForm b n j a).1 = true) : SC b n a (rForm b n j a).2 k ↔ rfF b n j a k := by
  obtain ⟨h1, h2, h3⟩ := rForm_t hr
  rw [h3]
  have hle := rMore_le (pT := rTerm b n j) (fun a => rTerm_lt j a) 5 _ h2
  rw [SC_T hT j a k h1 hle, SC_M (pT := rTerm b n j) hT (fun a => rTerm_lt j a) (fun a k => SC_T hT j a k) 5 _ k h2 (Int.le_refl _)]
  unfold rfF
  exact ⟨fun z => by rcases z with z | z | z; exact Or.inl z; exact Or.inr z; exact absurd z (SC_end (Int.le_refl _)), fun z => by rcases z with z | z; exact Or.inl z; exact Or.inr (Or.inl z)⟩
/-! ===== what the rows of a live select hold ===== -/
/-- the parts of a table's select -/
def PF (v : VV) (t f : Int) : Prop := (0 ≤ f ∧ f < v 51 t) ∨ ((f = 6 ∨ f = 7) ∧ 0 < v 66 (8 * t + 7))
noncomputable def uAt (b : Int → Int) (n : Int) (v : VV) (t k : Int) : Int := 8 * qOf v t (tW b n k) + cOf v (qOf v t (tW b n k)) (tW b n (k + 2))
def FmOK (b : Int → Int) (n t : Int) (v : VV) (f : Int) : Prop := 0 ≤ v 65 (8 * t + f) ∧ (rForm b n 3 (v 65 (8 * t + f))).1 = true ∧ v 66 (8 * t + f) = (rForm b n 3 (v 65 (8 * t + f))).2 ∧ v 66 (8 * t + f) < v 60 t ∧ ∀ k, rfF b n 3 (v 65 (8 * t + f)) k → (0 ≤ qOf v t (tW b n k) ∧ qOf v t (tW b n k) < t ∧ ¬ v 48 (qOf v t (tW b n k)) = 0) ∧ (0 ≤ cOf v (qOf v t (tW b n k)) (tW b n (k + 2)) ∧ cOf v (qOf v t (tW b n k)) (tW b n (k + 2)) < v 51 (qOf v t (tW b n k)))
def TabT (b : Int → Int) (n t : Int) (v : VV) : Prop := TKt b n t (v 60 t) v ∧ ∀ f, PF v t f → FmOK b n t v f
abbrev GT : Type := Int → (Int → Int) × Int
def MS (G : GT) (v : VV) : Prop := MB v ∧ MT v ∧ ∀ t, isS v t → TabT (G t).1 (G t).2 t v
/-- a formula uses a column -/
def Use (G : GT) (v : VV) (t f j : Int) : Prop := ∃ k, rfF (G t).1 (G t).2 3 (v 65 (8 * t + f)) k ∧ uAt (G t).1 (G t).2 v t k = j
def S80 (r : Int) (_ : Int) : Prop := r = 80
theorem S80_ref : noRef S80 := fun j => ⟨by unfold S80; omega, by unfold S80; omega, by unfold S80; omega, by unfold S80; omega, by unfold S80; omega, by unfold S80; omega⟩
theorem uAt_fs {S : Int → Int → Prop} {b : Int → Int} {n t k : Int} {v V : VV} (hf : Fr S v V) (hs : noRef S) : uAt b n V t k = uAt b n v t k := by
  unfold uAt
  rw [qOf_fs hf hs, cOf_fs hf hs]
theorem isT_b {v : VV} {t : Int} (hb : MB v) (h : isT v t) : 0 ≤ t ∧ t < 16 := ⟨h.1, by have := h.2.1; have := hb.1.2; omega⟩
set_option maxRecDepth 100000 in
set_option maxHeartbeats 4000000 in
theorem c_usedAt {X : XX} {v : VV} {b : Int → Int} {n t f k : Int} (hW : SW X) (hb : MB v) (hM : MT v) (hS : isS v t) (hT : TabT b n t v) (hF : FmOK b n t v f) (hk : rfF b n 3 (v 65 (8 * t + f)) k) : CX mX11_usedAt 1 [(2, 47), (0, t), (0, k)] X v (fun o v1 => v1 = v ∧ o = some (0, uAt b n v t k)) := by
  obtain ⟨f1, f2, f3, f4, f5⟩ := hF
  obtain ⟨⟨k1, k2, k3, k4, k5⟩, k6, k7⟩ := rfF_ok f2 hk
  obtain ⟨⟨q1, q2, q3⟩, q4, q5⟩ := f5 k hk
  obtain ⟨-, -, -, m4, m5, -⟩ := hM t hS.1.1 hS.1.2.1
  have ht := isT_b hb hS.1
  have hK := hT.1
  have hA4 := hK.2.2.2.2
  have hp := tS_bd b hK.2.2.1.1.1 k
  have hp2 := tS_bd b hK.2.2.1.1.1 (k + 2)
  have hb1 := hb.1
  obtain ⟨-, -, n3, -⟩ := hM (qOf v t (tW b n k)) q1 (by have := hS.1.2.1; omega)
  refine CX.of (by decide +kernel) rfl rfl rfl (bX11_usedAt_0 t k (Nat.le_refl _) hW (fun _ _ => ⟨_, c_wordOf hW hK ⟨by omega, by omega⟩ (k256_now hp.2 hp.1 hK.2.2.1 (Or.inl k1)) k2, fun r2' w3 hP => ?_⟩))
  obtain ⟨rfl, hr⟩ := hP
  obtain rfl : r2' = tW b n k := by simpa using hr
  refine ⟨_, c_behindNamed hW t _ ⟨by omega, by omega⟩ m4 (fun i i0 i1 => ⟨by have := (m5 i i0 i1).1; omega, by have := (m5 i i0 i1).2.1; omega⟩), fun r6 w7 hP => ?_⟩
  obtain ⟨rfl, r, hr, hF⟩ := hP
  have er := hF.eq m4.1
  obtain rfl : r6 = if r = -1 then -1 else w7 55 (3 * t + r) := by simpa using hr
  have eq6 : (if r = -1 then -1 else w7 55 (3 * t + r)) = qOf w7 t (tW b n k) := by rw [er]; rfl
  rw [eq6]
  refine ⟨fun _ => ⟨by omega, by omega⟩, ⟨by omega, by omega⟩, _, c_wordOf hW hK (k := k + 2) ⟨by omega, by omega⟩ (k256_now hp2.2 hp2.1 hK.2.2.1 (Or.inl k4)) k5, fun r10 w11 hP => ?_⟩
  obtain ⟨rfl, hr10⟩ := hP
  obtain rfl : r10 = tW b n (k + 2) := by simpa using hr10
  refine ⟨_, c_columnNamed hW _ _ ⟨q1, by omega⟩ ⟨by omega, by omega⟩, fun r14 w15 hP => ?_⟩
  obtain ⟨rfl, r', hr', hF'⟩ := hP
  obtain rfl : r14 = r' := by simpa using hr'
  have ec : r14 = cOf w15 (qOf w15 t (tW b n k)) (tW b n (k + 2)) := hF'.eq (by omega)
  rw [ec]
  exact ⟨fun _ _ => ⟨by omega, by omega⟩, rfl, rfl, rfl⟩
theorem nmN_row {b : Int → Int} {n t A x : Int} {v : VV} (hK : TKt b n t A v) (h0 : 0 ≤ x) (h1 : x + 1 < A) : (v 61 (400 * t + x) = 1 ∧ v 61 (400 * t + x + 1) = 46) ↔ nmN b n x := by
  rw [(hK.1 x h0 (by omega)).1, show 400 * t + x + 1 = 400 * t + (x + 1) by omega, (hK.1 (x + 1) (by omega) h1).1]
  exact Iff.rfl
theorem uAt_bd {b : Int → Int} {n t f k : Int} {v : VV} (hb : MB v) (hM : MT v) (hS : isS v t) (hF : FmOK b n t v f) (hk : rfF b n 3 (v 65 (8 * t + f)) k) : 0 ≤ uAt b n v t k ∧ uAt b n v t k < 8 * t ∧ uAt b n v t k < 128 := by
  obtain ⟨⟨q1, q2, q3⟩, q4, q5⟩ := hF.2.2.2.2 k hk
  have ht := isT_b hb hS.1
  obtain ⟨-, -, n3, -⟩ := hM (qOf v t (tW b n k)) q1 (by have := hS.1.2.1; omega)
  unfold uAt
  omega
theorem PF_bd {v : VV} {t f : Int} (hM : MT v) (hS : isS v t) (h : PF v t f) : 0 ≤ f ∧ f < 8 := by
  obtain ⟨-, -, n3, -⟩ := hM t hS.1.1 hS.1.2.1
  unfold PF at h
  omega
set_option maxRecDepth 100000 in
set_option maxHeartbeats 4000000 in
theorem l_usesMarked {X : XX} {v : VV} {Q : QQ} {d mc ms : Nat} {b : Int → Int} {n t f : Int} (hW : SW X) (hd : 2 ≤ d) (hb : MB v) (hM : MT v) (hS : isS v t) (hT : TabT b n t v) (hp : PF v t f) (hQ : ∀ p : Prop, (p ↔ ∃ k, rfF b n 3 (v 65 (8 * t + f)) k ∧ ¬ v 80 (uAt b n v t k) = 0) → Q (some (0, bI p)) X v) : ∀ x : Int, (v 65 (8 * t + f) ≤ x) → (∀ k, rfF b n 3 (v 65 (8 * t + f)) k → (SC b n x (v 66 (8 * t + f)) k ∨ v 80 (uAt b n v t k) = 0)) → (∀ k, SC b n x (v 66 (8 * t + f)) k → rfF b n 3 (v 65 (8 * t + f)) k) → Ex mX11_usesMarked d 12 [(2, 47), (0, t), (0, f), (0, x)] [] X v mc ms Q := by
  have hF := hT.2 f hp
  obtain ⟨f1, f2, f3, f4, f5⟩ := id hF
  have ht := isT_b hb hS.1
  have hf8 := PF_bd hM hS hp
  have hA := hT.1.2.2.2.2
  refine loop1 (fun x => (v 66 (8 * t + f) - x).toNat) (fun x => (v 65 (8 * t + f) ≤ x) → (∀ k, rfF b n 3 (v 65 (8 * t + f)) k → (SC b n x (v 66 (8 * t + f)) k ∨ v 80 (uAt b n v t k) = 0)) → (∀ k, SC b n x (v 66 (8 * t + f)) k → rfF b n 3 (v 65 (8 * t + f)) k) → Ex mX11_usesMarked d 12 [(2, 47), (0, t), (0, f), (0, x)] [] X v mc ms Q) (fun x ih => ?_)
  intro hx hall hsub
  refine bX11_usesMarked_12 t f x hd hW (fun _ _ _ => ⟨⟨by omega, by omega⟩, fun _ => ⟨by omega, by omega⟩, ⟨by omega, by omega⟩, fun g => ?_, fun g => ?_⟩)
  · have h := hQ False ⟨fun z => z.elim, fun ⟨k, k1, k2⟩ => (hall k k1).elim (fun y => SC_end g y) k2⟩
    rw [bI_f id] at h
    exact h
  · refine ⟨_, c_isNameAt hW t x ⟨by omega, by omega⟩ ⟨by omega, by omega⟩, fun r2 w3 hP => ?_⟩
    obtain ⟨rfl, hr⟩ := hP
    obtain rfl : r2 = bI (w3 61 (400 * t + x) = 1 ∧ w3 61 (400 * t + x + 1) = 46) := by simpa using hr
    have hnm := nmN_row hT.1 (x := x) (by omega) (by omega)
    refine ⟨fun g2 => ?_, fun g2 => ⟨⟨by omega, by omega⟩, ?_⟩⟩
    · rw [bI_n0, hnm] at g2
      have hk : rfF b n 3 (w3 65 (8 * t + f)) x := hsub x ((SC_y g g2).mpr (Or.inl rfl))
      have hu := uAt_bd hb hM hS hF hk
      refine ⟨_, c_usedAt hW hb hM hS hT hF hk, fun r6 w7 hP => ?_⟩
      obtain ⟨rfl, hr⟩ := hP
      obtain rfl : r6 = uAt b n w7 t x := by simpa using hr
      refine ⟨⟨hu.1, by omega⟩, fun g3 => ⟨⟨by omega, by omega⟩, ⟨by omega, by omega⟩, ?_⟩, fun g3 => ?_⟩
      · rw [show x + 2 + 1 = x + 3 by omega]
        refine ih (x + 3) (by omega) (by omega) (fun k k1 => ?_) (fun k k1 => hsub k ((SC_y g g2).mpr (Or.inr k1)))
        rcases hall k k1 with y | y
        · rcases (SC_y g g2).mp y with z | z
          · right; rw [z]; exact g3
          · exact Or.inl z
        · exact Or.inr y
      · have h := hQ True ⟨fun _ => ⟨x, hk, g3⟩, fun _ => trivial⟩
        rw [bI_t trivial] at h
        exact h
    · rw [bI_0, hnm] at g2
      refine ih (x + 1) (by omega) (by omega) (fun k k1 => (hall k k1).imp (SC_n g g2).mp id) (fun k k1 => hsub k ((SC_n g g2).mpr k1))
set_option maxRecDepth 100000 in
set_option maxHeartbeats 4000000 in
theorem c_usesMarked {X : XX} {v : VV} {G : GT} {t f : Int} (hW : SW X) (hI : MS G v) (hS : isS v t) (hp : PF v t f) : CX mX11_usesMarked 2 [(2, 47), (0, t), (0, f)] X v (fun o v1 => v1 = v ∧ ∃ p : Prop, (p ↔ ∃ j, Use G v t f j ∧ ¬ v 80 j = 0) ∧ o = some (0, bI p)) := by
  obtain ⟨hb, hM, hG⟩ := hI
  have hT := hG t hS
  have ht := isT_b hb hS.1
  have hf8 := PF_bd hM hS hp
  obtain ⟨f1, f2, f3, f4, f5⟩ := hT.2 f hp
  refine CX.of (by decide +kernel) rfl rfl rfl (bX11_usesMarked_0 t f (Nat.le_refl _) hW (fun _ _ => ⟨⟨by omega, by omega⟩, fun _ => ⟨by omega, by omega⟩, ⟨by omega, by omega⟩, ?_⟩))
  refine l_usesMarked hW (Nat.le_refl _) hb hM hS hT hp (fun p hp2 => ⟨rfl, rfl, p, hp2.trans ⟨fun ⟨k, k1, k2⟩ => ⟨_, ⟨k, k1, rfl⟩, k2⟩, fun ⟨j, ⟨k, k1, k2⟩, k3⟩ => ⟨k, k1, by rw [k2]; exact k3⟩⟩, rfl⟩) _ (Int.le_refl _) (fun k k1 => Or.inl ?_) (fun k k1 => ?_)
  · rw [f3]; exact (SC_F hT.1.2.2.1 f2).mpr k1
  · rw [f3] at k1; exact (SC_F hT.1.2.2.1 f2).mp k1
theorem MS80 {G : GT} {v V : VV} (h : MS G v) (hf : Fr S80 v V) : MS G V := by
  obtain ⟨hb, hM, hG⟩ := h
  have g : ∀ r j, ¬ r = 80 → V r j = v r j := hf
  have eS : ∀ t, isS V t → isS v t := fun t ht => by
    unfold isS isT at ht ⊢
    rw [g 47 0 (by omega), g 48 t (by omega), g 50 t (by omega)] at ht
    exact ht
  refine ⟨hb.fr hf (fun j _ => by unfold S80; omega), fun t h0 h1 => ?_, fun t ht => ?_⟩
  · have hm := hM t h0 (by rw [← g 47 0 (by omega)]; exact h1)
    unfold MTt at hm ⊢
    simp only [g 48 _ (by omega), g 50 _ (by omega), g 51 _ (by omega), g 54 _ (by omega), g 55 _ (by omega), g 56 _ (by omega), g 57 _ (by omega), g 58 _ (by omega), g 59 _ (by omega)]
    exact hm
  · obtain ⟨k1, k2⟩ := hG t (eS t ht)
    refine ⟨?_, fun f hf2 => ?_⟩
    · rw [g 60 _ (by omega)]
      exact k1.fr hf (fun j => ⟨by unfold S80; omega, by unfold S80; omega, by unfold S80; omega, by unfold S80; omega⟩)
    · have hf3 : PF v t f := by
        unfold PF at hf2 ⊢
        rw [g 51 _ (by omega), g 66 _ (by omega)] at hf2
        exact hf2
      have hk := k2 f hf3
      unfold FmOK at hk ⊢
      simp only [qOf_fs hf S80_ref, cOf_fs hf S80_ref, g 65 _ (by omega), g 66 _ (by omega), g 60 _ (by omega), g 48 _ (by omega), g 51 _ (by omega)]
      exact hk
theorem isS80 {v V : VV} (hf : Fr S80 v V) (t : Int) : isS V t ↔ isS v t := by
  unfold isS isT
  rw [hf 47 0 (by unfold S80; omega), hf 48 t (by unfold S80; omega), hf 50 t (by unfold S80; omega)]
theorem Use80 {G : GT} {v V : VV} (hf : Fr S80 v V) (t f j : Int) : Use G V t f j ↔ Use G v t f j := by
  unfold Use
  rw [hf 65 _ (by unfold S80; omega)]
  simp only [uAt_fs hf S80_ref]
/-- the marks are the set M -/
def MKs (M : Int → Prop) (v : VV) : Prop := ∀ j, 0 ≤ j → j < 136 → (v 80 j = 0 ∨ v 80 j = 1) ∧ (¬ v 80 j = 0 ↔ M j)
set_option maxRecDepth 100000 in
set_option maxHeartbeats 4000000 in
theorem l_marksUsed {X : XX} {v : VV} {Q : QQ} {d mc ms : Nat} {b : Int → Int} {n t f : Int} {M : Int → Prop} (hW : SW X) (hd : 2 ≤ d) (hb : MB v) (hM : MT v) (hS : isS v t) (hT : TabT b n t v) (hp : PF v t f) (hK : MKs M v) (hQ : ∀ V, Fr S80 v V → MKs (fun j => M j ∨ ∃ k, rfF b n 3 (v 65 (8 * t + f)) k ∧ uAt b n v t k = j) V → Q none X V) : ∀ (x : Int) (V : VV), (v 65 (8 * t + f) ≤ x) → Fr S80 v V → MKs (fun j => M j ∨ ∃ k, (rfF b n 3 (v 65 (8 * t + f)) k ∧ ¬ SC b n x (v 66 (8 * t + f)) k) ∧ uAt b n v t k = j) V → (∀ k, SC b n x (v 66 (8 * t + f)) k → rfF b n 3 (v 65 (8 * t + f)) k ∧ x ≤ k) → Ex mX11_marksUsed d 12 [(2, 47), (0, t), (0, f), (0, x)] [] X V mc ms Q := by
  have hF := hT.2 f hp
  obtain ⟨f1, f2, f3, f4, f5⟩ := id hF
  have ht := isT_b hb hS.1
  have hf8 := PF_bd hM hS hp
  have hA := hT.1.2.2.2.2
  refine loop2 (fun x _ => (v 66 (8 * t + f) - x).toNat) (fun x V => (v 65 (8 * t + f) ≤ x) → Fr S80 v V → MKs (fun j => M j ∨ ∃ k, (rfF b n 3 (v 65 (8 * t + f)) k ∧ ¬ SC b n x (v 66 (8 * t + f)) k) ∧ uAt b n v t k = j) V → (∀ k, SC b n x (v 66 (8 * t + f)) k → rfF b n 3 (v 65 (8 * t + f)) k ∧ x ≤ k) → Ex mX11_marksUsed d 12 [(2, 47), (0, t), (0, f), (0, x)] [] X V mc ms Q) (fun x V ih => ?_)
  intro hx hf hMV hsub
  have g : ∀ r j, ¬ r = 80 → V r j = v r j := hf
  have hIV := MS80 (G := fun _ => (b, n)) (v := v) (V := V) 
  have hbV : MB V := hb.fr hf (fun j _ => by unfold S80; omega)
  refine bX11_marksUsed_12 t f x hd hW (fun _ _ _ => ?_)
  rw [g 66 _ (by omega)]
  refine ⟨⟨by omega, by omega⟩, fun _ => ⟨by omega, by omega⟩, ⟨by omega, by omega⟩, fun gx => ?_, fun gx => ?_⟩
  · exact hQ V hf (fun j j0 j1 => ⟨(hMV j j0 j1).1, (hMV j j0 j1).2.trans ⟨fun q => q.imp id (fun ⟨k, k1, k2⟩ => ⟨k, k1.1, k2⟩), fun q => q.imp id (fun ⟨k, k1, k2⟩ => ⟨k, ⟨k1, SC_end gx⟩, k2⟩)⟩⟩)
  · have hTK : TKt b n t (v 60 t) V := hT.1.fr hf (fun j => ⟨by unfold S80; omega, by unfold S80; omega, by unfold S80; omega, by unfold S80; omega⟩)
    refine ⟨_, c_isNameAt hW t x ⟨by omega, by omega⟩ ⟨by omega, by omega⟩, fun r2 w3 hP => ?_⟩
    obtain ⟨rfl, hr⟩ := hP
    obtain rfl : r2 = bI (w3 61 (400 * t + x) = 1 ∧ w3 61 (400 * t + x + 1) = 46) := by simpa using hr
    have hnm := nmN_row hTK (x := x) (by omega) (by omega)
    refine ⟨fun g2 => ?_, fun g2 => ⟨⟨by omega, by omega⟩, ?_⟩⟩
    · rw [bI_n0, hnm] at g2
      have hk : rfF b n 3 (v 65 (8 * t + f)) x := (hsub x ((SC_y gx g2).mpr (Or.inl rfl))).1
      have hu := uAt_bd hb hM hS hF hk
      have hG1 : MS (fun _ => (b, n)) (upd2 v 50 t (v 50 t)) ∨ True := Or.inr trivial
      -- the same facts over w3
      have hMw : MT w3 := by
        intro q q0 q1
        have hm := hM q q0 (by rw [← g 47 0 (by omega)]; exact q1)
        unfold MTt at hm ⊢
        simp only [g 48 _ (by omega), g 50 _ (by omega), g 51 _ (by omega), g 54 _ (by omega), g 55 _ (by omega), g 56 _ (by omega), g 57 _ (by omega), g 58 _ (by omega), g 59 _ (by omega)]
        exact hm
      have hFw : FmOK b n t w3 f := by
        have hk2 := hF
        unfold FmOK at hk2 ⊢
        simp only [qOf_fs hf S80_ref, cOf_fs hf S80_ref, g 65 _ (by omega), g 66 _ (by omega), g 60 _ (by omega), g 48 _ (by omega), g 51 _ (by omega)]
        exact hk2
      have hTw : TabT b n t w3 := ⟨by rw [g 60 _ (by omega)]; exact hTK, fun f' hf' => by
        have hf3 : PF v t f' := by
          unfold PF at hf' ⊢
          rw [g 51 _ (by omega), g 66 _ (by omega)] at hf'
          exact hf'
        have hk2 := hT.2 f' hf3
        unfold FmOK at hk2 ⊢
        simp only [qOf_fs hf S80_ref, cOf_fs hf S80_ref, g 65 _ (by omega), g 66 _ (by omega), g 60 _ (by omega), g 48 _ (by omega), g 51 _ (by omega)]
        exact hk2⟩
      refine ⟨_, c_usedAt hW hbV hMw ((isS80 hf t).mpr hS) hTw hFw (by rw [g 65 _ (by omega)]; exact hk), fun r6 w7 hP => ?_⟩
      obtain ⟨rfl, hr⟩ := hP
      obtain rfl : r6 = uAt b n w7 t x := by simpa using hr
      rw [uAt_fs hf S80_ref]
      refine ⟨⟨hu.1, by omega⟩, ⟨by omega, by omega⟩, ⟨by omega, by omega⟩, ?_⟩
      rw [show x + 2 + 1 = x + 3 by omega]
      have hnot : ¬ SC b n (x + 3) (v 66 (8 * t + f)) x := fun z => by
        have h1 : ∀ (m : Nat) (y : Int), x < y → ¬ scF b n m y (v 66 (8 * t + f)) x := by
          intro m
          induction m with
          | zero => intro y _ z; exact z
          | succ m ihm =>
            intro y hy z
            rcases z.2 with ⟨_, q | q⟩ | ⟨_, q⟩
            · omega
            · exact ihm _ (by omega) q
            · exact ihm _ (by omega) q
        exact h1 _ _ (by omega) z
      refine ih (x + 3) _ (by omega) (by omega) (hf.up rfl) (fun j j0 j1 => ?_) (fun k k1 => ⟨(hsub k ((SC_y gx g2).mpr (Or.inr k1))).1, ?_⟩)
      · by_cases hj : j = uAt b n v t x
        · subst hj
          rw [upd2_s]
          exact ⟨Or.inr rfl, ⟨fun _ => Or.inr ⟨x, ⟨hk, hnot⟩, rfl⟩, fun _ => by decide⟩⟩
        · rw [upd2_n _ (by omega)]
          refine ⟨(hMV j j0 j1).1, (hMV j j0 j1).2.trans ⟨fun q => q.imp id (fun ⟨k, k1, k2⟩ => ⟨k, ⟨k1.1, fun z => k1.2 ((SC_y gx g2).mpr (Or.inr z))⟩, k2⟩), fun q => q.imp id (fun ⟨k, k1, k2⟩ => ⟨k, ⟨k1.1, fun z => ?_⟩, k2⟩)⟩⟩
          rcases (SC_y gx g2).mp z with y | y
          · rw [y] at k2; exact hj k2.symm
          · exact k1.2 y
      · have h1 : ∀ (m : Nat) (y : Int), scF b n m y (v 66 (8 * t + f)) k → y ≤ k := by
          intro m
          induction m with
          | zero => intro y z; exact z.elim
          | succ m ihm =>
            intro y z
            rcases z.2 with ⟨_, q | q⟩ | ⟨_, q⟩
            · omega
            · have := ihm _ q; omega
            · have := ihm _ q; omega
        exact h1 _ _ k1
    · rw [bI_0, hnm] at g2
      refine ih (x + 1) _ (by omega) (by omega) hf (fun j j0 j1 => ⟨(hMV j j0 j1).1, (hMV j j0 j1).2.trans ?_⟩) (fun k k1 => ?_)
      · have e : ∀ k, SC b n (x + 1) (v 66 (8 * t + f)) k ↔ SC b n x (v 66 (8 * t + f)) k := fun k => (SC_n gx g2).symm
        simp only [e]
      · have h1 : ∀ (m : Nat) (y : Int), scF b n m y (v 66 (8 * t + f)) k → y ≤ k := by
          intro m
          induction m with
          | zero => intro y z; exact z.elim
          | succ m ihm =>
            intro y z
            rcases z.2 with ⟨_, q | q⟩ | ⟨_, q⟩
            · omega
            · have := ihm _ q; omega
            · have := ihm _ q; omega
        exact ⟨(hsub k ((SC_n gx g2).mpr k1)).1, h1 _ _ k1⟩
set_option maxRecDepth 100000 in
set_option maxHeartbeats 4000000 in
theorem c_marksUsed {X : XX} {v : VV} {G : GT} {t f : Int} {M : Int → Prop} (hW : SW X) (hI : MS G v) (hS : isS v t) (hp : PF v t f) (hK : MKs M v) : CX mX11_marksUsed 2 [(2, 47), (0, t), (0, f)] X v (fun o v1 => Fr S80 v v1 ∧ MKs (fun j => M j ∨ Use G v t f j) v1) := by
  obtain ⟨hb, hM, hG⟩ := hI
  have hT := hG t hS
  have ht := isT_b hb hS.1
  have hf8 := PF_bd hM hS hp
  obtain ⟨f1, f2, f3, f4, f5⟩ := hT.2 f hp
  refine CX.of (by decide +kernel) rfl rfl rfl (bX11_marksUsed_0 t f (Nat.le_refl _) hW (fun _ _ => ⟨⟨by omega, by omega⟩, fun _ => ⟨by omega, by omega⟩, ⟨by omega, by omega⟩, ?_⟩))
  have hall : ∀ k, SC (G t).1 (G t).2 (v 65 (8 * t + f)) (v 66 (8 * t + f)) k ↔ rfF (G t).1 (G t).2 3 (v 65 (8 * t + f)) k := fun k => by rw [f3]; exact SC_F hT.1.2.2.1 f2
  refine l_marksUsed (M := M) hW (Nat.le_refl _) hb hM hS hT hp hK (fun V hV hV2 => ⟨rfl, hV, hV2⟩) _ _ (Int.le_refl _) Fr.rf (fun j j0 j1 => ⟨(hK j j0 j1).1, (hK j j0 j1).2.trans ⟨Or.inl, fun q => q.elim id (fun ⟨k, k1, _⟩ => absurd ((hall k).mpr k1.1) k1.2)⟩⟩) (fun k k1 => ⟨(hall k).mp k1, (rfF_ok f2 ((hall k).mp k1)).2.1⟩)
