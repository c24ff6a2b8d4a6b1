/-! ===== in a statement that is well read no two numbers stand side by side, no text is broken, no end stands within ===== -/
def GrF (b : Int → Int) (n a : Int) : Prop := ∀ i, 2 ≤ i → i < a → (¬ tK b n i = 259 ∧ ¬ tK b n i = 260) ∧ (i + 1 < a → tK b n i = 257 → ¬ tK b n (i + 1) = 257)
def GrN (b : Int → Int) (n a : Int) : Prop := GrF b n a ∧ ¬ tK b n (a - 1) = 257
theorem GrF.no {b : Int → Int} {n a : Int} (h : GrF b n a) (h1 : ¬ tK b n a = 257) (h2 : ¬ tK b n a = 259) (h3 : ¬ tK b n a = 260) : GrN b n (a + 1) := ⟨fun i i0 i1 => by
    by_cases q : i = a
    · subst q; exact ⟨⟨h2, h3⟩, fun z => by omega⟩
    · obtain ⟨p1, p2⟩ := h i i0 (by omega)
      refine ⟨p1, fun z zz => ?_⟩
      by_cases q2 : i + 1 = a
      · rw [q2]; exact h1
      · exact p2 (by omega) zz, by rw [show a + 1 - 1 = a by omega]; exact h1⟩
theorem GrF.of {b : Int → Int} {n a k : Int} (h : GrF b n a) (hk : tK b n a = k) (h1 : ¬ k = 257 ∧ ¬ k = 259 ∧ ¬ k = 260) : GrN b n (a + 1) := h.no (by rw [hk]; exact h1.1) (by rw [hk]; exact h1.2.1) (by rw [hk]; exact h1.2.2)
theorem GrN.any {b : Int → Int} {n a : Int} (h : GrN b n a) (h2 : ¬ tK b n a = 259) (h3 : ¬ tK b n a = 260) : GrF b n (a + 1) := fun i i0 i1 => by
    by_cases q : i = a
    · subst q; exact ⟨⟨h2, h3⟩, fun z => by omega⟩
    · obtain ⟨p1, p2⟩ := h.1 i i0 (by omega)
      refine ⟨p1, fun z zz => ?_⟩
      by_cases q2 : i + 1 = a
      · exact absurd zz (by rw [show i = a - 1 by omega]; exact h.2)
      · exact p2 (by omega) zz
theorem rThen_in {r : Bool × Int} {f : Int → Bool × Int} {P : Int → Prop} (h : (rThen r f).1 = true) (k : r.1 = true → (f r.2).1 = true → P (f r.2).2) : P (rThen r f).2 := by
  obtain ⟨h1, e⟩ := rThen_true h
  rw [e] at h ⊢
  exact k h1 h
theorem gr_take {b : Int → Int} {n s a : Int} (h : GrF b n a) (hs : ¬ s = 257 ∧ ¬ s = 259 ∧ ¬ s = 260) (ht : (rTake b n s a).1 = true) : GrN b n (rTake b n s a).2 := by
  obtain ⟨e1, e2⟩ := rTake_t ht
  rw [e1]
  exact h.of e2 hs
theorem gr_name {b : Int → Int} {n a : Int} (h : GrF b n a) (ht : (rName b n a).1 = true) : GrN b n (rName b n a).2 := by
  obtain ⟨e1, e2, e3⟩ := rName_t ht
  rw [e1]
  exact h.of e2 (by omega)
theorem gr_leaf {b : Int → Int} {n a : Int} (h : GrN b n a) (ht : (rLeaf b n a).1 = true) : GrF b n (rLeaf b n a).2 := by
  rcases rLeaf_t ht with ⟨k1, -, k2, k3, -, e⟩ | ⟨k1, -, e⟩ | ⟨k1, e⟩
  · rw [e]
    have h1 := h.1.of k1 (by omega)
    have h2 := h1.1.of k2 (by omega)
    rw [show a + 1 + 1 = a + 2 by omega] at h2
    have h3 := h2.1.of k3 (by omega)
    rw [show a + 2 + 1 = a + 3 by omega] at h3
    exact h3.1
  · rw [e]; exact h.any (by omega) (by omega)
  · rw [e]; exact h.any (by omega) (by omega)
theorem gr_more {b : Int → Int} {n : Int} {pT : Int → Bool × Int} (hp : ∀ a, GrN b n a → (pT a).1 = true → GrF b n (pT a).2) : ∀ (m : Nat) (a : Int), GrF b n a → (rMore b n pT m a).1 = true → GrF b n (rMore b n pT m a).2
  | 0, a, h, ht => by
    by_cases q : isOp (tK b n a)
    · rw [rMore_0 q] at ht; exact Bool.noConfusion ht
    · rw [rMore_no 0 q]; exact h
  | m + 1, a, h, ht => by
    by_cases q : isOp (tK b n a)
    · rw [rMore_s m q] at ht ⊢
      refine rThen_in ht (fun t1 ht => ?_)
      have h1 : GrN b n (a + 1) := h.no (by unfold isOp at q; omega) (by unfold isOp at q; omega) (by unfold isOp at q; omega)
      exact gr_more hp m _ (hp _ h1 t1) ht
    · rw [rMore_no (m + 1) q]; exact h
theorem gr_term {b : Int → Int} {n : Int} : ∀ (j : Nat) (a : Int), GrN b n a → (rTerm b n j a).1 = true → GrF b n (rTerm b n j a).2
  | 0, a, h, ht => by
    by_cases q : tK b n a = 266 ∨ tK b n a = 267
    · have e : rTerm b n 0 a = (false, tS b n (a + 1)) := if_pos q
      rw [e] at ht; exact Bool.noConfusion ht
    · rw [rTerm_leaf 0 q] at ht ⊢; exact gr_leaf h ht
  | j + 1, a, h, ht => by
    by_cases q : tK b n a = 266 ∨ tK b n a = 267
    · obtain ⟨k1, k2, k3, k4, e⟩ := rTerm_call q ht
      rw [e]
      have h1 : GrN b n (a + 1) := h.1.no (by omega) (by omega) (by omega)
      have h2 := h1.1.of k1 (by omega)
      rw [show a + 1 + 1 = a + 2 by omega] at h2
      have h3 := gr_term j _ h2 k2
      have h4 := gr_more (gr_term j) 5 _ h3 k3
      exact (h4.of k4 (by omega)).1
    · rw [rTerm_leaf (j + 1) q] at ht ⊢; exact gr_leaf h ht
theorem gr_form {b : Int → Int} {n a : Int} {j : Nat} (h : GrN b n a) (ht : (rForm b n j a).1 = true) : GrF b n (rForm b n j a).2 := by
  obtain ⟨h1, h2, e⟩ := rForm_t ht
  rw [e]
  exact gr_more (gr_term j) 5 _ (gr_term j a h h1) h2
theorem gr_res {b : Int → Int} {n : Int} : ∀ (m : Nat) (a : Int), GrN b n a → (rRes b n m a).1 = true → GrN b n (rRes b n m a).2
  | 0, a, _, ht => Bool.noConfusion (ht : false = true)
  | m + 1, a, h, ht => by
    have e0 : rRes b n (m + 1) a = rThen (rName b n a) (fun a => rThen (rTake b n 58 a) (fun a => rThen (rForm b n 3 a) (fun a => if tK b n a = 44 then rRes b n m (a + 1) else rTake b n 264 a))) := rfl
    rw [e0] at ht ⊢
    refine rThen_in ht (fun t1 ht => ?_)
    have h1 := gr_name h.1 t1
    refine rThen_in ht (fun t2 ht => ?_)
    have h2 := gr_take h1.1 (by omega) t2
    refine rThen_in ht (fun t3 ht => ?_)
    have h3 := gr_form h2 t3
    by_cases q : tK b n (rForm b n 3 (rTake b n 58 (rName b n a).2).2).2 = 44
    · rw [if_pos q] at ht ⊢
      exact gr_res m _ (h3.of q (by omega)) ht
    · rw [if_neg q] at ht ⊢
      exact gr_take h3 (by omega) ht
theorem gr_beh {b : Int → Int} {n : Int} : ∀ (m : Nat) (a : Int), GrN b n a → (rBeh b n m a).1 = true → GrN b n (rBeh b n m a).2
  | 0, a, _, ht => Bool.noConfusion (ht : false = true)
  | m + 1, a, h, ht => by
    have e0 : rBeh b n (m + 1) a = rThen (rName b n a) (fun a => if tK b n a = 44 then rBeh b n m (a + 1) else (true, a)) := rfl
    rw [e0] at ht ⊢
    refine rThen_in ht (fun t1 ht => ?_)
    have h1 := gr_name h.1 t1
    by_cases q : tK b n (rName b n a).2 = 44
    · rw [if_pos q] at ht ⊢
      exact gr_beh m _ (h1.1.of q (by omega)) ht
    · rw [if_neg q]
      exact h1
theorem gr_where {b : Int → Int} {n a : Int} (h : GrN b n a) (ht : (rWhere b n a).1 = true) : GrF b n (rWhere b n a).2 := by
  unfold rWhere at ht ⊢
  by_cases q : tK b n a = 265
  · rw [if_pos q] at ht ⊢
    refine rThen_in ht (fun t1 ht => ?_)
    have h1 := gr_form (h.1.of q (by omega)) t1
    by_cases q2 : tK b n (rForm b n 3 (a + 1)).2 = 60 ∨ tK b n (rForm b n 3 (a + 1)).2 = 61
    · rw [if_pos q2] at ht ⊢
      exact gr_form (h1.no (by omega) (by omega) (by omega)) ht
    · rw [if_neg q2] at ht
      exact Bool.noConfusion (ht : false = true)
  · rw [if_neg q]
    exact h.1
theorem gr_select {b : Int → Int} {n a : Int} (h : GrN b n a) (ht : (rSelect b n a).1 = true) : GrF b n (rSelect b n a).2 := by
  unfold rSelect at ht ⊢
  refine rThen_in ht (fun t1 ht => ?_)
  have h1 := gr_take h.1 (by omega) t1
  refine rThen_in ht (fun t2 ht => ?_)
  have h2 := gr_res 6 _ h1 t2
  refine rThen_in ht (fun t3 ht => ?_)
  have h3 := gr_beh 3 _ h2 t3
  exact gr_where h3 ht
theorem gr_cols {b : Int → Int} {n : Int} : ∀ (m : Nat) (a : Int), GrN b n a → (rCols b n m a).1 = true → GrN b n (rCols b n m a).2
  | 0, a, _, ht => Bool.noConfusion (ht : false = true)
  | m + 1, a, h, ht => by
    have e0 : rCols b n (m + 1) a = rThen (rName b n a) (fun a => rThen (rType b n a) (fun a => if tK b n a = 44 then rCols b n m (a + 1) else rTake b n 41 a)) := rfl
    rw [e0] at ht ⊢
    refine rThen_in ht (fun t1 ht => ?_)
    have h1 := gr_name h.1 t1
    refine rThen_in ht (fun t2 ht => ?_)
    have h2 : GrN b n (rType b n (rName b n a).2).2 := by
      unfold rType at t2 ⊢
      by_cases q : tK b n (rName b n a).2 = 256 ∧ (tW b n (rName b n a).2 = 14 ∨ tW b n (rName b n a).2 = 20 ∨ tW b n (rName b n a).2 = 4)
      · rw [if_pos q]; exact h1.1.of q.1 (by omega)
      · rw [if_neg q] at t2; exact Bool.noConfusion t2
    by_cases q : tK b n (rType b n (rName b n a).2).2 = 44
    · rw [if_pos q] at ht ⊢
      exact gr_cols m _ (h2.1.of q (by omega)) ht
    · rw [if_neg q] at ht ⊢
      exact gr_take h2.1 (by omega) ht
/-- all tokens of a statement that is well read -/
theorem gr_stmt {b : Int → Int} {n : Int} (h : (rStmt b n).1 = true) : GrF b n (rStmt b n).2 := by
  obtain ⟨⟨h1, -⟩, h2, h59, e⟩ := rStmt_t h
  have g0 : GrN b n 2 := ⟨fun i i0 i1 => by omega, by rw [show (2 : Int) - 1 = 1 by omega]; omega⟩
  have g1 : GrF b n (rBody b n 2).2 := by
    unfold rBody at h2 ⊢
    by_cases q : tK b n 0 = 261
    · rw [if_pos q] at h2 ⊢
      unfold rSource at h2 ⊢
      refine rThen_in h2 (fun t1 h2 => ?_)
      exact (gr_cols 6 _ (gr_take g0.1 (by omega) t1) h2).1
    · rw [if_neg q] at h2 ⊢
      exact gr_select g0 h2
  rw [e]
  exact (g1.of h59 (by omega)).1
