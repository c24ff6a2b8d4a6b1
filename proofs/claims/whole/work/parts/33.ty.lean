/-! ===== the type of a formula ===== -/
/-- the fault is the least of N -/
def FM (N : Int → Int → Prop) (v : VV) : Prop := (v 47 25 = 0 ∧ v 47 26 = -1 ∧ ∀ k p, ¬ N k p) ∨ (¬ v 47 25 = 0 ∧ N (v 47 25) (v 47 26) ∧ ∀ k p, N k p → v 47 26 ≤ p)
theorem FM.cg {N N' : Int → Int → Prop} {v : VV} (h : FM N v) (e : ∀ k p, N k p ↔ N' k p) : FM N' v := by
  rcases h with ⟨a, b, c⟩ | ⟨a, b, c⟩
  · exact Or.inl ⟨a, b, fun k p q => c k p ((e k p).mpr q)⟩
  · exact Or.inr ⟨a, (e _ _).mp b, fun k p q => c k p ((e k p).mpr q)⟩
theorem FM.same {N : Int → Int → Prop} {v v1 : VV} (h : FM N v) (h1 : v1 47 25 = v 47 25) (h2 : v1 47 26 = v 47 26) : FM N v1 := by
  unfold FM; rw [h1, h2]; exact h
theorem FM.note {N : Int → Int → Prop} {v : VV} (h : FM N v) (k p : Int) (hk : ¬ k = 0) : FM (fun k' p' => N k' p' ∨ (k' = k ∧ p' = p)) (mMeans v k p) := by
  unfold mMeans
  rcases h with ⟨a, b, c⟩ | ⟨a, b, c⟩
  · rw [if_neg (fun z => z.1 a)]
    refine Or.inr ⟨?_, ?_, ?_⟩
    · rw [upd2_n _ (by omega), upd2_s]; exact hk
    · right; rw [upd2_n _ (by omega), upd2_s, upd2_s]; exact ⟨rfl, rfl⟩
    · intro k' p' q
      rw [upd2_s]
      rcases q with q | q
      · exact absurd q (c k' p')
      · omega
  · by_cases hp : v 47 26 ≤ p
    · rw [if_pos ⟨a, hp⟩]
      refine Or.inr ⟨a, Or.inl b, fun k' p' q => ?_⟩
      rcases q with q | q
      · exact c k' p' q
      · omega
    · rw [if_neg (fun z => hp z.2)]
      refine Or.inr ⟨?_, ?_, ?_⟩
      · rw [upd2_n _ (by omega), upd2_s]; exact hk
      · right; rw [upd2_n _ (by omega), upd2_s, upd2_s]; exact ⟨rfl, rfl⟩
      · intro k' p' q
        rw [upd2_s]
        rcases q with q | q
        · have := c k' p' q; omega
        · omega
def opBad (s l r : Int) : Prop := ¬ l = 0 ∧ ¬ r = 0 ∧ opT s l r = 0
noncomputable def tyM (b : Int → Int) (n : Int) (tT : Int → Int) (pT : Int → Bool × Int) : Nat → Int → Int → Int
  | 0, l, _ => l
  | m + 1, l, a => @ite Int (isOp (tK b n a)) (Classical.propDecidable _) (tyM b n tT pT m (opT (tK b n a) l (tT (a + 1))) (pT (a + 1)).2) l
def tyL (b : Int → Int) (n : Int) (R : Int → Int) (a : Int) : Int := if tK b n a = 256 then R a else if tK b n a = 257 then 110 else 116
noncomputable def tyT (b : Int → Int) (n : Int) (R : Int → Int) : Nat → Int → Int
  | 0, a => tyL b n R a
  | _ + 1, a => if tK b n a = 266 then 110 else if tK b n a = 267 then 116 else tyL b n R a
noncomputable def tyF (b : Int → Int) (n : Int) (R : Int → Int) (j : Nat) (a : Int) : Int := tyM b n (tyT b n R j) (rTerm b n j) 5 (tyT b n R j a) (rTerm b n j a).2
def erM (b : Int → Int) (n : Int) (tT : Int → Int) (pT : Int → Bool × Int) (eT : Int → Int → Prop) : Nat → Int → Int → Int → Prop
  | 0, _, _, _ => False
  | m + 1, l, a, p => isOp (tK b n a) ∧ (eT (a + 1) p ∨ (opBad (tK b n a) l (tT (a + 1)) ∧ p = tS b n a) ∨ erM b n tT pT eT m (opT (tK b n a) l (tT (a + 1))) (pT (a + 1)).2 p)
def erT (b : Int → Int) (n : Int) (R : Int → Int) : Nat → Int → Int → Prop
  | 0, _, _ => False
  | j + 1, a, p => (tK b n a = 266 ∨ tK b n a = 267) ∧ ((erT b n R j (a + 2) p ∨ erM b n (tyT b n R j) (rTerm b n j) (erT b n R j) 5 (tyT b n R j (a + 2)) (rTerm b n j (a + 2)).2 p) ∨ (¬ tyF b n R j (a + 2) = 0 ∧ ¬ tyF b n R j (a + 2) = (if tK b n a = 266 then 116 else 110) ∧ p = tS b n a))
def erF (b : Int → Int) (n : Int) (R : Int → Int) (j : Nat) (a p : Int) : Prop := erT b n R j a p ∨ erM b n (tyT b n R j) (rTerm b n j) (erT b n R j) 5 (tyT b n R j a) (rTerm b n j a).2 p
def rfM (b : Int → Int) (n : Int) (pT : Int → Bool × Int) (rT : Int → Int → Prop) : Nat → Int → Int → Prop
  | 0, _, _ => False
  | m + 1, a, k => isOp (tK b n a) ∧ (rT (a + 1) k ∨ rfM b n pT rT m (pT (a + 1)).2 k)
def rfT (b : Int → Int) (n : Int) : Nat → Int → Int → Prop
  | 0, a, k => tK b n a = 256 ∧ k = a
  | j + 1, a, k => (tK b n a = 256 ∧ k = a) ∨ ((tK b n a = 266 ∨ tK b n a = 267) ∧ (rfT b n j (a + 2) k ∨ rfM b n (rTerm b n j) (rfT b n j) 5 (rTerm b n j (a + 2)).2 k))
def rfF (b : Int → Int) (n : Int) (j : Nat) (a k : Int) : Prop := rfT b n j a k ∨ rfM b n (rTerm b n j) (rfT b n j) 5 (rTerm b n j a).2 k
/-- the note that a reference at k leaves -/
def miss (b : Int → Int) (n : Int) (v : VV) (t k p : Int) : Prop := (qOf v t (tW b n k) = -1 ∧ ¬ told v t (tW b n k) ∧ p = tS b n k) ∨ (¬ qOf v t (tW b n k) = -1 ∧ cOf v (qOf v t (tW b n k)) (tW b n (k + 2)) = -1 ∧ p = tS b n (k + 2))
/-- what typing touches -/
def TYs (r j : Int) : Prop := (r = 47 ∧ (j = 25 ∨ j = 26 ∨ j = 50 ∨ j = 51)) ∨ r = 72 ∨ r = 73 ∨ r = 74 ∨ r = 75 ∨ r = 76
/-- so far: the notes M beside N0, x tokens read -/
def TA (v : VV) (N0 M : Int → Int → Prop) (x : Int) (V : VV) : Prop := Fr TYs v V ∧ (¬ v 47 52 = 0 → FM (fun k p => N0 k p ∨ M k p) V) ∧ (v 47 52 = 0 → V 47 25 = v 47 25 ∧ V 47 26 = v 47 26) ∧ (v 47 50 ≤ V 47 50 ∧ V 47 50 ≤ v 47 50 + x) ∧ (V 47 50 = v 47 50 ↔ ∀ p, ¬ M 3 p)
theorem TA.cg {v V : VV} {N0 M M' : Int → Int → Prop} {x x' : Int} (h : TA v N0 M x V) (e : ∀ k p, M k p ↔ M' k p) (hx : x ≤ x') : TA v N0 M' x' V := by
  obtain ⟨h1, h2, h3, h4, h5⟩ := h
  exact ⟨h1, fun z => (h2 z).cg (fun k p => by rw [e]), h3, ⟨h4.1, by omega⟩, h5.trans ⟨fun q p z => q p ((e 3 p).mpr z), fun q p z => q p ((e 3 p).mp z)⟩⟩
theorem TA.cell {v V : VV} {N0 M : Int → Int → Prop} {x r j y : Int} (h : TA v N0 M x V) (hs : TYs r j) (hn : ¬ (r = 47 ∧ (j = 25 ∨ j = 26 ∨ j = 50))) : TA v N0 M x (upd2 V r j y) := by
  obtain ⟨h1, h2, h3, h4, h5⟩ := h
  refine ⟨h1.up hs, fun z => (h2 z).same (upd2_n _ (by omega)) (upd2_n _ (by omega)), fun z => ?_, ?_, ?_⟩
  · rw [upd2_n _ (by omega), upd2_n _ (by omega)]; exact h3 z
  · rw [upd2_n _ (by omega)]; exact h4
  · rw [upd2_n _ (by omega)]; exact h5
theorem Fr.mM {S : Int → Int → Prop} {v V : VV} {k p : Int} (h : Fr S v V) (h1 : S 47 25) (h2 : S 47 26) : Fr S v (mMeans V k p) := by
  unfold mMeans
  split
  · exact h
  · exact (h.up h1).up h2
theorem TA.miss2 {v V : VV} {N0 M : Int → Int → Prop} {x p : Int} (h : TA v N0 M x V) (h52 : ¬ v 47 52 = 0) : TA v N0 (fun k' p' => M k' p' ∨ (k' = 2 ∧ p' = p)) x (mMeans V 2 p) := by
  obtain ⟨h1, h2, h3, h4, h5⟩ := h
  have e50 : mMeans V 2 p 47 50 = V 47 50 := mM_n (by omega)
  refine ⟨h1.mM (by unfold TYs; omega) (by unfold TYs; omega), fun z => ((h2 z).note 2 p (by decide)).cg (fun k q => ?_), fun z => absurd z h52, by rw [e50]; exact h4, by
    rw [e50, h5]
    exact ⟨fun q p' z => z.elim (q p') (fun y => by omega), fun q p' z => q p' (Or.inl z)⟩⟩
  exact ⟨fun q => by rcases q with (q | q) | q; exact Or.inl q; exact Or.inr (Or.inl q); exact Or.inr (Or.inr q), fun q => by rcases q with q | q | q; exact Or.inl (Or.inl q); exact Or.inl (Or.inr q); exact Or.inr q⟩
theorem TA.wrong {v V : VV} {N0 M : Int → Int → Prop} {x p : Int} (h : TA v N0 M x V) : TA v N0 (fun k' p' => M k' p' ∨ (k' = 3 ∧ p' = p)) (x + 1) (wrV V p) := by
  obtain ⟨h1, h2, h3, h4, h5⟩ := h
  have e52 : V 47 52 = v 47 52 := h1 47 52 (by unfold TYs; omega)
  have fu : Fr TYs v (upd2 V 47 50 (V 47 50 + 1)) := h1.up (by unfold TYs; omega)
  unfold wrV
  rw [e52]
  by_cases h52 : v 47 52 = 0
  · rw [if_pos h52]
    refine ⟨fu, fun z => absurd h52 z, fun z => ?_, ?_, ?_⟩
    · rw [upd2_n _ (by omega), upd2_n _ (by omega)]; exact h3 z
    · rw [upd2_s]; omega
    · rw [upd2_s]
      exact ⟨fun q => by omega, fun q => absurd (Or.inr ⟨rfl, rfl⟩) (q p)⟩
  · rw [if_neg h52]
    have e50 : mMeans (upd2 V 47 50 (V 47 50 + 1)) 3 p 47 50 = V 47 50 + 1 := by rw [mM_n (by omega), upd2_s]
    refine ⟨fu.mM (by unfold TYs; omega) (by unfold TYs; omega), fun z => (((h2 z).same (v1 := upd2 V 47 50 (V 47 50 + 1)) (upd2_n _ (by omega)) (upd2_n _ (by omega))).note 3 p (by decide)).cg (fun k q => ?_), fun z => absurd z h52, by rw [e50]; omega, by
      rw [e50]
      exact ⟨fun q => by omega, fun q => absurd (Or.inr ⟨rfl, rfl⟩) (q p)⟩⟩
    exact ⟨fun q => by rcases q with (q | q) | q; exact Or.inl q; exact Or.inr (Or.inl q); exact Or.inr (Or.inr q), fun q => by rcases q with q | q | q; exact Or.inl (Or.inl q); exact Or.inl (Or.inr q); exact Or.inr q⟩
theorem cmV_72 (V : VV) (a : Int) : cmV V a 72 (V 47 51) = if V 73 (V 47 51) = 0 then a else opT (V 73 (V 47 51)) (V 72 (V 47 51)) a := by
  unfold cmV
  split
  · exact upd2_s _ _ _ _
  · exact upd2_s _ _ _ _
theorem cmV_73 (V : VV) (a : Int) : cmV V a 73 (V 47 51) = 0 := by
  unfold cmV
  split
  · rw [upd2_n _ (by omega), upd2_s]
  · rw [upd2_n _ (by omega)]
    split
    · rw [wrV_n (by omega), upd2_s]
    · exact upd2_s _ _ _ _
theorem cmV_n {V : VV} {a r j : Int} (h1 : ¬ (r = 72 ∧ j = V 47 51)) (h2 : ¬ (r = 73 ∧ j = V 47 51)) (h3 : ¬ (r = 47 ∧ (j = 25 ∨ j = 26 ∨ j = 50))) : cmV V a r j = V r j := by
  unfold cmV
  split
  · rw [upd2_n _ h1, upd2_n _ h2]
  · rw [upd2_n _ h1]
    split
    · rw [wrV_n h3, upd2_n _ h2]
    · rw [upd2_n _ h2]
theorem TA.cm {v V : VV} {N0 M : Int → Int → Prop} {x : Int} (h : TA v N0 M x V) (a : Int) : TA v N0 (fun k p => M k p ∨ (k = 3 ∧ ¬ V 73 (V 47 51) = 0 ∧ opBad (V 73 (V 47 51)) (V 72 (V 47 51)) a ∧ p = V 74 (V 47 51))) (x + 1) (cmV V a) := by
  have h73 : TA v N0 M x (upd2 V 73 (V 47 51) 0) := h.cell (by unfold TYs; omega) (by omega)
  have e74 : V 74 (V 47 51) = upd2 V 73 (V 47 51) 0 74 (V 47 51) := (upd2_n _ (by omega)).symm
  unfold cmV
  by_cases hs : V 73 (V 47 51) = 0
  · rw [if_pos hs]
    exact (h73.cell (by unfold TYs; omega) (by omega)).cg (fun k p => ⟨Or.inl, fun q => q.elim id (fun z => absurd hs z.2.1)⟩) (by omega)
  · rw [if_neg hs]
    by_cases hb : ¬ V 72 (V 47 51) = 0 ∧ ¬ a = 0 ∧ opT (V 73 (V 47 51)) (V 72 (V 47 51)) a = 0
    · rw [if_pos hb]
      exact (h73.wrong.cell (by unfold TYs; omega) (by omega)).cg (fun k p => ⟨fun q => q.imp id (fun z => ⟨z.1, hs, hb, z.2⟩), fun q => q.imp id (fun z => ⟨z.1, z.2.2.2⟩)⟩) (Int.le_refl _)
    · rw [if_neg hb]
      exact (h73.cell (by unfold TYs; omega) (by omega)).cg (fun k p => ⟨Or.inl, fun q => q.elim id (fun z => absurd z.2.2.1 hb)⟩) (by omega)
theorem rLeaf_t {b : Int → Int} {n a : Int} (h : (rLeaf b n a).1 = true) : (tK b n a = 256 ∧ tL b n a ≤ 8 ∧ tK b n (a + 1) = 46 ∧ tK b n (a + 2) = 256 ∧ tL b n (a + 2) ≤ 8 ∧ (rLeaf b n a).2 = a + 3) ∨ (tK b n a = 257 ∧ tL b n a ≤ 4 ∧ (rLeaf b n a).2 = a + 1) ∨ (tK b n a = 258 ∧ (rLeaf b n a).2 = a + 1) := by
  unfold rLeaf at h ⊢
  by_cases h1 : tK b n a = 256
  · left
    rw [if_pos h1] at h ⊢
    cases hn : (rName b n a).1 with
    | false => rw [rThen_f hn, hn] at h; exact Bool.noConfusion h
    | true =>
      obtain ⟨e1, e2, e3⟩ := rName_t hn
      rw [rThen_t hn, e1] at h ⊢
      cases ht : (rTake b n 46 (a + 1)).1 with
      | false =>
        have : (rThen (rTake b n 46 (a + 1)) (rName b n)).1 = true := h
        rw [rThen_f ht, ht] at this; exact Bool.noConfusion this
      | true =>
        obtain ⟨e4, e5⟩ := rTake_t ht
        have h2 : (rThen (rTake b n 46 (a + 1)) (rName b n)).1 = true := h
        rw [rThen_t ht, e4] at h2
        have h3 : (rName b n (a + 1 + 1)).1 = true := h2
        rw [show a + 1 + 1 = a + 2 by omega] at h3
        obtain ⟨e6, e7, e8⟩ := rName_t h3
        refine ⟨h1, e3, e5, e7, e8, ?_⟩
        show (rThen (rTake b n 46 (a + 1)) (rName b n)).2 = a + 3
        rw [rThen_t ht, e4]
        show (rName b n (a + 1 + 1)).2 = a + 3
        rw [show a + 1 + 1 = a + 2 by omega, e6]
        show a + 2 + 1 = a + 3
        omega
  · right
    rw [if_neg h1] at h ⊢
    by_cases h2 : tK b n a = 257
    · left
      rw [if_pos h2] at h ⊢
      by_cases h3 : tL b n a ≤ 4
      · rw [if_pos h3]; exact ⟨h2, h3, rfl⟩
      · rw [if_neg h3] at h; exact Bool.noConfusion h
    · right
      rw [if_neg h2] at h ⊢
      by_cases h3 : tK b n a = 258
      · rw [if_pos h3]; exact ⟨h3, rfl⟩
      · rw [if_neg h3] at h
        split at h <;> exact Bool.noConfusion h
theorem rThen_true {r : Bool × Int} {f : Int → Bool × Int} (h : (rThen r f).1 = true) : r.1 = true ∧ rThen r f = f r.2 := by
  cases hr : r.1 with
  | true => exact ⟨rfl, rThen_t hr⟩
  | false => rw [rThen_f hr, hr] at h; exact Bool.noConfusion h
/-- a term that stands: a leaf, or a call -/
theorem rTerm_leaf {b : Int → Int} {n a : Int} (j : Nat) (hno : ¬ (tK b n a = 266 ∨ tK b n a = 267)) : rTerm b n j a = rLeaf b n a := by
  cases j with
  | zero => exact if_neg hno
  | succ j => exact if_neg hno
theorem rTerm_call {b : Int → Int} {n a : Int} {j : Nat} (hy : tK b n a = 266 ∨ tK b n a = 267) (h : (rTerm b n (j + 1) a).1 = true) : tK b n (a + 1) = 40 ∧ (rTerm b n j (a + 2)).1 = true ∧ (rMore b n (rTerm b n j) 5 (rTerm b n j (a + 2)).2).1 = true ∧ tK b n (rMore b n (rTerm b n j) 5 (rTerm b n j (a + 2)).2).2 = 41 ∧ (rTerm b n (j + 1) a).2 = (rMore b n (rTerm b n j) 5 (rTerm b n j (a + 2)).2).2 + 1 := by
  have e : rTerm b n (j + 1) a = rThen (rTake b n 40 (a + 1)) (fun a => rThen (rThen (rTerm b n j a) (rMore b n (rTerm b n j) 5)) (rTake b n 41)) := if_pos hy
  rw [e] at h ⊢
  obtain ⟨h1, e1⟩ := rThen_true h
  obtain ⟨e2, e3⟩ := rTake_t h1
  rw [e1, e2] at h ⊢
  replace h : (rThen (rThen (rTerm b n j (a + 1 + 1)) (rMore b n (rTerm b n j) 5)) (rTake b n 41)).1 = true := h
  show _ ∧ _ ∧ _ ∧ _ ∧ (rThen (rThen (rTerm b n j (a + 1 + 1)) (rMore b n (rTerm b n j) 5)) (rTake b n 41)).2 = _
  rw [show a + 1 + 1 = a + 2 by omega] at h ⊢
  obtain ⟨h2, e4⟩ := rThen_true h
  obtain ⟨h3, e5⟩ := rThen_true h2
  rw [e4] at h ⊢
  obtain ⟨e6, e7⟩ := rTake_t h
  rw [e6, e5] 
  rw [e5] at e7 h2
  exact ⟨e3, h3, h2, e7, rfl⟩
theorem rMore_le {b : Int → Int} {n : Int} {pT : Int → Bool × Int} (hp : ∀ a, (pT a).1 = true → a < (pT a).2) : ∀ (m : Nat) (a : Int), (rMore b n pT m a).1 = true → a ≤ (rMore b n pT m a).2
  | 0, a, h => by
    by_cases ho : isOp (tK b n a)
    · rw [rMore_0 ho] at h; exact Bool.noConfusion h
    · rw [rMore_no 0 ho]; exact Int.le_refl _
  | m + 1, a, h => by
    by_cases ho : isOp (tK b n a)
    · rw [rMore_s m ho] at h ⊢
      obtain ⟨h1, e1⟩ := rThen_true h
      rw [e1] at h ⊢
      have := rMore_le hp m _ h
      have := hp _ h1
      omega
    · rw [rMore_no _ ho]; exact Int.le_refl _
theorem rTerm_lt {b : Int → Int} {n : Int} : ∀ (j : Nat) (a : Int), (rTerm b n j a).1 = true → a < (rTerm b n j a).2
  | 0, a, h => by
    by_cases hy : tK b n a = 266 ∨ tK b n a = 267
    · rw [show rTerm b n 0 a = (false, tS b n (a + 1)) from if_pos hy] at h; exact Bool.noConfusion h
    · rw [rTerm_leaf 0 hy] at h ⊢
      rcases rLeaf_t h with q | q | q
      · omega
      · omega
      · omega
  | j + 1, a, h => by
    by_cases hy : tK b n a = 266 ∨ tK b n a = 267
    · obtain ⟨h1, h2, h3, h4, h5⟩ := rTerm_call hy h
      have := rTerm_lt j _ h2
      have := rMore_le (pT := rTerm b n j) (fun a => rTerm_lt j a) 5 _ h3
      omega
    · rw [rTerm_leaf _ hy] at h ⊢
      rcases rLeaf_t h with q | q | q
      · omega
      · omega
      · omega
/-- a table's tokens and what stands behind it, as typing needs them -/
def TYH (b : Int → Int) (n t A : Int) (v : VV) : Prop := TKt b n t A v ∧ (0 ≤ v 54 t ∧ v 54 t ≤ 3) ∧ (∀ i, 0 ≤ i → i < v 54 t → -1 ≤ v 55 (3 * t + i) ∧ v 55 (3 * t + i) < t) ∧ (∀ q, 0 ≤ q → q < t → 0 ≤ v 51 q ∧ v 51 q ≤ 6) ∧ MW v
theorem TYH.fr {b : Int → Int} {n t A : Int} {v V : VV} (h : TYH b n t A v) (hf : Fr TYs v V) : TYH b n t A V := by
  obtain ⟨⟨k1, k2, k3, k4, k5⟩, h2, h3, h4, m1, m2, m3, m4, m5, m6, m7⟩ := h
  have g : ∀ r j, ¬ TYs r j → V r j = v r j := hf
  refine ⟨⟨fun i i0 i1 => ?_, fun i i0 i1 => ?_, k3, k4, k5⟩, ?_, fun i i0 i1 => ?_, fun q q0 q1 => ?_, ?_, ?_, ?_, ?_, ?_, ?_, ?_⟩
  · rw [g 61 _ (by unfold TYs; omega), g 62 _ (by unfold TYs; omega), g 63 _ (by unfold TYs; omega)]; exact k1 i i0 i1
  · rw [g 64 _ (by unfold TYs; omega)]; exact k2 i i0 i1
  · rw [g 54 _ (by unfold TYs; omega)]; exact h2
  · rw [g 54 _ (by unfold TYs; omega)] at i1
    rw [g 55 _ (by unfold TYs; omega)]; exact h3 i i0 i1
  · rw [g 51 _ (by unfold TYs; omega)]; exact h4 q q0 q1
  · rw [g 47 _ (by unfold TYs; omega)]; exact m1
  · rw [g 47 _ (by unfold TYs; omega)]; exact m2
  · rw [g 47 _ (by unfold TYs; omega)]; exact m3
  · rw [g 47 _ (by unfold TYs; omega)]; exact m4
  · rw [g 47 _ (by unfold TYs; omega)]; exact m5
  · rw [g 47 _ (by unfold TYs; omega)]; exact m6
  · rw [g 47 _ (by unfold TYs; omega)]; exact m7
/-- S leaves alone what references are looked up in -/
def noRef (S : Int → Int → Prop) : Prop := ∀ j, ¬ S 49 j ∧ ¬ S 51 j ∧ ¬ S 52 j ∧ ¬ S 54 j ∧ ¬ S 55 j ∧ ¬ S 70 j
theorem TYs_ref : noRef TYs := fun j => ⟨by unfold TYs; omega, by unfold TYs; omega, by unfold TYs; omega, by unfold TYs; omega, by unfold TYs; omega, by unfold TYs; omega⟩
theorem bhn_fs {S : Int → Int → Prop} {v V : VV} (hf : Fr S v V) (hs : noRef S) (t w : Int) : bhn V t w = bhn v t w := by
  funext k
  unfold bhn
  rw [hf 55 _ (hs _).2.2.2.2.1, hf 49 _ (hs _).1]
theorem qOf_fs {S : Int → Int → Prop} {v V : VV} (hf : Fr S v V) (hs : noRef S) (t w : Int) : qOf V t w = qOf v t w := by
  unfold qOf
  rw [bhn_fs hf hs, hf 54 _ (hs _).2.2.2.1, hf 55 _ (hs _).2.2.2.2.1]
theorem cOf_fs {S : Int → Int → Prop} {v V : VV} (hf : Fr S v V) (hs : noRef S) (q w : Int) : cOf V q w = cOf v q w := by
  unfold cOf
  have e : (fun c => V 52 (8 * q + c) = w) = (fun c => v 52 (8 * q + c) = w) := by
    funext c; rw [hf 52 _ (hs _).2.2.1]
  rw [e, hf 51 _ (hs _).2.1]
theorem told_fs {S : Int → Int → Prop} {v V : VV} (hf : Fr S v V) (hs : noRef S) (t w : Int) : told V t w = told v t w := by
  unfold told
  rw [hf 54 _ (hs _).2.2.2.1]
  have e : ∀ i, V 70 i = v 70 i := fun i => hf 70 i (hs _).2.2.2.2.2
  simp only [e]
theorem miss_fs {S : Int → Int → Prop} {b : Int → Int} {n t k p : Int} {v V : VV} (hf : Fr S v V) (hs : noRef S) : miss b n V t k p ↔ miss b n v t k p := by
  unfold miss
  rw [qOf_fs hf hs, told_fs hf hs, cOf_fs hf hs]
theorem qOf_fr {v V : VV} (hf : Fr TYs v V) (t w : Int) : qOf V t w = qOf v t w := qOf_fs hf TYs_ref t w
theorem cOf_fr {v V : VV} (hf : Fr TYs v V) (q w : Int) : cOf V q w = cOf v q w := cOf_fs hf TYs_ref q w
theorem told_fr {v V : VV} (hf : Fr TYs v V) (t w : Int) : told V t w = told v t w := told_fs hf TYs_ref t w
theorem refTy_fr {v V : VV} (hf : Fr TYs v V) (ty t w1 w2 : Int) (hty : ty = 53 ∨ ty = 77) : refTy ty V t w1 w2 = refTy ty v t w1 w2 := by
  unfold refTy
  rw [qOf_fr hf, cOf_fr hf, hf ty _ (by unfold TYs; omega)]
theorem TA.add2 {v V : VV} {N0 M : Int → Int → Prop} {x : Int} (h : TA v N0 M x V) (h52 : v 47 52 = 0) (m : Int → Prop) : TA v N0 (fun k p => M k p ∨ (k = 2 ∧ m p)) x V := by
  obtain ⟨h1, h2, h3, h4, h5⟩ := h
  exact ⟨h1, fun z => absurd h52 z, h3, h4, h5.trans ⟨fun q p z => z.elim (q p) (fun y => by omega), fun q p z => q p (Or.inl z)⟩⟩
theorem TA.none2 {v V : VV} {N0 M : Int → Int → Prop} {x : Int} (h : TA v N0 M x V) (m : Int → Prop) (hm : ∀ p, ¬ m p) : TA v N0 (fun k p => M k p ∨ (k = 2 ∧ m p)) x V := h.cg (fun k p => ⟨Or.inl, fun q => q.elim id (fun z => absurd z.2 (hm p))⟩) (Int.le_refl _)
theorem TA.tn {b : Int → Int} {n t k : Int} {v V : VV} {N0 M : Int → Int → Prop} {x : Int} (h : TA v N0 M x V) : TA v N0 (fun k' p => M k' p ∨ (k' = 2 ∧ miss b n v t k p)) x (tnV V t (tW b n k) (tW b n (k + 2)) (tS b n k) (tS b n (k + 2))) := by
  have hf := h.1
  have e52 : V 47 52 = v 47 52 := hf 47 52 (by unfold TYs; omega)
  unfold tnV
  rw [e52, qOf_fr hf, cOf_fr hf, told_fr hf]
  by_cases h52 : v 47 52 = 0
  · rw [if_pos h52]; exact h.add2 h52 _
  · rw [if_neg h52]
    by_cases hq : qOf v t (tW b n k) = -1
    · rw [if_pos hq]
      by_cases ht : told v t (tW b n k)
      · rw [if_pos ht]
        exact h.none2 _ (fun p z => z.elim (fun y => y.2.1 ht) (fun y => y.1 hq))
      · rw [if_neg ht]
        exact (h.miss2 h52).cg (fun k' p => ⟨fun q => q.imp id (fun z => ⟨z.1, Or.inl ⟨hq, ht, z.2⟩⟩), fun q => q.imp id (fun z => ⟨z.1, z.2.elim (fun y => y.2.2) (fun y => absurd hq y.1)⟩)⟩) (Int.le_refl _)
    · rw [if_neg hq]
      by_cases hc : cOf v (qOf v t (tW b n k)) (tW b n (k + 2)) = -1
      · rw [if_pos hc]
        exact (h.miss2 h52).cg (fun k' p => ⟨fun q => q.imp id (fun z => ⟨z.1, Or.inr ⟨hq, hc, z.2⟩⟩), fun q => q.imp id (fun z => ⟨z.1, z.2.elim (fun y => absurd y.1 hq) (fun y => y.2.2)⟩)⟩) (Int.le_refl _)
      · rw [if_neg hc]
        exact h.none2 _ (fun p z => z.elim (fun y => hq y.1) (fun y => hc y.2.1))
theorem tnV_n {v : VV} {t w1 w2 p1 p2 r j : Int} (h : ¬ (r = 47 ∧ (j = 25 ∨ j = 26))) : tnV v t w1 w2 p1 p2 r j = v r j := by
  unfold tnV
  split
  · rfl
  · split
    · split
      · rfl
      · exact mM_n h
    · split
      · exact mM_n h
      · rfl
