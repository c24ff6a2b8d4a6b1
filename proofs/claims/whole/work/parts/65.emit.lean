/-! ===== a formula as a row of items ===== -/
def emL (b : Int → Int) (n a : Int) : List (Int × Int) := if tK b n a = 256 then [(2000 + a, tS b n a)] else [(tK b n a, tS b n a)]
noncomputable def emM (b : Int → Int) (n : Int) (eT : Int → List (Int × Int)) (pT : Int → Bool × Int) : Nat → Int → List (Int × Int)
  | 0, _ => []
  | m + 1, a => @ite _ (isOp (tK b n a)) (Classical.propDecidable _) (eT (a + 1) ++ (tK b n a, tS b n a) :: emM b n eT pT m (pT (a + 1)).2) []
noncomputable def emT (b : Int → Int) (n : Int) : Nat → Int → List (Int × Int)
  | 0, a => emL b n a
  | j + 1, a => if tK b n a = 266 ∨ tK b n a = 267 then (emT b n j (a + 2) ++ emM b n (emT b n j) (rTerm b n j) 5 (rTerm b n j (a + 2)).2) ++ [(tK b n a, tS b n a)] else emL b n a
noncomputable def emF (b : Int → Int) (n : Int) (j : Nat) (a : Int) : List (Int × Int) := emT b n j a ++ emM b n (emT b n j) (rTerm b n j) 5 (rTerm b n j a).2
theorem emM_no {b : Int → Int} {n : Int} {eT : Int → List (Int × Int)} {pT : Int → Bool × Int} {a : Int} (m : Nat) (h : ¬ isOp (tK b n a)) : emM b n eT pT m a = [] := by
  cases m with
  | zero => rfl
  | succ m => exact if_neg h
theorem emM_s {b : Int → Int} {n : Int} {eT : Int → List (Int × Int)} {pT : Int → Bool × Int} {a : Int} (m : Nat) (h : isOp (tK b n a)) : emM b n eT pT (m + 1) a = eT (a + 1) ++ (tK b n a, tS b n a) :: emM b n eT pT m (pT (a + 1)).2 := if_pos h
theorem emT_call {b : Int → Int} {n : Int} {j : Nat} {a : Int} (h : tK b n a = 266 ∨ tK b n a = 267) : emT b n (j + 1) a = emF b n j (a + 2) ++ [(tK b n a, tS b n a)] := if_pos h
theorem emT_leaf {b : Int → Int} {n a : Int} (j : Nat) (h : ¬ (tK b n a = 266 ∨ tK b n a = 267)) : emT b n j a = emL b n a := by
  cases j with
  | zero => rfl
  | succ j => exact if_neg h
/-- the names looked up -/
def rs (U : Int → Int) (q : Int × Int) : Int × Int := if 2000 ≤ q.1 then (U (q.1 - 2000), q.2) else q
/-- the least of N, or -1 -/
def MP (N : Int → Prop) (b : Int) : Prop := (b = -1 ∧ ∀ p, ¬ N p) ∨ (¬ b = -1 ∧ N b ∧ ∀ p, N p → b ≤ p)
theorem MP.cg {N N' : Int → Prop} {b : Int} (h : MP N b) (e : ∀ p, N p ↔ N' p) : MP N' b := by
  rcases h with ⟨h1, h2⟩ | ⟨h1, h2, h3⟩
  · exact Or.inl ⟨h1, fun p q => h2 p ((e p).mpr q)⟩
  · exact Or.inr ⟨h1, (e b).mp h2, fun p q => h3 p ((e p).mpr q)⟩
theorem MP.note {N : Int → Prop} {b p : Int} (h : MP N b) (h0 : 0 ≤ p) : MP (fun x => N x ∨ x = p) (nB b p) := by
  unfold nB
  rcases h with ⟨h1, h2⟩ | ⟨h1, h2, h3⟩
  · rw [if_pos (Or.inl h1)]
    exact Or.inr ⟨by omega, Or.inr rfl, fun x q => q.elim (fun z => absurd z (h2 x)) (fun z => by omega)⟩
  · by_cases hp : p < b
    · rw [if_pos (Or.inr hp)]
      exact Or.inr ⟨by omega, Or.inr rfl, fun x q => q.elim (fun z => by have := h3 x z; omega) (fun z => by omega)⟩
    · rw [if_neg (fun z => z.elim h1 hp)]
      exact Or.inr ⟨h1, Or.inl h2, fun x q => q.elim (h3 x) (fun z => by omega)⟩
theorem MP.if {N : Int → Prop} {b p : Int} {c : Prop} [Decidable c] (h : MP N b) (h0 : 0 ≤ p) : MP (fun x => N x ∨ (c ∧ x = p)) (if c then nB b p else b) := by
  by_cases hc : c
  · rw [if_pos hc]; exact (h.note h0).cg (fun x => ⟨fun q => q.imp id (fun z => ⟨hc, z⟩), fun q => q.imp id (fun z => z.2)⟩)
  · rw [if_neg hc]; exact h.cg (fun x => ⟨Or.inl, fun q => q.elim id (fun z => absurd z.1 hc)⟩)
/-- the type that a name has -/
def tyU (τ U : Int → Int) (k : Int) : Int := if 1000 ≤ U k ∧ U k < 1128 then τ (U k - 1000) else 0
def okU (τ U : Int → Int) : Prop := ∀ k, (U k = 0 ∨ (1000 ≤ U k ∧ U k < 1128)) ∧ okT (tyU τ U k)
theorem okT_tyL {b : Int → Int} {n a : Int} {R : Int → Int} (h : ∀ k, okT (R k)) : okT (tyL b n R a) := by
  unfold tyL
  split
  · exact h a
  split
  · exact Or.inr (Or.inl rfl)
  · exact Or.inr (Or.inr (Or.inl rfl))
theorem okT_tyT {b : Int → Int} {n : Int} {R : Int → Int} (h : ∀ k, okT (R k)) : ∀ (j : Nat) (a : Int), okT (tyT b n R j a)
  | 0, a => okT_tyL h
  | j + 1, a => by
    show okT (if tK b n a = 266 then 110 else if tK b n a = 267 then 116 else tyL b n R a)
    split
    · exact Or.inr (Or.inl rfl)
    split
    · exact Or.inr (Or.inr (Or.inl rfl))
    · exact okT_tyL h
theorem okT_tyM {b : Int → Int} {n : Int} {tT : Int → Int} {pT : Int → Bool × Int} (h : ∀ a, okT (tT a)) : ∀ (m : Nat) (l a : Int), okT l → okT (tyM b n tT pT m l a)
  | 0, l, a, hl => hl
  | m + 1, l, a, hl => by
    by_cases ho : isOp (tK b n a)
    · rw [tyM_s m ho]; exact okT_tyM h m _ _ (okT_opT hl (h _))
    · rw [tyM_no _ ho]; exact hl
theorem okT_tyF {b : Int → Int} {n : Int} {R : Int → Int} (h : ∀ k, okT (R k)) (j : Nat) (a : Int) : okT (tyF b n R j a) := okT_tyM (okT_tyT h j) 5 _ _ (okT_tyT h j a)
theorem pushL_lt {σ : List Int} {x : Int} (h : σ.length < 16) : pushL σ x = x :: σ := if_pos h
theorem run_item {τ U : Int → Int} {x p : Int} {L : List (Int × Int)} {σ : List Int} {b : Int} (h1 : x < 1000) : runS τ ((rs U (x, p)) :: L) (σ, b) = runS τ L (pushL (stepR x p σ b).2.1 (stepR x p σ b).1, (stepR x p σ b).2.2) := by
  have e : rs U (x, p) = (x, p) := if_neg (show ¬ 2000 ≤ x by omega)
  rw [e]
  show runS τ L (if 1000 ≤ x ∧ x < 1128 then _ else _) = _
  rw [if_neg (by omega)]
theorem run_ref {τ U : Int → Int} {k p : Int} {L : List (Int × Int)} {σ : List Int} {b : Int} (hU : okU τ U) (h0 : 0 ≤ k) (hl : σ.length < 16) : runS τ ((rs U (2000 + k, p)) :: L) (σ, b) = runS τ L (tyU τ U k :: σ, b) := by
  have e : rs U (2000 + k, p) = (U k, p) := by
    unfold rs
    rw [if_pos (show 2000 ≤ 2000 + k by omega), show 2000 + k - 2000 = k by omega]
  rw [e]
  show runS τ L (if 1000 ≤ U k ∧ U k < 1128 then _ else _) = _
  unfold tyU
  by_cases hc : 1000 ≤ U k ∧ U k < 1128
  · rw [if_pos hc, if_pos hc, pushL_lt hl]
  · rw [if_neg hc, if_neg hc]
    have h2 : U k = 0 := (hU k).1.elim id (fun z => absurd z hc)
    rw [h2]
    have es : stepR 0 p σ b = (0, σ, b) := rfl
    rw [es, pushL_lt hl]
theorem run_leaf {b : Int → Int} {n : Int} {τ U : Int → Int} {a : Int} {σ : List Int} {b0 : Int} {L : List (Int × Int)} (hU : okU τ U) (h0 : 0 ≤ a) (hr : (rLeaf b n a).1 = true) (hl : σ.length < 16) : runS τ ((emL b n a).map (rs U) ++ L) (σ, b0) = runS τ L (tyL b n (tyU τ U) a :: σ, b0) := by
  unfold emL tyL
  rcases rLeaf_t hr with q | q | q
  · rw [if_pos q.1, if_pos q.1]
    exact run_ref hU h0 hl
  · rw [if_neg (by omega), if_neg (by omega), if_pos q.1, q.1]
    show runS τ (rs U (257, tS b n a) :: L) _ = _
    rw [run_item (by decide)]
    have es : stepR 257 (tS b n a) σ b0 = (110, σ, b0) := rfl
    rw [es, pushL_lt hl]
  · rw [if_neg (by omega), if_neg (by omega), if_neg (by omega), q.1]
    show runS τ (rs U (258, tS b n a) :: L) _ = _
    rw [run_item (by decide)]
    have es : stepR 258 (tS b n a) σ b0 = (116, σ, b0) := rfl
    rw [es, pushL_lt hl]
/-- running a term's items pushes its type -/
def RunT (b : Int → Int) (n : Int) (τ U : Int → Int) (j : Nat) : Prop := ∀ (a : Int) (σ : List Int) (b0 : Int) (N : Int → Prop), 0 ≤ a → (rTerm b n j a).1 = true → σ.length + j < 16 → MP N b0 → ∃ b1, (∀ L, runS τ ((emT b n j a).map (rs U) ++ L) (σ, b0) = runS τ L (tyT b n (tyU τ U) j a :: σ, b1)) ∧ MP (fun p => N p ∨ erT b n (tyU τ U) j a p) b1
theorem run_M {b : Int → Int} {n : Int} {τ U : Int → Int} {j : Nat} (hX : TX b n) (hU : okU τ U) (hT : RunT b n τ U j) : ∀ (m : Nat) (a l : Int) (σ : List Int) (b0 : Int) (N : Int → Prop), 0 ≤ a → okT l → (rMore b n (rTerm b n j) m a).1 = true → σ.length + j + 1 < 16 → MP N b0 → ∃ b1, (∀ L, runS τ ((emM b n (emT b n j) (rTerm b n j) m a).map (rs U) ++ L) (l :: σ, b0) = runS τ L (tyM b n (tyT b n (tyU τ U) j) (rTerm b n j) m l a :: σ, b1)) ∧ MP (fun p => N p ∨ erM b n (tyT b n (tyU τ U) j) (rTerm b n j) (erT b n (tyU τ U) j) m l a p) b1
  | 0, a, l, σ, b0, N, _, _, hr, _, hN => by
    by_cases ho : isOp (tK b n a)
    · rw [rMore_0 ho] at hr; exact Bool.noConfusion hr
    · refine ⟨b0, fun L => ?_, hN.cg (fun p => ⟨Or.inl, fun q => q.elim id (fun z => absurd z (erM_no 0 ho))⟩)⟩
      rw [emM_no 0 ho, tyM_no 0 ho]
      rfl
  | m + 1, a, l, σ, b0, N, h0, hl, hr, hs, hN => by
    by_cases ho : isOp (tK b n a)
    · rw [rMore_s m ho] at hr
      obtain ⟨h1, e1⟩ := rThen_true hr
      rw [e1] at hr
      have hlt := rTerm_lt j _ h1
      obtain ⟨b1, r1, n1⟩ := hT (a + 1) (l :: σ) b0 N (by omega) h1 (by simp; omega) hN
      have ho' : tK b n a = 38 ∨ tK b n a = 43 ∨ tK b n a = 45 := by unfold isOp at ho; omega
      have hst : ∀ bb, stepR (tK b n a) (tS b n a) (tyT b n (tyU τ U) j (a + 1) :: l :: σ) bb = (opT (tK b n a) l (tyT b n (tyU τ U) j (a + 1)), σ, nO bb (tK b n a) l (tyT b n (tyU τ U) j (a + 1)) (tS b n a)) := fun bb => by unfold stepR; rw [if_pos ho']; rfl
      have hp := (tS_bd b hX.1.1 a).1
      have n2 : MP (fun p => (N p ∨ erT b n (tyU τ U) j (a + 1) p) ∨ (opBad (tK b n a) l (tyT b n (tyU τ U) j (a + 1)) ∧ p = tS b n a)) (nO b1 (tK b n a) l (tyT b n (tyU τ U) j (a + 1)) (tS b n a)) := MP.if (c := ¬ l = 0 ∧ ¬ tyT b n (tyU τ U) j (a + 1) = 0 ∧ opT (tK b n a) l (tyT b n (tyU τ U) j (a + 1)) = 0) n1 hp
      obtain ⟨b3, r3, n3⟩ := run_M hX hU hT m (rTerm b n j (a + 1)).2 (opT (tK b n a) l (tyT b n (tyU τ U) j (a + 1))) σ _ _ (by omega) (okT_opT hl (okT_tyT (fun k => (hU k).2) j _)) hr (by omega) n2
      refine ⟨b3, fun L => ?_, n3.cg (fun p => ?_)⟩
      · rw [emM_s m ho, tyM_s m ho, List.map_append, List.map_cons, List.append_assoc, r1, List.cons_append, run_item (by omega), hst, pushL_lt (σ := σ) (by omega), r3]
      · show _ ↔ (N p ∨ (isOp (tK b n a) ∧ (erT b n (tyU τ U) j (a + 1) p ∨ (opBad (tK b n a) l (tyT b n (tyU τ U) j (a + 1)) ∧ p = tS b n a) ∨ erM b n (tyT b n (tyU τ U) j) (rTerm b n j) (erT b n (tyU τ U) j) m (opT (tK b n a) l (tyT b n (tyU τ U) j (a + 1))) (rTerm b n j (a + 1)).2 p)))
        constructor
        · rintro (((q | q) | q) | q)
          · exact Or.inl q
          · exact Or.inr ⟨ho, Or.inl q⟩
          · exact Or.inr ⟨ho, Or.inr (Or.inl q)⟩
          · exact Or.inr ⟨ho, Or.inr (Or.inr q)⟩
        · rintro (q | ⟨_, q | q | q⟩)
          · exact Or.inl (Or.inl (Or.inl q))
          · exact Or.inl (Or.inl (Or.inr q))
          · exact Or.inl (Or.inr q)
          · exact Or.inr q
    · refine ⟨b0, fun L => ?_, hN.cg (fun p => ⟨Or.inl, fun q => q.elim id (fun z => absurd z (erM_no _ ho))⟩)⟩
      rw [emM_no _ ho, tyM_no _ ho]
      rfl
theorem run_F0 {b : Int → Int} {n : Int} {τ U : Int → Int} {j : Nat} (hX : TX b n) (hU : okU τ U) (hT : RunT b n τ U j) {a : Int} {σ : List Int} {b0 : Int} {N : Int → Prop} (h0 : 0 ≤ a) (h1 : (rTerm b n j a).1 = true) (h2 : (rMore b n (rTerm b n j) 5 (rTerm b n j a).2).1 = true) (hs : σ.length + j + 1 < 16) (hN : MP N b0) : ∃ b1, (∀ L, runS τ ((emF b n j a).map (rs U) ++ L) (σ, b0) = runS τ L (tyF b n (tyU τ U) j a :: σ, b1)) ∧ MP (fun p => N p ∨ erF b n (tyU τ U) j a p) b1 := by
  have hlt := rTerm_lt j _ h1
  obtain ⟨b1, r1, n1⟩ := hT a σ b0 N h0 h1 (by omega) hN
  obtain ⟨b2, r2, n2⟩ := run_M hX hU hT 5 (rTerm b n j a).2 (tyT b n (tyU τ U) j a) σ b1 _ (by omega) (okT_tyT (fun k => (hU k).2) j a) h2 (by omega) n1
  refine ⟨b2, fun L => ?_, n2.cg (fun p => ⟨fun q => by rcases q with (q | q) | q; exact Or.inl q; exact Or.inr (Or.inl q); exact Or.inr (Or.inr q), fun q => by rcases q with q | q | q; exact Or.inl (Or.inl q); exact Or.inl (Or.inr q); exact Or.inr q⟩)⟩
  unfold emF
  rw [List.map_append, List.append_assoc, r1, r2]
  rfl
theorem run_T {b : Int → Int} {n : Int} {τ U : Int → Int} (hX : TX b n) (hU : okU τ U) : ∀ j : Nat, RunT b n τ U j
  | 0 => fun a σ b0 N h0 hr hs hN => by
    by_cases hy : tK b n a = 266 ∨ tK b n a = 267
    · rw [show rTerm b n 0 a = (false, tS b n (a + 1)) from if_pos hy] at hr; exact Bool.noConfusion hr
    · rw [rTerm_leaf 0 hy] at hr
      exact ⟨b0, fun L => run_leaf hU h0 hr (by omega), hN.cg (fun p => ⟨Or.inl, fun q => q.elim id (fun z => z.elim)⟩)⟩
  | j + 1 => fun a σ b0 N h0 hr hs hN => by
    by_cases hy : tK b n a = 266 ∨ tK b n a = 267
    · obtain ⟨c1, c2, c3, c4, c5⟩ := rTerm_call hy hr
      obtain ⟨b1, r1, n1⟩ := run_F0 hX hU (run_T hX hU j) (by omega) c2 c3 (by omega) hN
      have hp := (tS_bd b hX.1.1 a).1
      have hst : ∀ bb g, stepR (tK b n a) (tS b n a) (g :: σ) bb = ((if tK b n a = 266 then 110 else 116), σ, nU bb g (if tK b n a = 266 then 116 else 110) (tS b n a)) := fun bb g => by
        unfold stepR
        rw [if_neg (by omega), if_neg (by omega), if_neg (by omega), if_neg (by omega)]
        by_cases h : tK b n a = 266
        · rw [if_pos h, if_pos h, if_pos h]; rfl
        · rw [if_neg h, if_neg h, if_neg h, if_pos (by omega)]; rfl
      have n2 : MP (fun p => (N p ∨ erF b n (tyU τ U) j (a + 2) p) ∨ ((¬ tyF b n (tyU τ U) j (a + 2) = 0 ∧ ¬ (if tK b n a = 266 then (116 : Int) else 110) = 0 ∧ ¬ tyF b n (tyU τ U) j (a + 2) = (if tK b n a = 266 then 116 else 110)) ∧ p = tS b n a)) (nU b1 (tyF b n (tyU τ U) j (a + 2)) (if tK b n a = 266 then 116 else 110) (tS b n a)) := MP.if n1 hp
      refine ⟨_, fun L => ?_, n2.cg (fun p => ?_)⟩
      · rw [emT_call hy, List.map_append, List.append_assoc, r1]
        show runS τ (rs U (tK b n a, tS b n a) :: L) _ = _
        rw [run_item (by omega), hst, pushL_lt (σ := σ) (by omega)]
        have e : tyT b n (tyU τ U) (j + 1) a = if tK b n a = 266 then 110 else 116 := by
          show (if tK b n a = 266 then 110 else if tK b n a = 267 then 116 else tyL b n (tyU τ U) a) = _
          by_cases h : tK b n a = 266
          · rw [if_pos h, if_pos h]
          · rw [if_neg h, if_neg h, if_pos (by omega)]
        rw [e]
      · have hz : ¬ (if tK b n a = 266 then (116 : Int) else 110) = 0 := by split <;> decide
        show _ ↔ (N p ∨ (_ ∧ ((erT b n (tyU τ U) j (a + 2) p ∨ erM b n (tyT b n (tyU τ U) j) (rTerm b n j) (erT b n (tyU τ U) j) 5 (tyT b n (tyU τ U) j (a + 2)) (rTerm b n j (a + 2)).2 p) ∨ (¬ tyF b n (tyU τ U) j (a + 2) = 0 ∧ ¬ tyF b n (tyU τ U) j (a + 2) = (if tK b n a = 266 then 116 else 110) ∧ p = tS b n a))))
        constructor
        · rintro ((q | q) | ⟨⟨q1, q2, q3⟩, q4⟩)
          · exact Or.inl q
          · exact Or.inr ⟨hy, Or.inl q⟩
          · exact Or.inr ⟨hy, Or.inr ⟨q1, q3, q4⟩⟩
        · rintro (q | ⟨_, q | ⟨q1, q2, q3⟩⟩)
          · exact Or.inl (Or.inl q)
          · exact Or.inl (Or.inr q)
          · exact Or.inr ⟨⟨q1, hz, q2⟩, q3⟩
    · rw [rTerm_leaf _ hy] at hr
      have e : tyT b n (tyU τ U) (j + 1) a = tyL b n (tyU τ U) a := by
        show (if tK b n a = 266 then 110 else if tK b n a = 267 then 116 else tyL b n (tyU τ U) a) = _
        rw [if_neg (fun z => hy (Or.inl z)), if_neg (fun z => hy (Or.inr z))]
      refine ⟨b0, fun L => ?_, hN.cg (fun p => ⟨Or.inl, fun q => q.elim id (fun z => absurd z.1 hy)⟩)⟩
      rw [emT_leaf _ hy, e]
      exact run_leaf hU h0 hr (by omega)
theorem run_F {b : Int → Int} {n : Int} {τ U : Int → Int} (hX : TX b n) (hU : okU τ U) {a : Int} {σ : List Int} {b0 : Int} {N : Int → Prop} (h0 : 0 ≤ a) (hr : (rForm b n 3 a).1 = true) (hs : σ.length < 10) (hN : MP N b0) : ∃ b1, (∀ L, runS τ ((emF b n 3 a).map (rs U) ++ L) (σ, b0) = runS τ L (tyF b n (tyU τ U) 3 a :: σ, b1)) ∧ MP (fun p => N p ∨ erF b n (tyU τ U) 3 a p) b1 := by
  obtain ⟨h1, h2, -⟩ := rForm_t hr
  exact run_F0 hX hU (run_T hX hU 3) h0 h1 h2 (by omega) hN
/-- what stands in the items -/
theorem mem_emL {b : Int → Int} {n a : Int} {q : Int × Int} (h : (rLeaf b n a).1 = true) (hq : q ∈ emL b n a) : (tK b n a = 256 ∧ q.1 = 2000 + a) ∨ (q.1 = 257 ∨ q.1 = 258) := by
  unfold emL at hq
  rcases rLeaf_t h with z | z | z
  · rw [if_pos z.1] at hq; left; simp at hq; exact ⟨z.1, by rw [hq]⟩
  · rw [if_neg (by omega)] at hq; right; left; simp at hq; rw [hq]; exact z.1
  · rw [if_neg (by omega)] at hq; right; right; simp at hq; rw [hq]; exact z.1
/-- an item is a reference of the formula, or a small number; and every reference stands there -/
def EmS (rf : Int → Prop) (L : List (Int × Int)) : Prop := (∀ q ∈ L, (0 ≤ q.1 ∧ q.1 < 1000) ∨ (2000 ≤ q.1 ∧ rf (q.1 - 2000))) ∧ ∀ k, rf k → ∃ p, (2000 + k, p) ∈ L
theorem EmS.app {f g h : Int → Prop} {L K : List (Int × Int)} (h1 : EmS f L) (h2 : EmS g K) (e : ∀ k, h k ↔ (f k ∨ g k)) : EmS h (L ++ K) := by
  refine ⟨fun q hq => ?_, fun k hk => ?_⟩
  · rcases List.mem_append.mp hq with z | z
    · exact (h1.1 q z).imp id (fun y => ⟨y.1, (e _).mpr (Or.inl y.2)⟩)
    · exact (h2.1 q z).imp id (fun y => ⟨y.1, (e _).mpr (Or.inr y.2)⟩)
  · rcases (e k).mp hk with z | z
    · obtain ⟨p, hp⟩ := h1.2 k z; exact ⟨p, List.mem_append.mpr (Or.inl hp)⟩
    · obtain ⟨p, hp⟩ := h2.2 k z; exact ⟨p, List.mem_append.mpr (Or.inr hp)⟩
theorem EmS.one {x p : Int} (h : 0 ≤ x ∧ x < 1000) : EmS (fun _ => False) [(x, p)] := ⟨fun q hq => by simp at hq; rw [hq]; exact Or.inl h, fun k hk => hk.elim⟩
theorem EmS.cg {f g : Int → Prop} {L : List (Int × Int)} (h : EmS f L) (e : ∀ k, f k ↔ g k) : EmS g L := ⟨fun q hq => (h.1 q hq).imp id (fun y => ⟨y.1, (e _).mp y.2⟩), fun k hk => h.2 k ((e k).mpr hk)⟩
theorem EmS_L {b : Int → Int} {n a : Int} (h0 : 0 ≤ a) (h : (rLeaf b n a).1 = true) : EmS (fun k => tK b n a = 256 ∧ k = a) (emL b n a) := by
  refine ⟨fun q hq => ?_, fun k hk => ⟨tS b n a, ?_⟩⟩
  · rcases mem_emL h hq with z | z | z
    · right; rw [z.2]; exact ⟨by omega, z.1, by omega⟩
    · left; omega
    · left; omega
  · obtain ⟨h1, rfl⟩ := hk
    unfold emL
    rw [if_pos h1]
    exact List.mem_cons_self
theorem EmS_M {b : Int → Int} {n : Int} {j : Nat} (hT : ∀ a, 0 ≤ a → (rTerm b n j a).1 = true → EmS (rfT b n j a) (emT b n j a)) : ∀ (m : Nat) (a : Int), 0 ≤ a → (rMore b n (rTerm b n j) m a).1 = true → EmS (rfM b n (rTerm b n j) (rfT b n j) m a) (emM b n (emT b n j) (rTerm b n j) m a)
  | 0, a, _, hr => ⟨fun q hq => absurd hq List.not_mem_nil, fun k hk => hk.elim⟩
  | m + 1, a, h0, hr => by
    by_cases ho : isOp (tK b n a)
    · rw [rMore_s m ho] at hr
      obtain ⟨h1, e1⟩ := rThen_true hr
      rw [e1] at hr
      have hlt := rTerm_lt j _ h1
      rw [emM_s m ho]
      refine (hT (a + 1) (by omega) h1).app ((EmS.one (x := tK b n a) (p := tS b n a) (by unfold isOp at ho; omega)).app (h := rfM b n (rTerm b n j) (rfT b n j) m (rTerm b n j (a + 1)).2) (EmS_M hT m _ (by omega) hr) (fun k => ⟨Or.inr, fun q => q.elim (fun z => z.elim) id⟩)) (fun k => ?_)
      show (isOp (tK b n a) ∧ (rfT b n j (a + 1) k ∨ rfM b n (rTerm b n j) (rfT b n j) m (rTerm b n j (a + 1)).2 k)) ↔ _
      exact ⟨fun q => q.2, fun q => ⟨ho, q⟩⟩
    · rw [emM_no _ ho]
      exact ⟨fun q hq => absurd hq List.not_mem_nil, fun k hk => absurd hk.1 ho⟩
theorem EmS_T {b : Int → Int} {n : Int} : ∀ (j : Nat) (a : Int), 0 ≤ a → (rTerm b n j a).1 = true → EmS (rfT b n j a) (emT b n j a)
  | 0, a, h0, hr => by
    by_cases hy : tK b n a = 266 ∨ tK b n a = 267
    · rw [show rTerm b n 0 a = (false, tS b n (a + 1)) from if_pos hy] at hr; exact Bool.noConfusion hr
    · rw [rTerm_leaf 0 hy] at hr
      exact EmS_L h0 hr
  | j + 1, a, h0, hr => by
    by_cases hy : tK b n a = 266 ∨ tK b n a = 267
    · obtain ⟨c1, c2, c3, c4, c5⟩ := rTerm_call hy hr
      have hlt := rTerm_lt j _ c2
      rw [emT_call hy]
      refine EmS.app (f := rfF b n j (a + 2)) ((EmS_T j (a + 2) (by omega) c2).app (EmS_M (fun a => EmS_T j a) 5 _ (by omega) c3) (fun k => Iff.rfl)) (EmS.one (by omega)) (fun k => ?_)
      show ((tK b n a = 256 ∧ k = a) ∨ ((tK b n a = 266 ∨ tK b n a = 267) ∧ rfF b n j (a + 2) k)) ↔ _
      exact ⟨fun q => q.elim (fun z => by omega) (fun z => Or.inl z.2), fun q => q.elim (fun z => Or.inr ⟨hy, z⟩) (fun z => z.elim)⟩
    · rw [rTerm_leaf _ hy] at hr
      rw [emT_leaf _ hy]
      refine (EmS_L h0 hr).cg (fun k => ?_)
      show _ ↔ ((tK b n a = 256 ∧ k = a) ∨ ((tK b n a = 266 ∨ tK b n a = 267) ∧ _))
      exact ⟨Or.inl, fun q => q.elim id (fun z => absurd z.1 hy)⟩
theorem EmS_F {b : Int → Int} {n a : Int} (h0 : 0 ≤ a) (hr : (rForm b n 3 a).1 = true) : EmS (rfF b n 3 a) (emF b n 3 a) := by
  obtain ⟨h1, h2, -⟩ := rForm_t hr
  have hlt := rTerm_lt 3 _ h1
  exact (EmS_T 3 a h0 h1).app (EmS_M (fun a => EmS_T 3 a) 5 _ (by omega) h2) (fun k => Iff.rfl)
/-- not more items than tokens -/
theorem emM_len {b : Int → Int} {n : Int} {j : Nat} (hT : ∀ a, (rTerm b n j a).1 = true → ((emT b n j a).length : Int) ≤ (rTerm b n j a).2 - a) : ∀ (m : Nat) (a : Int), (rMore b n (rTerm b n j) m a).1 = true → ((emM b n (emT b n j) (rTerm b n j) m a).length : Int) ≤ (rMore b n (rTerm b n j) m a).2 - a
  | 0, a, hr => by
    by_cases ho : isOp (tK b n a)
    · rw [rMore_0 ho] at hr; exact Bool.noConfusion hr
    · rw [rMore_no 0 ho]
      show ((0 : Nat) : Int) ≤ a - a
      omega
  | m + 1, a, hr => by
    by_cases ho : isOp (tK b n a)
    · rw [rMore_s m ho] at hr ⊢
      obtain ⟨h1, e1⟩ := rThen_true hr
      rw [e1] at hr ⊢
      have h2 := hT (a + 1) h1
      have h3 := emM_len hT m _ hr
      rw [emM_s m ho, List.length_append, List.length_cons]
      omega
    · rw [rMore_no _ ho, emM_no _ ho]
      show ((0 : Nat) : Int) ≤ a - a
      omega
theorem emL_len {b : Int → Int} {n a : Int} (h : (rLeaf b n a).1 = true) : ((emL b n a).length : Int) ≤ (rLeaf b n a).2 - a := by
  have e : (emL b n a).length = 1 := by unfold emL; split <;> rfl
  rw [e]
  rcases rLeaf_t h with z | z | z
  · omega
  · omega
  · omega
theorem emT_len {b : Int → Int} {n : Int} : ∀ (j : Nat) (a : Int), (rTerm b n j a).1 = true → ((emT b n j a).length : Int) ≤ (rTerm b n j a).2 - a
  | 0, a, hr => by
    by_cases hy : tK b n a = 266 ∨ tK b n a = 267
    · rw [show rTerm b n 0 a = (false, tS b n (a + 1)) from if_pos hy] at hr; exact Bool.noConfusion hr
    · rw [rTerm_leaf 0 hy] at hr ⊢
      exact emL_len hr
  | j + 1, a, hr => by
    by_cases hy : tK b n a = 266 ∨ tK b n a = 267
    · obtain ⟨c1, c2, c3, c4, c5⟩ := rTerm_call hy hr
      have h1 := emT_len j _ c2
      have h2 := emM_len (fun a => emT_len j a) 5 _ c3
      rw [emT_call hy, c5]
      unfold emF
      rw [List.length_append, List.length_append, List.length_singleton]
      omega
    · rw [rTerm_leaf _ hy] at hr ⊢
      rw [emT_leaf _ hy]
      exact emL_len hr
theorem emF_len {b : Int → Int} {n a : Int} {j : Nat} (hr : (rForm b n j a).1 = true) : ((emF b n j a).length : Int) ≤ (rForm b n j a).2 - a := by
  obtain ⟨h1, h2, h3⟩ := rForm_t hr
  rw [h3]
  have := emT_len j _ h1
  have := emM_len (fun a => emT_len j a) 5 _ h2
  unfold emF
  rw [List.length_append]
  omega
