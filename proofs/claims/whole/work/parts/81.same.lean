/-! ===== the notes of either side: the types ===== -/
theorem MP_no : MP (fun _ => False) (-1) := Or.inl ⟨rfl, fun _ z => z⟩
theorem ty_part {b : Int → Int} {n a : Int} {τ U : Int → Int} (hX : TX b n) (hU : okU τ U) (h0 : 0 ≤ a) (hr : (rForm b n 3 a).1 = true) : tyOf τ ((emF b n 3 a).map (rs U)) = tyF b n (tyU τ U) 3 a ∧ MP (erF b n (tyU τ U) 3 a) (bdOf τ ((emF b n 3 a).map (rs U))) := by
  obtain ⟨b1, r1, n1⟩ := run_F (σ := []) (b0 := -1) hX hU h0 hr (by decide) MP_no
  have e := r1 []
  rw [List.append_nil] at e
  have e2 : runS τ ((emF b n 3 a).map (rs U)) ([], -1) = ([tyF b n (tyU τ U) 3 a], b1) := e
  unfold tyOf bdOf
  rw [e2]
  exact ⟨rfl, n1.cg (fun p => ⟨fun z => z.elim False.elim id, Or.inr⟩)⟩
theorem ty_where {b : Int → Int} {n a : Int} {τ U : Int → Int} (hX : TX b n) (hU : okU τ U) (h0 : 0 ≤ a) (hr : (rForm b n 3 (a + 1)).1 = true) (hs : tK b n (rForm b n 3 (a + 1)).2 = 60 ∨ tK b n (rForm b n 3 (a + 1)).2 = 61) (hr2 : (rForm b n 3 ((rForm b n 3 (a + 1)).2 + 1)).1 = true) : MP (fun p => (erF b n (tyU τ U) 3 (a + 1) p ∨ erF b n (tyU τ U) 3 ((rForm b n 3 (a + 1)).2 + 1) p) ∨ ((¬ tyF b n (tyU τ U) 3 (a + 1) = 0 ∧ ¬ tyF b n (tyU τ U) 3 ((rForm b n 3 (a + 1)).2 + 1) = 0 ∧ ¬ tyF b n (tyU τ U) 3 (a + 1) = tyF b n (tyU τ U) 3 ((rForm b n 3 (a + 1)).2 + 1)) ∧ p = tS b n (rForm b n 3 (a + 1)).2)) (bdOf τ ((emW b n a).map (rs U))) := by
  have hlt := rForm_lt hr
  obtain ⟨b1, r1, n1⟩ := run_F (σ := []) (b0 := -1) hX hU (show 0 ≤ a + 1 by omega) hr (by decide) MP_no
  obtain ⟨b2, r2, n2⟩ := run_F (σ := [tyF b n (tyU τ U) 3 (a + 1)]) (b0 := b1) hX hU (show 0 ≤ (rForm b n 3 (a + 1)).2 + 1 by omega) hr2 (Nat.le_of_ble_eq_true rfl) n1
  have e : runS τ ((emW b n a).map (rs U)) ([], -1) = runS τ ([(tK b n (rForm b n 3 (a + 1)).2, tS b n (rForm b n 3 (a + 1)).2)].map (rs U)) ([tyF b n (tyU τ U) 3 ((rForm b n 3 (a + 1)).2 + 1), tyF b n (tyU τ U) 3 (a + 1)], b2) := by
    unfold emW
    rw [List.map_append, r1, List.map_append, r2]
  have hsl := (tS_bd b hX.1.1 (rForm b n 3 (a + 1)).2).1
  have eb : bdOf τ ((emW b n a).map (rs U)) = nU b2 (tyF b n (tyU τ U) 3 ((rForm b n 3 (a + 1)).2 + 1)) (tyF b n (tyU τ U) 3 (a + 1)) (tS b n (rForm b n 3 (a + 1)).2) := by
    unfold bdOf
    rw [e, List.map_cons, List.map_nil, run_item (by omega)]
    unfold stepR
    rw [if_neg (by omega), if_pos hs]
    rfl
  rw [eb]
  unfold nU
  have n3 := MP.if (c := ¬ tyF b n (tyU τ U) 3 ((rForm b n 3 (a + 1)).2 + 1) = 0 ∧ ¬ tyF b n (tyU τ U) 3 (a + 1) = 0 ∧ ¬ tyF b n (tyU τ U) 3 ((rForm b n 3 (a + 1)).2 + 1) = tyF b n (tyU τ U) 3 (a + 1)) n2 hsl
  exact n3.cg (fun p => or_congr (or_congr ⟨fun z => z.elim False.elim id, Or.inr⟩ Iff.rfl) (and_congr ⟨fun z => ⟨z.2.1, z.1, fun q => z.2.2 q.symm⟩, fun z => ⟨z.2.1, z.1, fun q => z.2.2 q.symm⟩⟩ Iff.rfl))
/-- one's least is the other's -/
theorem FC.dom {N N' : Int → Int → Prop} {v : VV} (h : FC N v) (h1 : ∀ k p, N k p → N' k p) (h2 : ∀ k p, N' k p → ∃ k' p', N k' p' ∧ p' ≤ p) : FC N' v := by
  rcases h with ⟨a, b, c⟩ | ⟨a, a0, b, c⟩
  · exact Or.inl ⟨a, b, fun k p q => by
      obtain ⟨k', p', q', -⟩ := h2 k p q
      exact c k' p' q'⟩
  · exact Or.inr ⟨a, a0, h1 _ _ b, fun k p q => by
      obtain ⟨k', p', q', q2⟩ := h2 k p q
      have := c k' p' q'
      omega⟩
theorem MP.get {N : Int → Prop} {b : Int} (h : MP N b) : (¬ b = -1 → N b) ∧ ∀ p, N p → ¬ b = -1 ∧ b ≤ p := by
  rcases h with ⟨h1, h2⟩ | ⟨h1, h2, h3⟩
  · exact ⟨fun z => absurd h1 z, fun p q => absurd q (h2 p)⟩
  · exact ⟨fun _ => h2, fun p q => ⟨h1, h3 p q⟩⟩
/-- the parts of a select's program, their names looked up -/
noncomputable def LLs (b : Int → Int) (n : Int) (C : Nat) (w : Int) (U : Int → Int) (f : Int) : List (Int × Int) := if f < C then (emF b n 3 (qN b n 3 f.toNat + 2)).map (rs U) else if f = 6 ∧ tK b n w = 265 then (emW b n w).map (rs U) else []
/-- all items of a select -/
noncomputable def Ls (b : Int → Int) (n : Int) (C : Nat) (w : Int) : List (Int × Int) := emA b n C ++ (if tK b n w = 265 then emW b n w else [])
/-- the types' faults of either side -/
theorem NTy_dom {b : Int → Int} {n w : Int} {C : Nat} {τ U : Int → Int} (hX : TX b n) (hU : okU τ U) (hC : C ≤ 6) (hq : ∀ c : Nat, c < C → 0 ≤ qN b n 3 c + 2 ∧ (rForm b n 3 (qN b n 3 c + 2)).1 = true) (h0 : 0 ≤ w) (hw : tK b n w = 265 → (rForm b n 3 (w + 1)).1 = true ∧ (tK b n (rForm b n 3 (w + 1)).2 = 60 ∨ tK b n (rForm b n 3 (w + 1)).2 = 61) ∧ (rForm b n 3 ((rForm b n 3 (w + 1)).2 + 1)).1 = true) :
    let E : Int → Prop := fun p => (∃ c : Nat, c < C ∧ erF b n (tyU τ U) 3 (qN b n 3 c + 2) p) ∨ (tK b n w = 265 ∧ ((erF b n (tyU τ U) 3 (w + 1) p ∨ erF b n (tyU τ U) 3 ((rForm b n 3 (w + 1)).2 + 1) p) ∨ ((¬ tyF b n (tyU τ U) 3 (w + 1) = 0 ∧ ¬ tyF b n (tyU τ U) 3 ((rForm b n 3 (w + 1)).2 + 1) = 0 ∧ ¬ tyF b n (tyU τ U) 3 (w + 1) = tyF b n (tyU τ U) 3 ((rForm b n 3 (w + 1)).2 + 1)) ∧ p = tS b n (rForm b n 3 (w + 1)).2)))
    (∀ k p, NTy τ (LLs b n C w U) 7 k p → k = 3 ∧ E p) ∧ ∀ p, E p → ∃ p', NTy τ (LLs b n C w U) 7 3 p' ∧ p' ≤ p := by
  intro E
  have hc : ∀ c : Nat, c < C → LLs b n C w U c = (emF b n 3 (qN b n 3 c + 2)).map (rs U) := fun c h => by
    unfold LLs; rw [if_pos (by omega), Int.toNat_natCast]
  have h6 : tK b n w = 265 → LLs b n C w U 6 = (emW b n w).map (rs U) := fun h => by
    unfold LLs; rw [if_neg (by omega), if_pos ⟨rfl, h⟩]
  constructor
  · rintro k p ⟨hk, f, f0, f7, hb, hp⟩
    refine ⟨hk, ?_⟩
    by_cases h : f < C
    · have ef : f = ((f.toNat : Nat) : Int) := by omega
      rw [ef] at hb hp
      rw [hc _ (by omega)] at hb hp
      obtain ⟨q0, q1⟩ := hq f.toNat (by omega)
      obtain ⟨-, m⟩ := ty_part hX hU q0 q1
      rw [hp]
      exact Or.inl ⟨f.toNat, by omega, m.get.1 hb⟩
    · by_cases h2 : f = 6 ∧ tK b n w = 265
      · obtain ⟨rfl, h3⟩ := h2
        rw [h6 h3] at hb hp
        obtain ⟨w1, w2, w3⟩ := hw h3
        have m := ty_where hX hU h0 w1 w2 w3
        rw [hp]
        exact Or.inr ⟨h3, m.get.1 hb⟩
      · exfalso
        apply hb
        have e : LLs b n C w U f = [] := by unfold LLs; rw [if_neg h, if_neg h2]
        rw [e]; rfl
  · rintro p (⟨c, c1, c2⟩ | ⟨h3, h4⟩)
    · obtain ⟨q0, q1⟩ := hq c c1
      obtain ⟨-, m⟩ := ty_part hX hU q0 q1
      obtain ⟨g1, g2⟩ := m.get.2 p c2
      rw [← hc c c1] at g1 g2
      exact ⟨_, ⟨rfl, c, by omega, by omega, g1, rfl⟩, g2⟩
    · obtain ⟨w1, w2, w3⟩ := hw h3
      have m := ty_where hX hU h0 w1 w2 w3
      obtain ⟨g1, g2⟩ := m.get.2 p h4
      rw [← h6 h3] at g1 g2
      exact ⟨_, ⟨rfl, 6, by decide, by decide, g1, rfl⟩, g2⟩
theorem refC_okU {X : XX} {v : VV} {cC : Int → Nat} {b : Int → Int} {n : Int} {ct : Int → Int} {B : Nat} {τ : Int → Int} (hTC : TCol X cC) (hτ : ∀ j, 0 ≤ j → j < 128 → okT (τ j)) : okU τ (refC X v cC b n ct B) := fun k => by
  have h1 : refC X v cC b n ct B k = 0 ∨ (1000 ≤ refC X v cC b n ct B k ∧ refC X v cC b n ct B k < 1128) := by
    unfold refC
    by_cases h : nth b n ct B (nm32 b n k) = -1
    · rw [if_pos h]; exact Or.inl rfl
    · rw [if_neg h]
      generalize tC X v (nm32 b n (ct (nth b n ct B (nm32 b n k)))) = t
      unfold itC
      by_cases h2 : 0 ≤ t ∧ t < 16 ∧ ¬ X.2 37 t = -1
      · rw [if_pos h2]
        by_cases h3 : colC X v cC t (nm32 b n (k + 2)) = -1
        · rw [if_pos h3]; exact Or.inl rfl
        · rw [if_neg h3]
          right
          rcases hTC t h2.1 h2.2.1 with z | ⟨-, -, z⟩
          · exact absurd z h2.2.2
          · rcases fst1_spec (fun c => v (X.2 (X.2 37 t) 1) c = nm32 b n (k + 2)) (cC t) with ⟨q, -⟩ | ⟨q0, q1, -⟩
            · exact absurd q h3
            · have e : colC X v cC t (nm32 b n (k + 2)) = fst1 (fun c => v (X.2 (X.2 37 t) 1) c = nm32 b n (k + 2)) (cC t) := rfl
              rw [e]; omega
      · rw [if_neg h2]; exact Or.inl rfl
  refine ⟨h1, ?_⟩
  unfold tyU
  by_cases h : 1000 ≤ refC X v cC b n ct B k ∧ refC X v cC b n ct B k < 1128
  · rw [if_pos h]; exact hτ _ (by omega) (by omega)
  · rw [if_neg h]; exact Or.inl rfl
