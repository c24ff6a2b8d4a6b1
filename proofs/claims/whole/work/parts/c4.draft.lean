/-! ===== the draft that is taken ===== -/
theorem sK_bd (b : Int → Int) (n : Int) : 0 ≤ sK b n ∧ sK b n ≤ 2 := by
  unfold sK
  (repeat' split) <;> omega
/-- what addTable wants of the draft -/
def DrU (b : Int → Int) (n N : Int) (ct : Int → Int) (C B I : Nat) (vm u : VV) : Prop := 2 ≤ N ∧ (u 4 7 = 1 ∧ u 4 8 = 2) ∧ (97 ≤ b (tS b n 1) ∧ b (tS b n 1) ≤ 122) ∧ (u 17 1 = C ∧ (1 ≤ C ∧ C ≤ 6) ∧ (∀ i : Int, 0 ≤ i → i < C → u 18 i = ct i) ∧ NmR b n N ct C) ∧ (u 23 1 = B ∧ B ≤ 3) ∧ (u 28 1 = I ∧ u 30 1 = I ∧ I ≤ 400) ∧ u 19 1 = C ∧ u 4 6 = sK b n ∧ (sK b n = 0 → B = 0) ∧ (¬ sK b n = 0 → 1 ≤ B) ∧ ∀ k : Int, 0 ≤ k → k < B → isT vm (u 24 k)
def DrS (b : Int → Int) (n N : Int) (vm w w1 : VV) : Prop := sK b n = 0 ∧ ∃ C : Nat, (1 ≤ C ∧ C ≤ 6) ∧ SrC b n w C ∧ rSource b n 2 = (true, 3 + 3 * (C : Int)) ∧ DrU b n N (fun c => 3 + 3 * c) C 0 0 vm w1 ∧ (∀ j, w1 19 j = w 19 j ∧ w1 20 j = w 20 j) ∧ (∀ p, 0 ≤ p → p ≤ 6 → w1 26 p = 0 ∧ w1 27 p = 0)
def DrV (X : XX) (cC : Int → Nat) (b : Int → Int) (n N : Int) (vm w w1 : VV) : Prop := ¬ sK b n = 0 ∧ ∃ C B : Nat, SelP b n C B ∧ DrU b n N (fun c => qN b n 3 c.toNat) C B (Ls b n C (qN b n 3 C + 2 * B - 1)).length vm w1 ∧ DPt w1 (LLs b n C (qN b n 3 C + 2 * B - 1) (refC X w cC b n (fun i => qN b n 3 C + 2 * i) B)) ∧ (∀ i : Int, 0 ≤ i → i < B → w1 24 i = tC X w (nm32 b n (qN b n 3 C + 2 * i))) ∧ ∀ c : Int, 0 ≤ c → c < C → w1 20 c = tyOf (w 38) (LLs b n C (qN b n 3 C + 2 * B - 1) (refC X w cC b n (fun i => qN b n 3 C + 2 * i) B) c)
theorem draft_ok {G : GT} {cC : Int → Nat} {E : Int} {X : XX} {vc vm w w1 : VV} {b : Int → Int} {n N : Int} (h : I1 G cC E X vc vm) (hτ : ∀ j, 0 ≤ j → j < 128 → okT (vc 38 j)) (hT : TOK b n N w1) (hs : (rStmt b n).1 = true) (fw : Fr SAc vc w) (hCk : CkO X w cC b n w1) (h0 : w1 32 1 = 0) : DrS b n N vm w w1 ∨ DrV X cC b n N vm w w1 := by
  have hX := hT.1
  have hfr := hCk.fr
  have g : ∀ r j : Int, ¬ SCk r j → w1 r j = w r j := hfr
  obtain ⟨⟨n1, n2⟩, -⟩ := rStmt_t hs
  have hn1 := name_ok hT (show (0 : Int) ≤ 1 by decide) n1 n2
  obtain ⟨⟨⟨d1, d2, d3⟩, d4, d5⟩, hC2⟩ := id hCk
  have e46 : w1 4 6 = sK b n := (g 4 6 (by unfold SCk S32 STy; omega)).trans d1
  have e47 : w1 4 7 = 1 := (g 4 7 (by unfold SCk S32 STy; omega)).trans d2
  have e48 : w1 4 8 = 2 := (g 4 8 (by unfold SCk S32 STy; omega)).trans d3
  rcases hC2 with ⟨k0, C, hC, hS, hSr, hCR⟩ | ⟨k0, C, B, hP, hCR⟩
  · rcases d5 with ⟨-, -, C', -, -, -, hI0, hpz⟩ | ⟨z, -⟩
    · refine Or.inl ⟨k0, C.toNat, ⟨by omega, by omega⟩, by rw [Int.toNat_of_nonneg (by omega)]; exact hS, by rw [Int.toNat_of_nonneg (by omega)]; exact hSr, ?_, hCR.2.2.2.2.2.1 (d1.trans k0), fun p p0 p1 => ?_⟩
      · obtain ⟨s1, s2, s3⟩ := id hS
        obtain ⟨-, c23, -, -, -, c19, -⟩ := id hCR
        refine ⟨by omega, ⟨e47, e48⟩, hn1.2, ⟨?_, ⟨by omega, by omega⟩, fun i i0 i1 => ?_, fun i i0 i1 => ?_⟩, ⟨c23, by decide⟩, ⟨?_, ?_, by decide⟩, ?_, e46, fun _ => rfl, fun z => absurd k0 z, fun k z1 z2 => by omega⟩
        · rw [g 17 1 (by unfold SCk S32 STy; omega), s1]; omega
        · rw [g 18 i (by unfold SCk S32 STy; omega)]; exact (s3 i i0 (by omega)).1
        · obtain ⟨-, -, q1, q2⟩ := s3 i i0 (by omega)
          exact name_ok hT (show 0 ≤ 3 + 3 * i by omega) q1 q2
        · rw [g 28 1 (by unfold SCk S32 STy; omega)]; exact hI0.1
        · rw [g 30 1 (by unfold SCk S32 STy; omega)]; exact hI0.2.1
        · rw [(c19 (d1.trans k0) 1).1, s2]; omega
      · rw [g 26 p (by unfold SCk S32 STy; omega), g 27 p (by unfold SCk S32 STy; omega)]; exact hpz p p0 p1
    · exact absurd k0 z
  · rcases d5 with ⟨z, -⟩ | ⟨-, -, C', B', hP', h17, hrow, hrow2, -, -, hWh⟩
    · exact absurd z k0
    · obtain ⟨e1, e2⟩ := SelP_u hP' hP
      subst e1
      subst e2
      obtain ⟨hF, hq3, hoff⟩ := FmSel_of hP
      have hk0 : ¬ tK b n 0 = 261 := fun z => k0 (if_pos z)
      have hlen := Ls_len hT hs hk0 hP
      obtain ⟨⟨⟨c1, c2⟩, b1, b2⟩, hR, -, hBP, -⟩ := id hP
      have up := fun c : Nat => fun h2 : c ≤ C' => by
        have := qN_up (fun c hc => (hF.1 c hc).2) c 0 (by omega)
        rw [Nat.zero_add] at this
        exact this
      have q0 : qN b n 3 0 = 3 := rfl
      have hLl : ((Ls b n C' (qN b n 3 C' + 2 * B' - 1)).length : Int) = off b n C' + ((if tK b n (qN b n 3 C' + 2 * B' - 1) = 265 then emW b n (qN b n 3 C' + 2 * B' - 1) else []).length : Int) := by
        unfold Ls off; rw [List.length_append]; omega
      have h28 : w 28 1 = (Ls b n C' (qN b n 3 C' + 2 * B' - 1)).length ∧ w 30 1 = (Ls b n C' (qN b n 3 C' + 2 * B' - 1)).length := by
        rw [hLl]
        by_cases hk5 : tK b n (qN b n 3 C' + 2 * B' - 1) = 265
        · obtain ⟨-, -, -, z⟩ := hWh.2 hk5
          rw [if_pos hk5]; exact ⟨z.1, z.2.1⟩
        · obtain ⟨-, -, z⟩ := hWh.1 hk5
          rw [if_neg hk5, List.length_nil]; exact ⟨by rw [z.1]; omega, by rw [z.2.1]; omega⟩
      obtain ⟨hFC, c23, c24, hAV, c20, -, -⟩ := id hCR
      have hno : ∀ k p, ¬ NCk X w cC b n C' B' (fun c => qN b n 3 c.toNat) (fun i => qN b n 3 C' + 2 * i) (Ls b n C' (qN b n 3 C' + 2 * B' - 1)) (LLs b n C' (qN b n 3 C' + 2 * B' - 1) (refC X w cC b n (fun i => qN b n 3 C' + 2 * i) B')) k p := by
        rcases hFC with ⟨-, -, z⟩ | ⟨z, -⟩
        · exact z
        · exact absurd h0 z
      obtain ⟨c19, c20'⟩ := c20 (fun z => k0 (d1.symm.trans z))
      have eτ : ∀ j, 0 ≤ j → j < 128 → okT (w 38 j) := fun j j0 j1 => by rw [fw 38 j (by unfold SAc; omega)]; exact hτ j j0 j1
      have e38 : w1 38 = w 38 := funext (fun j => g 38 j (by unfold SCk S32 STy; omega))
      refine Or.inr ⟨k0, C', B', hP, ⟨by omega, ⟨e47, e48⟩, hn1.2, ⟨(g 17 1 (by unfold SCk S32 STy; omega)).trans h17, ⟨c1, c2⟩, fun i i0 i1 => ?_, fun i i0 i1 => ?_⟩, ⟨c23, b2⟩, ⟨(g 28 1 (by unfold SCk S32 STy; omega)).trans h28.1, (g 30 1 (by unfold SCk S32 STy; omega)).trans h28.2, by omega⟩, c19, e46, fun z => absurd z k0, fun _ => b1, fun k z1 z2 => ?_⟩, ?_, c24, c20'⟩
      · have := (hrow i.toNat (by omega)).1
        rw [Int.toNat_of_nonneg i0] at this
        rw [g 18 i (by unfold SCk S32 STy; omega)]
        exact this
      · have hh := hR i.toNat (by omega)
        have := up i.toNat (by omega)
        exact name_ok hT (by show 0 ≤ qN b n 3 i.toNat; omega) hh.1 hh.2.1
      · rw [c24 k z1 z2]
        rcases tC_bd X w (nm32 b n (qN b n 3 C' + 2 * k)) with y | y
        · exact absurd (Or.inl (Or.inl (Or.inr ⟨rfl, k, z1, z2, y, rfl⟩))) (hno 2 (tS b n (qN b n 3 C' + 2 * k)))
        · exact (h.live _).mpr y
      · refine DPt_sel hX (by rw [e38]; exact refC_okU h.2.2.2.1.col eτ) (by rw [e38]; exact eτ) c2 hF.1 hF.2.1 hF.2.2 (fun k hk2 => ?_) (fun f f0 f1 => ?_) ⟨fun z => ?_, fun z => ?_⟩ ⟨(g 28 1 (by unfold SCk S32 STy; omega)).trans h28.1, (g 30 1 (by unfold SCk S32 STy; omega)).trans h28.2⟩ hAV
        · rw [g 26 k (by unfold SCk S32 STy; omega), g 27 k (by unfold SCk S32 STy; omega)]; exact (hrow k hk2).2
        · rw [g 26 f (by unfold SCk S32 STy; omega), g 27 f (by unfold SCk S32 STy; omega)]; exact hrow2 f f0 f1
        · obtain ⟨y1, y2, -⟩ := hWh.1 z
          exact ⟨(g 26 6 (by unfold SCk S32 STy; omega)).trans y1, (g 27 6 (by unfold SCk S32 STy; omega)).trans y2⟩
        · obtain ⟨y1, y2, -⟩ := hWh.2 z
          exact ⟨(g 26 6 (by unfold SCk S32 STy; omega)).trans y1, (g 27 6 (by unfold SCk S32 STy; omega)).trans y2⟩
