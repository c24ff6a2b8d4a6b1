/-! ===== the class: what is read, checked ===== -/
theorem tok_end {b : Int → Int} {n N : Int} (hX : TX b n) (h0 : 0 ≤ N) (hN : tK b n N = 260) : ∀ m : Nat, tS b n (N + m) = n
  | 0 => by
    have := (tK_end b hX N).mp hN
    rw [show N + ((0 : Nat) : Int) = N by omega]; exact this
  | m + 1 => by
    have ih := tok_end hX h0 hN m
    have e : tEnd b n n = n := by unfold tEnd; rw [if_pos rfl]
    rw [show N + ((m + 1 : Nat) : Int) = (N + m) + 1 by omega, tS_s b n (show 0 ≤ N + (m : Int) by omega), ih, e]
    exact lS_stop (Int.le_refl _) (fun z => by omega)
theorem tok_lt {b : Int → Int} {n N x : Int} {v : VV} (hT : TOK b n N v) (hk : ¬ tK b n x = 260) : x < N := by
  obtain ⟨hX, ⟨n0, -, n2, -⟩, -⟩ := hT
  rcases Int.lt_or_le x N with q | q
  · exact q
  · exfalso
    have := tok_end hX n0 n2 (x - N).toNat
    rw [show N + ((x - N).toNat : Int) = x by omega] at this
    exact hk ((tK_end b hX x).mpr this)
theorem name_ok {b : Int → Int} {n N x : Int} {v : VV} (hT : TOK b n N v) (h0 : 0 ≤ x) (hk : tK b n x = 256) (h8 : tL b n x ≤ 8) : (0 ≤ x ∧ x < N) ∧ 97 ≤ b (tS b n x) ∧ b (tS b n x) ≤ 122 := ⟨⟨h0, tok_lt hT (by omega)⟩, (WR_tok hT.1 hk h8).2⟩
theorem rStmt_t {b : Int → Int} {n : Int} (h : (rStmt b n).1 = true) : (tK b n 1 = 256 ∧ tL b n 1 ≤ 8) ∧ (rBody b n 2).1 = true ∧ tK b n (rBody b n 2).2 = 59 ∧ (rStmt b n).2 = (rBody b n 2).2 + 1 := by
  rw [rStmt_hd] at h ⊢
  obtain ⟨h1, e1⟩ := rThen_true h
  rw [e1] at h ⊢
  have hh : rHd b n = rName b n 1 := by
    unfold rHd at h1 ⊢
    by_cases q : tK b n 0 = 261 ∨ tK b n 0 = 262 ∨ tK b n 0 = 263
    · rw [if_pos q]
    · rw [if_neg q] at h1; exact Bool.noConfusion h1
  rw [hh] at h1 h ⊢
  obtain ⟨e2, k1, k2⟩ := rName_t h1
  rw [e2] at h ⊢
  have h' : (rThen (rBody b n 2) (rFin b n)).1 = true := h
  show _ ∧ _ ∧ _ ∧ (rThen (rBody b n 2) (rFin b n)).2 = _
  obtain ⟨h3, e3⟩ := rThen_true h'
  rw [e3] at h' ⊢
  have h4 : (rThen (rTake b n 59 (rBody b n 2).2) (fun a => if tK b n a = 260 then (true, a) else (false, tS b n a))).1 = true := h'
  show _ ∧ _ ∧ _ ∧ (rThen (rTake b n 59 (rBody b n 2).2) (fun a => if tK b n a = 260 then (true, a) else (false, tS b n a))).2 = _
  obtain ⟨h5, e5⟩ := rThen_true h4
  obtain ⟨e6, k6⟩ := rTake_t h5
  rw [e5, e6] at h4 ⊢
  refine ⟨⟨k1, k2⟩, h3, k6, ?_⟩
  by_cases q : tK b n ((rBody b n 2).2 + 1) = 260
  · exact congrArg Prod.snd (if_pos q)
  · have : (if tK b n ((rBody b n 2).2 + 1) = 260 then (true, (rBody b n 2).2 + 1) else (false, tS b n ((rBody b n 2).2 + 1))).1 = true := h4
    rw [if_neg q] at this
    exact Bool.noConfusion this
theorem FmSel_of {b : Int → Int} {n : Int} {C B : Nat} (h : SelP b n C B) : FmSel b n C (qN b n 3 C + 2 * B - 1) ∧ 3 ≤ qN b n 3 C ∧ off b n C ≤ qN b n 3 C := by
  obtain ⟨⟨⟨c1, c2⟩, b1, b2⟩, hR, hF, hB, hE, hS, hS1⟩ := h
  have hf : ∀ c : Nat, c < C → (rForm b n 3 (qN b n 3 c + 2)).1 = true := fun c hc => (hR c hc).2.2.2.1
  have up := fun c : Nat => fun h2 : c ≤ C => by
    have := qN_up hf c 0 (by omega)
    rw [Nat.zero_add] at this
    exact this
  have q0 : qN b n 3 0 = 3 := rfl
  have h0 : ∀ k : Nat, k ≤ C → off b n k ≤ qN b n 3 k := by
    intro k
    induction k with
    | zero => intro _; rw [off_0]; show (0 : Int) ≤ 3; decide
    | succ k ih =>
      intro hk
      have h1 := ih (by omega)
      have h2 := emF_len (hf k (by omega))
      have h3 : qN b n 3 (k + 1) = (rForm b n 3 (qN b n 3 k + 2)).2 + 1 := rfl
      rw [off_s, h3]; omega
  have hC := up C (Nat.le_refl _)
  refine ⟨⟨fun c hc => ⟨by have := up c (by omega); omega, hf c hc⟩, by omega, fun hk => ?_⟩, by omega, h0 C (Nat.le_refl _)⟩
  rw [hS, rWhere_y hk] at hS1
  obtain ⟨w1, e1⟩ := rThen_true hS1
  rw [e1] at hS1
  have hS2 : (if tK b n (rForm b n 3 (qN b n 3 C + 2 * B - 1 + 1)).2 = 60 ∨ tK b n (rForm b n 3 (qN b n 3 C + 2 * B - 1 + 1)).2 = 61 then rForm b n 3 ((rForm b n 3 (qN b n 3 C + 2 * B - 1 + 1)).2 + 1) else (false, tS b n (rForm b n 3 (qN b n 3 C + 2 * B - 1 + 1)).2)).1 = true := hS1
  by_cases q : tK b n (rForm b n 3 (qN b n 3 C + 2 * B - 1 + 1)).2 = 60 ∨ tK b n (rForm b n 3 (qN b n 3 C + 2 * B - 1 + 1)).2 = 61
  · rw [if_pos q] at hS2
    exact ⟨w1, q, hS2⟩
  · rw [if_neg q] at hS2; exact Bool.noConfusion hS2
/-- how many items a select has -/
theorem Ls_len {b : Int → Int} {n N : Int} {C B : Nat} {v : VV} (hT : TOK b n N v) (hs : (rStmt b n).1 = true) (hk0 : ¬ tK b n 0 = 261) (h : SelP b n C B) : ((Ls b n C (qN b n 3 C + 2 * B - 1)).length : Int) ≤ 400 := by
  obtain ⟨hF, hq3, hoff⟩ := FmSel_of h
  obtain ⟨-, h2, h3, -⟩ := rStmt_t hs
  have eB : rBody b n 2 = rWhere b n (qN b n 3 C + 2 * B - 1) := by
    have : rBody b n 2 = rSelect b n 2 := if_neg hk0
    rw [this]; exact h.2.2.2.2.2.1
  rw [eB] at h3
  have hlt := tok_lt hT (x := (rWhere b n (qN b n 3 C + 2 * B - 1)).2) (by omega)
  have hN := hT.2.1
  have hB := h.1.2
  have e : ((Ls b n C (qN b n 3 C + 2 * B - 1)).length : Int) = off b n C + ((if tK b n (qN b n 3 C + 2 * B - 1) = 265 then emW b n (qN b n 3 C + 2 * B - 1) else []).length : Int) := by
    unfold Ls off; rw [List.length_append]; omega
  rw [e]
  by_cases hk : tK b n (qN b n 3 C + 2 * B - 1) = 265
  · obtain ⟨w1, w2, w3⟩ := hF.2.2 hk
    have l1 := emF_len w1
    have l2 := emF_len w3
    have eW : rWhere b n (qN b n 3 C + 2 * B - 1) = rForm b n 3 ((rForm b n 3 (qN b n 3 C + 2 * B - 1 + 1)).2 + 1) := by
      rw [rWhere_y hk, rThen_t w1]; exact if_pos w2
    rw [eW] at hlt
    rw [if_pos hk]
    unfold emW
    rw [List.length_append, List.length_append, List.length_singleton]
    omega
  · have eW : rWhere b n (qN b n 3 C + 2 * B - 1) = (true, qN b n 3 C + 2 * B - 1) := if_neg hk
    rw [eW] at hlt
    rw [if_neg hk, List.length_nil]
    have : qN b n 3 C + 2 * (B : Int) - 1 < N := hlt
    omega
set_option maxHeartbeats 1000000 in
theorem k_check_sel {X : XX} {v : VV} {b : Int → Int} {n N : Int} {C B : Nat} {cC : Int → Nat} (hW : SW X) (hTO : TObj X) (hTC : TCol X cC) (hτ : ∀ j, 0 ≤ j → j < 128 → okT (v 38 j)) (hT : TOK b n N v) (hs : (rStmt b n).1 = true) (hk : ¬ sK b n = 0) (e46 : v 4 6 = sK b n) (e47 : v 4 7 = 1) (h23 : v 23 1 = 0) (h19 : v 19 1 = 0) (hP : SelP b n C B) (h17 : v 17 1 = C) (hrow : ∀ k : Nat, k < C → v 18 k = qN b n 3 k ∧ v 26 k = off b n k ∧ v 27 k = off b n (k + 1)) (hrow2 : ∀ f : Int, (C : Int) ≤ f → f < 6 → v 26 f = 0 ∧ v 27 f = 0) (hA : AtL v 29 31 0 (emA b n C)) (hBe : BehC (qN b n 3 C) B v) (hWh : WhC b n (off b n C) (qN b n 3 C + 2 * B - 1) v) : CX mX1_check 5 [(2, 32), (2, 4), (2, 37), (2, 38)] X v (fun _ v1 => CkR X v cC b n C B (fun c => qN b n 3 c.toNat) (fun i => qN b n 3 C + 2 * i) (Ls b n C (qN b n 3 C + 2 * B - 1)) (LLs b n C (qN b n 3 C + 2 * B - 1) (refC X v cC b n (fun i => qN b n 3 C + 2 * i) B)) v1) := by
  obtain ⟨hF, hq3, hoff⟩ := FmSel_of hP
  have hk0 : ¬ tK b n 0 = 261 := fun z => hk (if_pos z)
  have hlen := Ls_len hT hs hk0 hP
  obtain ⟨⟨n1, n2⟩, -⟩ := rStmt_t hs
  obtain ⟨⟨⟨c1, c2⟩, b1, b2⟩, hR, -, hBP, -⟩ := hP
  have up := fun c : Nat => fun h2 : c ≤ C => by
    have := qN_up (fun c hc => (hF.1 c hc).2) c 0 (by omega)
    rw [Nat.zero_add] at this
    exact this
  have q0 : qN b n 3 0 = 3 := rfl
  have hX := hT.1
  have o0 : (0 : Int) + ((emA b n C).length : Int) = off b n C := by unfold off; omega
  have hLl : ((Ls b n C (qN b n 3 C + 2 * B - 1)).length : Int) = off b n C + ((if tK b n (qN b n 3 C + 2 * B - 1) = 265 then emW b n (qN b n 3 C + 2 * B - 1) else []).length : Int) := by
    unfold Ls off; rw [List.length_append]; omega
  have h28 : v 28 1 = (Ls b n C (qN b n 3 C + 2 * B - 1)).length ∧ v 30 1 = (Ls b n C (qN b n 3 C + 2 * B - 1)).length := by
    rw [hLl]
    by_cases hk5 : tK b n (qN b n 3 C + 2 * B - 1) = 265
    · obtain ⟨-, -, -, z⟩ := hWh.2 hk5
      rw [if_pos hk5]; exact ⟨z.1, z.2.1⟩
    · obtain ⟨-, -, z⟩ := hWh.1 hk5
      rw [if_neg hk5, List.length_nil]; exact ⟨by rw [z.1]; omega, by rw [z.2.1]; omega⟩
  have hAL : AtL v 29 31 0 (Ls b n C (qN b n 3 C + 2 * B - 1)) := by
    unfold Ls
    refine (AtL.app _ _ _).mpr ⟨hA, ?_⟩
    rw [o0]
    by_cases hk5 : tK b n (qN b n 3 C + 2 * B - 1) = 265
    · rw [if_pos hk5]; exact (hWh.2 hk5).2.2.1
    · rw [if_neg hk5]; trivial
  have hrefs : ∀ r, rfL b n C (qN b n 3 C + 2 * B - 1) r → rOK b n r ∧ 0 ≤ r := fun r hr => by
    rcases hr with ⟨c, cc1, cc2⟩ | ⟨hk5, h2 | h2⟩
    · obtain ⟨z1, z2, -⟩ := rfF_ok (hF.1 c cc1).2 cc2
      exact ⟨z1, by have := (hF.1 c cc1).1; omega⟩
    · obtain ⟨z1, z2, -⟩ := rfF_ok (hF.2.2 hk5).1 h2
      exact ⟨z1, by omega⟩
    · obtain ⟨z1, z2, -⟩ := rfF_ok (hF.2.2 hk5).2.2 h2
      have := rForm_lt (hF.2.2 hk5).1
      exact ⟨z1, by omega⟩
  refine k_check (N := N) hW hTO hTC hT e47 (fun i i0 i1 => name_ok hT (show (0 : Int) ≤ 1 by decide) n1 n2) h17 ⟨by omega, by omega⟩ (fun i i0 i1 => ?_) (fun i i0 i1 => ?_) hBe.1 b2 (fun i i0 i1 => ?_) (fun i i0 i1 => ?_) h23 ⟨h28.1, hlen⟩ (by rw [h28.2]; exact hlen) hAL (fun q hq hq2 => ?_) (fun _ => h19) (fun _ V hV hAV => ?_)
  · have := (hrow i.toNat (by omega)).1
    rw [Int.toNat_of_nonneg i0] at this
    exact this
  · have hh := hR i.toNat (by omega)
    have := up i.toNat (by omega)
    exact name_ok hT (by show 0 ≤ qN b n 3 i.toNat; omega) hh.1 hh.2.1
  · have := hBe.2 i.toNat (by omega)
    rw [Int.toNat_of_nonneg i0] at this
    exact this
  · have hh := hBP i.toNat (by omega)
    rw [Int.toNat_of_nonneg i0] at hh
    exact name_ok hT (by show 0 ≤ qN b n 3 C + 2 * i; omega) hh.1 hh.2.1
  · rcases (EmS_L' hF).1 q hq with z | ⟨-, z⟩
    · omega
    · obtain ⟨⟨k1, k2, k3, k4, k5⟩, r0⟩ := hrefs _ z
      intro i i0 i1
      have : i = 0 ∨ i = 1 := by omega
      rcases this with rfl | rfl
      · show (0 ≤ q.1 - 2000 + 2 * 0 ∧ q.1 - 2000 + 2 * 0 < N) ∧ 97 ≤ b (tS b n (q.1 - 2000 + 2 * 0)) ∧ b (tS b n (q.1 - 2000 + 2 * 0)) ≤ 122
        rw [show q.1 - 2000 + 2 * 0 = q.1 - 2000 by omega]
        exact name_ok hT r0 k1 k2
      · show (0 ≤ q.1 - 2000 + 2 * 1 ∧ q.1 - 2000 + 2 * 1 < N) ∧ 97 ≤ b (tS b n (q.1 - 2000 + 2 * 1)) ∧ b (tS b n (q.1 - 2000 + 2 * 1)) ≤ 122
        rw [show q.1 - 2000 + 2 * 1 = q.1 - 2000 + 2 by omega]
        exact name_ok hT (by omega) k4 k5
  · have e38 : V 38 = v 38 := funext (fun j => hV 38 j (by omega))
    refine DPt_sel hX (by rw [e38]; exact refC_okU hTC hτ) (by rw [e38]; exact hτ) c2 hF.1 hF.2.1 hF.2.2 (fun k hk2 => ?_) (fun f f0 f1 => ?_) ⟨fun z => ?_, fun z => ?_⟩ ⟨by rw [hV 28 1 (by omega)]; exact h28.1, by rw [hV 30 1 (by omega)]; exact h28.2⟩ hAV
    · rw [hV 26 k (by omega), hV 27 k (by omega)]; exact (hrow k hk2).2
    · rw [hV 26 f (by omega), hV 27 f (by omega)]; exact hrow2 f f0 f1
    · obtain ⟨y1, y2, -⟩ := hWh.1 z
      exact ⟨(hV 26 6 (by omega)).trans y1, (hV 27 6 (by omega)).trans y2⟩
    · obtain ⟨y1, y2, -⟩ := hWh.2 z
      exact ⟨(hV 26 6 (by omega)).trans y1, (hV 27 6 (by omega)).trans y2⟩
