/-! ===== the class: the check whole ===== -/
def NNm (X : XX) (v : VV) (b : Int → Int) (n k p : Int) : Prop := k = 4 ∧ ¬ tC X v (nm32 b n 1) = -1 ∧ p = tS b n 1
def SCk (r j : Int) : Prop := S32 r j ∨ (r = 23 ∧ j = 1) ∨ r = 24 ∨ r = 29 ∨ STy 33 34 r j ∨ (r = 19 ∧ j = 1) ∨ r = 20
theorem SCk_TO {r j : Int} (h : TOs r j) : ¬ SCk r j := by unfold TOs at h; unfold SCk S32 STy; omega
theorem SCk_87 (r j : Int) (h : 87 ≤ r) : ¬ SCk r j := by unfold SCk S32 STy; omega
theorem S32_c {r j : Int} (h : S32 r j) : SCk r j := Or.inl h
theorem SLb_c {r j : Int} (h : SLb r j) : SCk r j := by
  rcases h with h | h
  · exact Or.inl h
  · unfold SCk; omega
theorem SIt_c {r j : Int} (h : SIt r j) : SCk r j := by
  rcases h with h | h
  · exact Or.inl h
  · unfold SCk; omega
theorem SNt_c {r j : Int} (h : SNt r j) : SCk r j := by
  rcases h with h | h | h
  · exact Or.inl h
  · exact Or.inr (Or.inr (Or.inr (Or.inr (Or.inl h))))
  · unfold SCk; omega
/-- all that is noted -/
def NCk (X : XX) (v : VV) (cC : Int → Nat) (b : Int → Int) (n C : Int) (B : Nat) (ct cb : Int → Int) (L : List (Int × Int)) (LL : Int → List (Int × Int)) (k p : Int) : Prop := ((((NNm X v b n k p ∨ NRi b n ct C 0 k p) ∨ NRi b n cb B 0 k p) ∨ NM2 X v b n cb B k p) ∨ NIt X v cC b n cb B L k p) ∨ (¬ v 4 6 = 0 ∧ NTy (v 38) LL 7 k p)
def CkR (X : XX) (v : VV) (cC : Int → Nat) (b : Int → Int) (n C : Int) (B : Nat) (ct cb : Int → Int) (L : List (Int × Int)) (LL : Int → List (Int × Int)) (v1 : VV) : Prop := FC (NCk X v cC b n C B ct cb L LL) v1 ∧ v1 23 1 = B ∧ (∀ i : Int, 0 ≤ i → i < B → v1 24 i = tC X v (nm32 b n (cb i))) ∧ AtL v1 29 31 0 (L.map (rs (refC X v cC b n cb B))) ∧ (¬ v 4 6 = 0 → v1 19 1 = C ∧ ∀ c, 0 ≤ c → c < C → v1 20 c = tyOf (v 38) (LL c)) ∧ (v 4 6 = 0 → ∀ j, v1 19 j = v 19 j ∧ v1 20 j = v 20 j) ∧ Fr SCk v v1
set_option maxRecDepth 100000 in
set_option maxHeartbeats 4000000 in
theorem k_check {X : XX} {v : VV} {b : Int → Int} {n N C : Int} {B : Nat} {ct cb : Int → Int} {cC : Int → Nat} {L : List (Int × Int)} {LL : Int → List (Int × Int)} (hW : SW X) (hTO : TObj X) (hTC : TCol X cC) (hT : TOK b n N v) (e47 : v 4 7 = 1) (hNm : NmR b n N (fun _ => 1) 1) (h17 : v 17 1 = C) (hC : 0 ≤ C ∧ C ≤ 6) (hct : ∀ i, 0 ≤ i → i < C → v 18 i = ct i) (hNc : NmR b n N ct C) (h21 : v 21 1 = B) (hB : B ≤ 3) (hcb : ∀ i : Int, 0 ≤ i → i < B → v 22 i = cb i) (hNb : NmR b n N cb B) (h23 : v 23 1 = 0) (hL : v 28 1 = L.length ∧ (L.length : Int) ≤ 400) (h30 : v 30 1 ≤ 400) (hAt : AtL v 29 31 0 L) (hq : ∀ q ∈ L, 2000 ≤ q.1 → NmR b n N (fun i => q.1 - 2000 + 2 * i) 2) (h19 : ¬ v 4 6 = 0 → v 19 1 = 0) (hDP : ¬ v 4 6 = 0 → ∀ V : VV, (∀ r j, (r = 26 ∨ r = 27 ∨ r = 28 ∨ r = 30 ∨ r = 31 ∨ r = 38) → V r j = v r j) → AtL V 29 31 0 (L.map (rs (refC X v cC b n cb B))) → DPt V LL) : CX mX1_check 5 [(2, 32), (2, 4), (2, 37), (2, 38)] X v (fun _ v1 => CkR X v cC b n C B ct cb L LL v1) := by
  have u0 : Fr S32 v (upd2 (upd2 v 32 1 0) 32 2 (-1)) := (Fr.rf.up ⟨rfl, Or.inl rfl⟩).up ⟨rfl, Or.inr rfl⟩
  have uF : FC (fun _ _ => False) (upd2 (upd2 v 32 1 0) 32 2 (-1)) := Or.inl ⟨by rw [upd2_n _ (by omega), upd2_s], upd2_s _ _ _ _, fun _ _ z => z⟩
  obtain ⟨m1, m2⟩ := hNm 0 (Int.le_refl _) (by decide)
  have hN4 := hT.2.1
  have hT0 := hT.fr u0 (fun r j q => S32_TO q)
  -- behind the name
  have l50 : ∀ V : VV, FC (NNm X v b n) V → Fr S32 v V → Ex mX1_check 5 50 [(2, 32), (2, 4), (2, 37), (2, 38), (2, 5), (3, 0), (3, 0)] [] X V 0 0 (fun _ X1 v1 => X1 = X ∧ CkR X v cC b n C B ct cb L LL v1) := fun V hF hf => by
    have hTV := hT.fr hf (fun r j q => S32_TO q)
    have g : ∀ r j, ¬ r = 32 → V r j = v r j := fun r j q => hf r j (by unfold S32; omega)
    refine bX1_check_50 5 (Nat.le_refl _) hW ⟨_, k_repeats hW hTV (rowS17 hW) (by decide) ⟨by decide, by decide⟩ ((g 17 1 (by omega)).trans h17) hC (fun i i0 i1 => (g 18 i (by omega)).trans (hct i i0 i1)) hNc hF, fun w19 hP => ?_⟩
    obtain ⟨a1, a2⟩ := hP
    have hf1 := hf.via a2 (fun _ _ q => q) (fun _ _ q => q)
    have g1 : ∀ r j, ¬ r = 32 → w19 r j = v r j := fun r j q => hf1 r j (by unfold S32; omega)
    refine ⟨_, k_repeats hW (hT.fr hf1 (fun r j q => S32_TO q)) (rowS21 hW) (by decide) ⟨by decide, by decide⟩ ((g1 21 1 (by omega)).trans h21) ⟨by omega, by omega⟩ (fun i i0 i1 => (g1 22 i (by omega)).trans (hcb i i0 i1)) hNb a1, fun w23 hP => ?_⟩
    obtain ⟨b1, b2⟩ := hP
    have hf2 := hf1.via b2 (fun _ _ q => q) (fun _ _ q => q)
    have g2 : ∀ r j, ¬ r = 32 → w23 r j = v r j := fun r j q => hf2 r j (by unfold S32; omega)
    refine ⟨_, k_lookBehind hW hTO (hT.fr hf2 (fun r j q => S32_TO q)) ((g2 21 1 (by omega)).trans h21) ⟨by omega, by omega⟩ (fun i i0 i1 => (g2 22 i (by omega)).trans (hcb i i0 i1)) hNb ((g2 23 1 (by omega)).trans h23) b1, fun w27 hP => ?_⟩
    obtain ⟨c1, c2, c3, c4⟩ := hP
    have hf3 : Fr SLb v w27 := (hf2.mono (fun r j h q => h (Or.inl q))).via c4 (fun _ _ q => q) (fun _ _ q => q)
    have g3 : ∀ r j, ¬ (r = 32 ∨ r = 23 ∨ r = 24) → w27 r j = v r j := fun r j q => hf3 r j (by unfold SLb S32; omega)
    have c3' : ∀ i : Int, 0 ≤ i → i < B → w27 24 i = tC X v (nm32 b n (cb i)) := fun i i0 i1 => by
      rw [c3 i i0 i1, tC_fr hTO hf2 (fun r hr => S32_87 r 0 hr)]
    have c3'' : ∀ i : Int, 0 ≤ i → i < B → w27 24 i = tC X w27 (nm32 b n (cb i)) := fun i i0 i1 => by
      rw [c3' i i0 i1, tC_fr hTO hf3 (fun r hr => SLb_87 r hr)]
    have SLb_87' : ∀ r j, 87 ≤ r → ¬ SLb r j := fun r j h => by unfold SLb S32; omega
    refine k_items (L := L) (cC := cC) (N := N) hW hTO hTC (hT.fr hf3 (fun r j q => SLb_TO q)) ((g3 21 1 (by omega)).trans h21) hB (fun i i0 i1 => (g3 22 i (by omega)).trans (hcb i i0 i1)) hNb c2 c3'' ⟨(g3 28 1 (by omega)).trans hL.1, hL.2⟩ (hAt.fr _ _ (fun j _ _ => ⟨g3 29 j (by omega), g3 31 j (by omega)⟩)) hq c1 (fun V d1 d2 d3 => ?_)
    have hf4 : Fr (fun r j => SLb r j ∨ SIt r j) v V := (hf3.mono (fun r j h q => h (Or.inl q))).via d2 (fun _ _ q => q) (fun _ _ q => Or.inr q)
    have g4 : ∀ r j, ¬ (r = 32 ∨ r = 23 ∨ r = 24 ∨ r = 29) → V r j = v r j := fun r j q => hf4 r j (by unfold SLb SIt S32; omega)
    have eref : refC X w27 cC b n cb B = refC X v cC b n cb B := funext (fun a => refC_fr hTO hTC hf3 SLb_87' a)
    have d3' : AtL V 29 31 0 (L.map (rs (refC X v cC b n cb B))) := by rw [eref] at d3; exact d3
    have hFV : FC (fun k p => (((NNm X v b n k p ∨ NRi b n ct C 0 k p) ∨ NRi b n cb B 0 k p) ∨ NM2 X v b n cb B k p) ∨ NIt X v cC b n cb B L k p) V := by
      refine d1.cg (fun k p => or_congr (or_congr Iff.rfl ?_) ?_)
      · unfold NM2
        simp only [tC_fr hTO hf2 (fun r hr => S32_87 r 0 hr)]
      · unfold NIt
        simp only [NRf_fr hTO hTC hf3 SLb_87']
    have cfr : Fr SCk v V := hf4.mono (fun r j h q => h (q.elim SLb_c SIt_c))
    have e23 : V 23 1 = B := (d2 23 1 (by unfold SIt S32; omega)).trans c2
    have e24 : ∀ i : Int, 0 ≤ i → i < B → V 24 i = tC X v (nm32 b n (cb i)) := fun i i0 i1 => (d2 24 i (by unfold SIt S32; omega)).trans (c3' i i0 i1)
    rw [g4 4 6 (by omega)]
    refine ⟨fun g5 => ⟨rfl, hFV.cg (fun k p => ⟨Or.inl, fun z => z.elim id (fun y => absurd g5 y.1)⟩), e23, e24, d3', fun z => absurd g5 z, fun _ j => ⟨g4 19 j (by omega), g4 20 j (by omega)⟩, cfr⟩, fun g5 => ?_⟩
    have e38 : V 38 = v 38 := funext (fun j => g4 38 j (by omega))
    refine ⟨_, k_noteTypes hW (hDP g5 V (fun r j q => g4 r j (by omega)) d3') ⟨by rw [g4 28 1 (by omega)]; omega, by rw [g4 30 1 (by omega)]; exact h30⟩ ((g4 17 1 (by omega)).trans h17) hC ((g4 19 1 (by omega)).trans (h19 g5)) hFV, fun w35 hP => ?_⟩
    obtain ⟨t1, t2, t3, t4⟩ := hP
    rw [e38] at t1
    refine ⟨rfl, t1.cg (fun k p => or_congr Iff.rfl ⟨fun z => ⟨g5, z⟩, fun z => z.2⟩), (t4 23 1 (by unfold SNt S32 STy; omega)).trans e23, fun i i0 i1 => (t4 24 i (by unfold SNt S32 STy; omega)).trans (e24 i i0 i1), d3'.fr _ _ (fun j _ _ => ⟨t4 29 j (by unfold SNt S32 STy; omega), t4 31 j (by unfold SNt S32 STy; omega)⟩), fun _ => ⟨t2, fun c c0 c1 => by rw [t3 c c0 c1, e38]⟩, fun z => absurd z g5, cfr.via t4 (fun _ _ q => q) (fun _ _ q => SNt_c q)⟩
  refine CX.of (by decide +kernel) rfl rfl rfl (bX1_check_0 (Nat.le_refl _) hW ?_)
  rw [e47]
  refine ⟨_, k_name hW hT0 m1.1 m1.2 m2, fun r2 w3 hP => ?_⟩
  obtain ⟨rfl, hr⟩ := hP
  obtain rfl : r2 = nm32 b n 1 := by simpa using hr
  refine ⟨_, k_index hW hTO _, fun r6 w7 hP => ?_⟩
  obtain ⟨rfl, hr6⟩ := hP
  obtain rfl : r6 = tC X v (nm32 b n 1) := by rw [tC_fr hTO u0 (fun r hr => S32_87 r 0 hr)] at hr6; simpa using hr6
  refine ⟨fun g => l50 _ (uF.cg (fun k p => ⟨False.elim, fun z => z.2.1 g⟩)) u0, fun g => ?_⟩
  rw [show upd2 (upd2 v 32 1 0) 32 2 (-1) 4 7 = 1 by rw [upd2_n _ (by omega), upd2_n _ (by omega)]; exact e47]
  refine ⟨_, k_start hW hT0 m1.1 (by omega), fun r10 w11 hP => ?_⟩
  obtain ⟨rfl, hr10⟩ := hP
  obtain rfl : r10 = tS b n 1 := by simpa using hr10
  refine ⟨_, k_note hW uF (k := 4) (by decide) (tS_bd b hT.1.1.1 _).1, fun w15 hP => ?_⟩
  obtain ⟨n1, n2⟩ := hP
  exact l50 w15 (n1.cg (fun k p => ⟨fun z => z.elim False.elim (fun y => ⟨y.1, g, y.2⟩), fun z => Or.inr ⟨z.1, z.2.2⟩⟩)) (u0.via n2 (fun _ _ q => q) (fun _ _ q => q))
