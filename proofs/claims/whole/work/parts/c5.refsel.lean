/-! ===== the reference's new select ===== -/
def NwV (b : Int → Int) (n T A : Int) (C B : Nat) (vm w1 V : VV) : Prop := (V 50 T = sK b n ∧ V 51 T = C ∧ V 54 T = B ∧ V 49 T = tW b n 1 ∧ V 60 T = A ∧ V 67 T = 2) ∧ (∀ c : Int, 0 ≤ c → c < C → V 52 (8 * T + c) = tW b n (qN b n 3 c.toNat) ∧ V 53 (8 * T + c) = w1 20 c ∧ okN (V 53 (8 * T + c))) ∧ (∀ k : Int, 0 ≤ k → k < B → V 55 (3 * T + k) = w1 24 k) ∧ SelW b n V C T (qN b n 3 C + 2 * B - 1) ∧ (∀ f : Int, 0 ≤ f → f ≤ 6 → PartR w1 26 27 28 29 30 31 f (LLs b n C (qN b n 3 C + 2 * B - 1) (refU b n V T) f)) ∧ TKt b n T A V ∧ (∀ f, PF V T f → FmOK b n T V f) ∧ TyT (fun _ => (b, n)) V T
set_option maxHeartbeats 1000000 in
theorem ref_sel {G : GT} {cC : Int → Nat} {E : Int} {X : XX} {vc vm w w1 W V : VV} {b : Int → Int} {n N T A : Int} (h : I1 G cC E X vc vm) (hX : TX b n) (hτ : ∀ j, 0 ≤ j → j < 128 → okT (vc 38 j)) (e0 : vm 47 0 = T) (hs : (rStmt b n).1 = true) (fw : Fr SAc vc w) (hD : DrV X cC b n N vm w w1) (fW : Fr (AcS T) vm W) (hRd : RdK b n T W) (hA0 : W 60 T = A) (hK : TKt b n T A W) (hA : (rStmt b n).2 = A) (hMe : MeM b n W T V) (fV : Fr (MeS T) W V) (h25 : V 47 25 = 0) : ∃ C B : Nat, SelP b n C B ∧ DrU b n N (fun c => qN b n 3 c.toNat) C B (Ls b n C (qN b n 3 C + 2 * B - 1)).length vm w1 ∧ NwV b n T A C B vm w1 V := by
  have hTO := h.2.2.2.1.obj
  have hTC := h.2.2.2.1.col
  have hokN := h.2.1.2.2.2.2.2.1.1
  have hlw : LkR X w W cC := h.2.2.1.fr hTO hTC fw (fun r j q => by unfold SAc; omega) (fW 47 0 (by unfold AcS; omega)) (fun t => fW 48 t (by unfold AcS; omega)) (fun t t0 t1 => ⟨fW 49 t (by unfold AcS; omega), fW 51 t (by unfold AcS; omega), fun c c0 c1 => ⟨fW 52 _ (by unfold AcS; omega), fW 53 _ (by unfold AcS; omega)⟩⟩)
  obtain ⟨hk0, C, B, hP, hDU, hDP, h24, h20⟩ := hD
  obtain ⟨-, -, h3, hR2⟩ := rStmt_t hs
  obtain ⟨r1, r2, r3⟩ := hRd
  have eτ : ∀ j, 0 ≤ j → j < 128 → okT (w 38 j) := fun j j0 j1 => by rw [fw 38 j (by unfold SAc; omega)]; exact hτ j j0 j1
  rcases hMe with ⟨s1, -⟩ | ⟨-, C', B', hP', hMR⟩
  · exact absurd s1 hk0
  rcases r3 with ⟨s2, -⟩ | ⟨-, C2, B2, hP2, q1, q2, q3, q4, q5, q6, -⟩
  · exact absurd s2 hk0
  obtain ⟨e1, e2⟩ := SelP_u hP' hP
  obtain ⟨e3, e4⟩ := SelP_u hP2 hP
  subst e1
  subst e2
  subst e3
  subst e4
  obtain ⟨hF, hq3, hoff⟩ := FmSel_of hP
  obtain ⟨vM, f1, f2, f3, -, f5, -, hFM, f8, -⟩ := hMR
  obtain ⟨⟨⟨c1, c2⟩, b1, b2⟩, hRP, -, hBP, -, hSel, hSel1⟩ := id hP
  have hno : ∀ k p, ¬ NAct b n W vM T C2 B2 (fun c => qN b n 3 c.toNat) (fun c => qN b n 3 c.toNat + 2) (qN b n 3 C2 + 2 * B2 - 1 + 1) ((rForm b n 3 (qN b n 3 C2 + 2 * B2 - 1 + 1)).2 + 1) k p := by
    rcases hFM with ⟨-, -, z⟩ | ⟨z, -⟩
    · exact z
    · exact absurd h25 z
  have h261 : ¬ tK b n 0 = 261 := fun z => hk0 (if_pos z)
  have hb : (rBody b n 2).2 = (rWhere b n (qN b n 3 C2 + 2 * B2 - 1)).2 := by
    have : rBody b n 2 = rSelect b n 2 := if_neg h261
    rw [this, hSel]
  have hsk := (sK_bd b n).1
  have hW50 : 0 < W 50 T := by rw [r1]; omega
  have g : ∀ r j, ¬ (r = 47 ∨ r = 55) → vM r j = W r j := fun r j q => f1 r j (by unfold MBs FTs; omega)
  have g0 : vM 47 0 = W 47 0 := f1 47 0 (by unfold MBs FTs; omega)
  have gV : ∀ r j, (r = 48 ∨ r = 49 ∨ r = 50 ∨ r = 51 ∨ r = 52 ∨ r = 54 ∨ (60 ≤ r ∧ r ≤ 67)) → V r j = W r j := fun r j q => fV r j (by unfold MeS MBs MTs FTs TYs; omega)
  have hl2 : LkR X w vM cC := hlw.fr (S := fun _ _ => False) hTO hTC (fun _ _ _ => rfl) (fun _ _ _ z => z) g0 (fun t => g 48 t (by omega)) (fun t t0 t1 => ⟨g 49 t (by omega), g 51 t (by omega), fun c c0 c1 => ⟨g 52 _ (by omega), g 53 _ (by omega)⟩⟩)
  have etN : ∀ x, tN vM x = tN W x := fun x => tN_eqv g0 (fun t => g 48 t (by omega)) (fun t _ _ => g 49 t (by omega))
  have hwr : ∀ k : Int, 0 ≤ k → k < B2 → W 70 k = tW b n (qN b n 3 C2 + 2 * k) ∧ W 71 k = tS b n (qN b n 3 C2 + 2 * k) ∧ WR (tW b n (qN b n 3 C2 + 2 * k)) (nm32 b n (qN b n 3 C2 + 2 * k)) := fun k k0 k1 => by
    obtain ⟨z1, z2⟩ := q5 k.toNat (by omega)
    obtain ⟨z3, z4, -⟩ := hBP k.toNat (by omega)
    rw [Int.toNat_of_nonneg k0] at z1 z2 z3 z4
    exact ⟨z1, z2, (WR_tok hX z3 z4).1⟩
  have hB : BhR b n T B2 (fun i => qN b n 3 C2 + 2 * i) vM := ⟨(g 54 T (by omega)).trans q2, fun k k0 k1 => by
    obtain ⟨z1, z2, z3⟩ := hwr k k0 k1
    refine ⟨(g 70 k (by omega)).trans z1, (g 71 k (by omega)).trans z2, ?_, z3⟩
    rw [etN, ← z1]
    exact f2 k k0 k1⟩
  have hW66 : tK b n (qN b n 3 C2 + 2 * B2 - 1) = 265 → 0 < W 66 (8 * T + 7) := fun hk => by
    obtain ⟨-, -, z1, -, -, z2, z3⟩ := q6.2 hk
    rw [z2]
    have := rForm_lt z1
    have := rForm_lt z3
    omega
  have hmiss : ∀ r, rfL b n C2 (qN b n 3 C2 + 2 * B2 - 1) r → ∀ p, ¬ miss b n vM T r p := fun r hr p hm => by
    rcases hr with ⟨c, hc, hr⟩ | ⟨hk, hr | hr⟩
    · refine hno 2 p (Or.inl (Or.inr ⟨hW50, (c : Int), by omega, by omega, Or.inr ⟨rfl, r, ?_, hm⟩⟩))
      show rfF b n 3 (qN b n 3 ((c : Int)).toNat + 2) r
      rw [Int.toNat_natCast]; exact hr
    · exact hno 2 p (Or.inr ⟨hW66 hk, Or.inl (Or.inl (Or.inr ⟨rfl, r, hr, hm⟩))⟩)
    · exact hno 2 p (Or.inr ⟨hW66 hk, Or.inl (Or.inr (Or.inr ⟨rfl, r, hr, hm⟩))⟩)
  -- a name dot name finds its column
  have href : ∀ r, rfL b n C2 (qN b n 3 C2 + 2 * B2 - 1) r → isT vm (qOf vM T (tW b n r)) ∧ 0 ≤ cOf vM (qOf vM T (tW b n r)) (tW b n (r + 2)) ∧ cOf vM (qOf vM T (tW b n r)) (tW b n (r + 2)) < vm 51 (qOf vM T (tW b n r)) := fun r hr => by
    have hOK := rfL_ok hX hF hr
    obtain ⟨y1, y2⟩ := qOf_nth hl2 hB hOK.1
    by_cases hm : nth b n (fun i => qN b n 3 C2 + 2 * i) B2 (nm32 b n r) = -1
    · exact absurd (Or.inl ⟨(y1 hm).1, (y1 hm).2, rfl⟩) (hmiss r hr (tS b n r))
    · obtain ⟨y3, -⟩ := y2 hm
      rcases nth_fst (b := b) (n := n) (ct := fun i => qN b n 3 C2 + 2 * i) (B := B2) (w := nm32 b n r) with ⟨z, -⟩ | ⟨z0, z1, -⟩
      · exact absurd z hm
      have hq : isT vm (qOf vM T (tW b n r)) := by
        rw [y3, ← h24 _ z0 z1]
        exact hDU.2.2.2.2.2.2.2.2.2.2 _ z0 z1
      have hc : ¬ cOf vM (qOf vM T (tW b n r)) (tW b n (r + 2)) = -1 := fun z => hmiss r hr (tS b n (r + 2)) (Or.inr ⟨by have := hq.1; omega, z, rfl⟩)
      have e51 : vM 51 (qOf vM T (tW b n r)) = vm 51 (qOf vM T (tW b n r)) := (g 51 _ (by omega)).trans (fW 51 _ (by have := hq.2.1; unfold AcS; omega))
      have h51 := h.2.1.1.2.1 _ hq.1 hq.2.1
      obtain ⟨-, -, h51', -⟩ := h51
      refine ⟨hq, ?_⟩
      generalize qOf vM T (tW b n r) = q at *
      have hsp := fst1_spec (fun c => vM 52 (8 * q + c) = tW b n (r + 2)) (vM 51 q).toNat
      have ec : cOf vM q (tW b n (r + 2)) = fst1 (fun c => vM 52 (8 * q + c) = tW b n (r + 2)) (vM 51 q).toNat := rfl
      rw [← ec] at hsp
      rcases hsp with ⟨z, -⟩ | ⟨x0, x1, -⟩
      · exact absurd z hc
      · exact ⟨x0, by omega⟩
  have hRT : ∀ r, rfL b n C2 (qN b n 3 C2 + 2 * B2 - 1) r → okN (RT b n vM T r) := fun r hr => by
    obtain ⟨x1, x2, x3⟩ := href r hr
    unfold RT refTy
    have hlt := x1.2.1
    have hge : 0 ≤ qOf vM T (tW b n r) := x1.1
    rw [if_neg (show ¬ vM 47 52 = 0 by rw [f3]; decide), if_neg (show ¬ qOf vM T (tW b n r) = -1 by omega), if_neg (show ¬ cOf vM (qOf vM T (tW b n r)) (tW b n (r + 2)) = -1 by omega)]
    have h51 := h.2.1.1.2.1 _ x1.1 x1.2.1
    obtain ⟨-, -, h51', -⟩ := h51
    rw [g 53 _ (by omega), fW 53 _ (by unfold AcS; omega)]
    exact hokN _ _ ⟨x1, x2, x3⟩
  have ht := fun c : Int => fun (c0 : 0 ≤ c) (cl : c < C2) => f8 hW50 c c0 cl
  have e54 : V 54 T = vM 54 T := (gV 54 T (by omega)).trans (g 54 T (by omega)).symm
  have e55 : ∀ k, 0 ≤ k → k < vM 54 T → V 55 (3 * T + k) = vM 55 (3 * T + k) := fun k k0 k1 => by
    rw [hB.1] at k1
    rw [f5 k k0 k1, f2 k k0 k1]
  have e49 : ∀ s, V 49 s = vM 49 s := fun s => (gV 49 s (by omega)).trans (g 49 s (by omega)).symm
  have e51 : ∀ s, V 51 s = vM 51 s := fun s => (gV 51 s (by omega)).trans (g 51 s (by omega)).symm
  have e52 : ∀ s, V 52 s = vM 52 s := fun s => (gV 52 s (by omega)).trans (g 52 s (by omega)).symm
  have up : ∀ c : Nat, c ≤ C2 → qN b n 3 c + 4 * ((C2 - c : Nat) : Int) ≤ qN b n 3 C2 := fun c h2 => by
    have := qN_up (fun c hc => (hF.1 c hc).2) (C2 - c) c (by omega)
    rw [show c + (C2 - c) = C2 by omega] at this
    exact this
  have hend : qN b n 3 C2 + 2 * B2 - 1 ≤ (rWhere b n (qN b n 3 C2 + 2 * B2 - 1)).2 ∧ (tK b n (qN b n 3 C2 + 2 * B2 - 1) = 265 → (rWhere b n (qN b n 3 C2 + 2 * B2 - 1)).2 = (rForm b n 3 ((rForm b n 3 (qN b n 3 C2 + 2 * B2 - 1 + 1)).2 + 1)).2) := by
    by_cases hk : tK b n (qN b n 3 C2 + 2 * B2 - 1) = 265
    · obtain ⟨w1', w2', w3'⟩ := hF.2.2 hk
      have eW : rWhere b n (qN b n 3 C2 + 2 * B2 - 1) = rForm b n 3 ((rForm b n 3 (qN b n 3 C2 + 2 * B2 - 1 + 1)).2 + 1) := by
        rw [rWhere_y hk, rThen_t w1']; exact if_pos w2'
      have := rForm_lt w1'
      have := rForm_lt w3'
      rw [eW]
      exact ⟨by omega, fun _ => rfl⟩
    · have eW : rWhere b n (qN b n 3 C2 + 2 * B2 - 1) = (true, qN b n 3 C2 + 2 * B2 - 1) := if_neg hk
      rw [eW]
      exact ⟨Int.le_refl _, fun z => absurd z hk⟩
  -- a formula of the new table
  have hfm : ∀ f a : Int, W 65 (8 * T + f) = a → 0 ≤ a → (rForm b n 3 a).1 = true → W 66 (8 * T + f) = (rForm b n 3 a).2 → (rForm b n 3 a).2 < A → (∀ k, rfF b n 3 a k → rfL b n C2 (qN b n 3 C2 + 2 * B2 - 1) k) → FmOK b n T V f := fun f a a1 a2 a3 a4 a5 a6 => by
    unfold FmOK
    rw [gV 65 _ (by omega), gV 66 _ (by omega), gV 60 _ (by omega), a1, a4, hA0]
    refine ⟨a2, a3, rfl, a5, fun k hk => ?_⟩
    obtain ⟨x1, x2, x3⟩ := href k (a6 k hk)
    rw [qOf_cg e54 e55 e49, cOf_cg (e51 _) e52]
    have hlt := x1.2.1
    refine ⟨⟨x1.1, by omega, ?_⟩, x2, ?_⟩
    · rw [gV 48 _ (by omega), fW 48 _ (by unfold AcS; omega)]; exact x1.2.2
    · rw [gV 51 _ (by omega), fW 51 _ (by unfold AcS; omega)]; exact x3
  refine ⟨C2, B2, hP, hDU, ⟨(gV 50 T (by omega)).trans r1, (gV 51 T (by omega)).trans q1, (gV 54 T (by omega)).trans q2, (gV 49 T (by omega)).trans r2, (gV 60 T (by omega)).trans hA0, (gV 67 T (by omega)).trans q3⟩, fun c c0 cl => ⟨?_, ?_, ?_⟩, fun k k0 k1 => ?_, ⟨fun c hc => ?_, by omega, ?_⟩, fun f f0 f6 => ?_, ?_, fun f hf => ?_, ?_⟩
  · obtain ⟨z1, -, -⟩ := q4 c.toNat (by omega)
    rw [Int.toNat_of_nonneg c0] at z1
    exact (gV 52 _ (by omega)).trans z1
  · rw [ht c c0 cl, h20 c c0 cl]
    have eL : LLs b n C2 (qN b n 3 C2 + 2 * B2 - 1) (refC X w cC b n (fun i => qN b n 3 C2 + 2 * i) B2) c = (emF b n 3 (qN b n 3 c.toNat + 2)).map (rs (refC X w cC b n (fun i => qN b n 3 C2 + 2 * i) B2)) := if_pos cl
    obtain ⟨z1, z2⟩ := hF.1 c.toNat (by omega)
    rw [eL, (ty_part hX (refC_okU hTC eτ) z1 z2).1]
    exact (tyF_cg (fun k hk => tyU_RT hl2 hTC hB (by rw [f3]; decide) (rfL_ok hX hF (Or.inl ⟨c.toNat, by omega, hk⟩)))).symm
  · rw [ht c c0 cl]
    exact tyF_okN (fun r hr => hRT r (Or.inl ⟨c.toNat, by omega, hr⟩)) (fun p hp => hno 3 p (Or.inl (Or.inr ⟨hW50, c, c0, cl, Or.inl ⟨rfl, hp⟩⟩)))
  · rw [f5 k k0 k1, h24 k k0 k1, (hwr k k0 k1).1]
    exact (tC_tN hlw (hwr k k0 k1).2.2).symm
  · rw [gV 65 _ (by omega)]; exact (q4 c hc).2.1
  · unfold WhF at q6 ⊢
    rw [gV 65 _ (by omega), gV 66 _ (by omega), gV 65 _ (by omega), gV 66 _ (by omega)]
    exact q6
  · rw [refU_cg e54 e55 e49 e51 e52, ← LLs_cg hF (fun r hr => refC_refU hl2 hB (rfL_ok hX hF hr) (hmiss r hr)) f0]
    exact (hDP f f0 f6).1
  · exact hK.fr fV (fun j => ⟨by unfold MeS MBs MTs FTs TYs; omega, by unfold MeS MBs MTs FTs TYs; omega, by unfold MeS MBs MTs FTs TYs; omega, by unfold MeS MBs MTs FTs TYs; omega⟩)
  · unfold PF at hf
    rw [gV 51 T (by omega), gV 66 _ (by omega), q1] at hf
    rcases hf with ⟨f0, fl⟩ | ⟨hf, h66⟩
    · obtain ⟨z1, z2, z3⟩ := q4 f.toNat (by omega)
      rw [Int.toNat_of_nonneg f0] at z2 z3
      obtain ⟨x1, x2⟩ := hF.1 f.toNat (by omega)
      have hqs : qN b n 3 (f.toNat + 1) = (rForm b n 3 (qN b n 3 f.toNat + 2)).2 + 1 := rfl
      have := up (f.toNat + 1) (by omega)
      exact hfm f _ z2 x1 x2 z3 (by omega) (fun k hk => Or.inl ⟨f.toNat, by omega, hk⟩)
    · have hk : tK b n (qN b n 3 C2 + 2 * B2 - 1) = 265 := by
        by_cases hk : tK b n (qN b n 3 C2 + 2 * B2 - 1) = 265
        · exact hk
        · have := (q6.1 hk).2.2.2; omega
      obtain ⟨z1, z2, z3, -, z5, z6, z7⟩ := q6.2 hk
      have l1 := rForm_lt z3
      have l2 := rForm_lt z7
      have l3 := hend.2 hk
      rcases hf with rfl | rfl
      · exact hfm 6 _ z1 (by omega) z3 z2 (by omega) (fun k hk2 => Or.inr ⟨hk, Or.inl hk2⟩)
      · exact hfm 7 _ z5 (by omega) z7 z6 (by omega) (fun k hk2 => Or.inr ⟨hk, Or.inr hk2⟩)
  · -- the types
    have hRV : ∀ r, rfL b n C2 (qN b n 3 C2 + 2 * B2 - 1) r → Rt (fun _ => (b, n)) V (V 53) T r = RT b n vM T r := fun r hr => by
      obtain ⟨x1, x2, x3⟩ := href r hr
      have hlt := x1.2.1
      have hge : 0 ≤ qOf vM T (tW b n r) := x1.1
      have h51 := h.2.1.1.2.1 _ x1.1 x1.2.1
      obtain ⟨-, -, h51', -⟩ := h51
      unfold Rt RT refTy
      show V 53 (uAt b n V T r) = _
      rw [if_neg (show ¬ vM 47 52 = 0 by rw [f3]; decide), if_neg (show ¬ qOf vM T (tW b n r) = -1 by omega), if_neg (show ¬ cOf vM (qOf vM T (tW b n r)) (tW b n (r + 2)) = -1 by omega)]
      unfold uAt
      rw [qOf_cg e54 e55 e49, cOf_cg (e51 _) e52, g 53 _ (by omega)]
      exact fV 53 _ (by unfold MeS MBs MTs FTs TYs; omega)
    refine ⟨fun c c0 c1 => ?_, ?_⟩
    · rw [gV 51 T (by omega), q1] at c1
      obtain ⟨-, z2, -⟩ := q4 c.toNat (by omega)
      rw [Int.toNat_of_nonneg c0] at z2
      have hr : ∀ k, rfF b n 3 (qN b n 3 c.toNat + 2) k → Rt (fun _ => (b, n)) V (V 53) T k = RT b n vM T k := fun k hk => hRV k (Or.inl ⟨c.toNat, by omega, hk⟩)
      refine ⟨?_, ?_⟩
      · rintro ⟨p, hp⟩
        have hp' : erF b n (Rt (fun _ => (b, n)) V (V 53) T) 3 (V 65 (8 * T + c)) p := hp
        rw [gV 65 _ (by omega), z2] at hp'
        exact hno 3 p (Or.inl (Or.inr ⟨hW50, c, c0, c1, Or.inl ⟨rfl, (erF_cg hr).mp hp'⟩⟩))
      · show tyF b n (Rt (fun _ => (b, n)) V (V 53) T) 3 (V 65 (8 * T + c)) = _
        rw [gV 65 _ (by omega), z2, ht c c0 c1]
        exact tyF_cg hr
    · rintro ⟨z0, z⟩
      rw [gV 66 _ (by omega)] at z0
      have hk : tK b n (qN b n 3 C2 + 2 * B2 - 1) = 265 := by
        by_cases hk : tK b n (qN b n 3 C2 + 2 * B2 - 1) = 265
        · exact hk
        · have := (q6.1 hk).2.2.2; omega
      obtain ⟨z1, -, -, -, z5, -, -⟩ := q6.2 hk
      have hr6 : ∀ k, rfF b n 3 (qN b n 3 C2 + 2 * B2 - 1 + 1) k → Rt (fun _ => (b, n)) V (V 53) T k = RT b n vM T k := fun k hk2 => hRV k (Or.inr ⟨hk, Or.inl hk2⟩)
      have hr7 : ∀ k, rfF b n 3 ((rForm b n 3 (qN b n 3 C2 + 2 * B2 - 1 + 1)).2 + 1) k → Rt (fun _ => (b, n)) V (V 53) T k = RT b n vM T k := fun k hk2 => hRV k (Or.inr ⟨hk, Or.inr hk2⟩)
      have n6 : ∀ p, ¬ erF b n (RT b n vM T) 3 (qN b n 3 C2 + 2 * B2 - 1 + 1) p := fun p hp => hno 3 p (Or.inr ⟨z0, Or.inl (Or.inl (Or.inl ⟨rfl, hp⟩))⟩)
      have n7 : ∀ p, ¬ erF b n (RT b n vM T) 3 ((rForm b n 3 (qN b n 3 C2 + 2 * B2 - 1 + 1)).2 + 1) p := fun p hp => hno 3 p (Or.inr ⟨z0, Or.inl (Or.inr (Or.inl ⟨rfl, hp⟩))⟩)
      rcases z with ⟨p, hp⟩ | ⟨p, hp⟩ | z
      · have hp' : erF b n (Rt (fun _ => (b, n)) V (V 53) T) 3 (V 65 (8 * T + 6)) p := hp
        rw [gV 65 _ (by omega), z1] at hp'
        exact n6 p ((erF_cg hr6).mp hp')
      · have hp' : erF b n (Rt (fun _ => (b, n)) V (V 53) T) 3 (V 65 (8 * T + 7)) p := hp
        rw [gV 65 _ (by omega), z5] at hp'
        exact n7 p ((erF_cg hr7).mp hp')
      · have z' : ¬ tyF b n (Rt (fun _ => (b, n)) V (V 53) T) 3 (V 65 (8 * T + 6)) = tyF b n (Rt (fun _ => (b, n)) V (V 53) T) 3 (V 65 (8 * T + 7)) := z
        rw [gV 65 _ (by omega), gV 65 _ (by omega), z1, z5, tyF_cg hr6, tyF_cg hr7] at z'
        have t6 := tyF_okN (fun r hr => hRT r (Or.inr ⟨hk, Or.inl hr⟩)) n6
        have t7 := tyF_okN (fun r hr => hRT r (Or.inr ⟨hk, Or.inr hr⟩)) n7
        exact hno 3 (vM 47 42) (Or.inr ⟨z0, Or.inr ⟨rfl, by unfold okN at t6; omega, by unfold okN at t7; omega, z', rfl⟩⟩)
