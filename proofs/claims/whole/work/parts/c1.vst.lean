/-! ===== a table more: the ages ===== -/
theorem ag_cg {v V : VV} {T : Int} (hb : v 47 0 ≤ 16) (hM : MT v) (hb' : V 47 0 ≤ 16) (hM' : MT V) (hT : T ≤ v 47 0) (hT' : T ≤ V 47 0) (h : ∀ t, 0 ≤ t → t < T → (V 50 t = v 50 t ∧ V 54 t = v 54 t ∧ V 58 t = v 58 t ∧ V 59 t = v 59 t) ∧ ∀ k, 0 ≤ k → k < v 54 t → V 55 (3 * t + k) = v 55 (3 * t + k)) : ∀ (m : Nat) (t : Int), 0 ≤ t → t < T → t.toNat < m → ag V t = ag v t
  | 0, _, _, _, hm => absurd hm (Nat.not_lt_zero _)
  | m + 1, t, t0, t1, hm => by
    obtain ⟨⟨e50, e54, e58, e59⟩, e55⟩ := h t t0 t1
    rw [ag_eq hb' hM' t t0 (by omega), ag_eq hb hM t t0 (by omega), e50, e58, e59]
    obtain ⟨-, -, -, m4, m5, -⟩ := hM t t0 (by omega)
    by_cases z : v 50 t = 1
    · rw [if_pos z, if_pos z]
      refine agB_congr m4.1 e54 e55 (fun k k0 k1 => ?_)
      obtain ⟨q0, q1, -⟩ := m5 k k0 k1
      exact ag_cg hb hM hb' hM' hT hT' h m _ q0 (by omega) (by omega)
    · rw [if_neg z, if_neg z]
/-- the reference's tables with one more -/
def vst (v : VV) (T kd C B : Int) (bh : Int → Int) : VV := fun r j => if r = 47 ∧ j = 0 then T + 1 else if r = 48 ∧ j = T then 1 else if r = 50 ∧ j = T then kd else if r = 51 ∧ j = T then C else if r = 54 ∧ j = T then B else if r = 55 ∧ 3 * T ≤ j then bh (j - 3 * T) else if (56 ≤ r ∧ r ≤ 59) ∧ j = T then -1 else v r j
theorem vst_n {v : VV} {T kd C B r j : Int} {bh : Int → Int} (h0 : ¬ (r = 47 ∧ j = 0)) (h1 : ¬ (r = 55 ∧ 3 * T ≤ j)) (h2 : ¬ ((r = 48 ∨ r = 50 ∨ r = 51 ∨ r = 54 ∨ (56 ≤ r ∧ r ≤ 59)) ∧ j = T)) : vst v T kd C B bh r j = v r j := by
  unfold vst
  rw [if_neg h0, if_neg (by omega), if_neg (by omega), if_neg (by omega), if_neg (by omega), if_neg h1, if_neg (by omega)]
theorem vst_T {v : VV} {T kd C B : Int} {bh : Int → Int} : vst v T kd C B bh 47 0 = T + 1 ∧ vst v T kd C B bh 48 T = 1 ∧ vst v T kd C B bh 50 T = kd ∧ vst v T kd C B bh 51 T = C ∧ vst v T kd C B bh 54 T = B ∧ (∀ k, 0 ≤ k → vst v T kd C B bh 55 (3 * T + k) = bh k) ∧ (vst v T kd C B bh 56 T = -1 ∧ vst v T kd C B bh 57 T = -1 ∧ vst v T kd C B bh 58 T = -1 ∧ vst v T kd C B bh 59 T = -1) := by
  have last : ∀ r : Int, 56 ≤ r → r ≤ 59 → vst v T kd C B bh r T = -1 := fun r r0 r1 => by
    unfold vst
    rw [if_neg (by omega), if_neg (by omega), if_neg (by omega), if_neg (by omega), if_neg (by omega), if_neg (by omega), if_pos ⟨⟨r0, r1⟩, rfl⟩]
  refine ⟨if_pos ⟨rfl, rfl⟩, ?_, ?_, ?_, ?_, fun k k0 => ?_, last 56 (by decide) (by decide), last 57 (by decide) (by decide), last 58 (by decide) (by decide), last 59 (by decide) (by decide)⟩
  · unfold vst; rw [if_neg (by omega), if_pos ⟨rfl, rfl⟩]
  · unfold vst; rw [if_neg (by omega), if_neg (by omega), if_pos ⟨rfl, rfl⟩]
  · unfold vst; rw [if_neg (by omega), if_neg (by omega), if_neg (by omega), if_pos ⟨rfl, rfl⟩]
  · unfold vst; rw [if_neg (by omega), if_neg (by omega), if_neg (by omega), if_neg (by omega), if_pos ⟨rfl, rfl⟩]
  · unfold vst; rw [if_neg (by omega), if_neg (by omega), if_neg (by omega), if_neg (by omega), if_neg (by omega), if_pos ⟨rfl, by omega⟩, show 3 * T + k - 3 * T = k by omega]
theorem vst_MT {v : VV} {T kd C B : Int} {bh : Int → Int} (hM : MT v) (h0 : v 47 0 = T) (hT : 0 ≤ T) (hkd : 0 ≤ kd ∧ kd ≤ 2) (hC : 1 ≤ C ∧ C ≤ 6) (hB : 0 ≤ B ∧ B ≤ 3) (hk0 : kd = 0 → B = 0) (hk1 : ¬ kd = 0 → 1 ≤ B) (hbh : ∀ k, 0 ≤ k → k < B → isT v (bh k)) : MT (vst v T kd C B bh) := fun t t0 t1 => by
  obtain ⟨a0, a48, a50, a51, a54, a55, a56, a57, a58, a59⟩ := vst_T (v := v) (T := T) (kd := kd) (C := C) (B := B) (bh := bh)
  rw [a0] at t1
  unfold MTt
  by_cases z : t = T
  · rw [z, a48, a50, a51, a54, a56, a57, a58, a59]
    refine ⟨Or.inr rfl, ⟨hkd.1, by omega⟩, hC, hB, fun k k0 k1 => ?_, fun y => hk0 (by omega), fun y => hk1 (by omega), by decide, by decide, Or.inl ⟨rfl, rfl⟩⟩
    rw [a55 k k0]
    obtain ⟨b0, b1, b2⟩ := hbh k k0 k1
    rw [vst_n (by omega) (by omega) (by omega)]
    obtain ⟨m1, -⟩ := hM _ b0 b1
    exact ⟨b0, by omega, fun _ => m1.elim (fun y => absurd y b2) id⟩
  · have hm := hM t t0 (by omega)
    unfold MTt at hm
    rw [vst_n (r := 48) (by omega) (by omega) (by omega), vst_n (r := 50) (by omega) (by omega) (by omega), vst_n (r := 51) (by omega) (by omega) (by omega), vst_n (r := 54) (by omega) (by omega) (by omega), vst_n (r := 56) (by omega) (by omega) (by omega), vst_n (r := 57) (by omega) (by omega) (by omega), vst_n (r := 58) (by omega) (by omega) (by omega), vst_n (r := 59) (by omega) (by omega) (by omega)]
    obtain ⟨m1, m2, m3, m4, m5, m6⟩ := hm
    refine ⟨m1, m2, m3, m4, fun k k0 k1 => ?_, m6⟩
    obtain ⟨q0, q1, q2⟩ := m5 k k0 k1
    rw [vst_n (r := 55) (by omega) (by omega) (by omega), vst_n (r := 48) (by omega) (by omega) (by omega)]
    exact ⟨q0, q1, q2⟩
theorem vst_ag {v : VV} {T kd C B : Int} {bh : Int → Int} (hM : MT v) (h0 : v 47 0 = T) (hT : 0 ≤ T ∧ T < 16) (hM' : MT (vst v T kd C B bh)) {t : Int} (t0 : 0 ≤ t) (t1 : t < T) : ag (vst v T kd C B bh) t = ag v t := by
  have a0 := (vst_T (v := v) (T := T) (kd := kd) (C := C) (B := B) (bh := bh)).1
  refine ag_cg (T := T) (by omega) hM (by omega) hM' (by omega) (by omega) (fun s s0 s1 => ⟨⟨vst_n (by omega) (by omega) (by omega), vst_n (by omega) (by omega) (by omega), vst_n (by omega) (by omega) (by omega), vst_n (by omega) (by omega) (by omega)⟩, fun k k0 k1 => ?_⟩) 17 t t0 t1 (by omega)
  obtain ⟨-, -, -, m4, -⟩ := hM s s0 (by omega)
  exact vst_n (by omega) (by omega) (by omega)
/-- what settling reads of a table -/
def TabL (X : XX) (v vm : VV) (t o : Int) : Prop := ∃ B I W C : Nat, (TabS X o C B I W ∧ B ≤ 3) ∧ v o 5 = vm 50 t ∧ (v (o + 2) 1 = vm 54 t ∧ 0 ≤ vm 54 t ∧ vm 54 t ≤ B) ∧ ∀ k, 0 ≤ k → k < vm 54 t → v (o + 3) k = vm 55 (3 * t + k)
theorem TabL.ag {X : XX} {vc w vm : VV} {t : Int} (h : TabL X vc vm t (X.2 37 t)) (hD : Dsj X) (ht : (0 ≤ t ∧ t < 16) ∧ ¬ X.2 37 t = -1) (hf : Fr (SAg X) vc w) : TabL X w vm t (X.2 37 t) := by
  have hc : ∀ r j, X.2 37 t ≤ r → r < X.2 37 t + 13 → ¬ (r = X.2 37 t ∧ (j = 6 ∨ j = 7)) → w r j = vc r j := fun r j r0 r1 hn => hf r j (fun ⟨⟨s, s0, s1, s2, e⟩, hj⟩ => by
    by_cases z : s = t
    · rw [z] at e; exact hn ⟨e, hj⟩
    · have := hD.ne ⟨s0, s1⟩ ht.1 s2 ht.2 z
      omega)
  obtain ⟨B, I, W, C, h1, h2, ⟨h3, h4⟩, h5⟩ := h
  refine ⟨B, I, W, C, h1, by rw [hc _ _ (by omega) (by omega) (by omega)]; exact h2, ⟨by rw [hc _ _ (by omega) (by omega) (by omega)]; exact h3, h4⟩, fun k k0 k1 => ?_⟩
  rw [hc _ _ (by omega) (by omega) (by omega)]
  exact h5 k k0 k1
set_option maxRecDepth 100000 in
set_option maxHeartbeats 4000000 in
theorem k_settleL {X : XX} {v vm : VV} (hW : SW X) (hTO : TObj X) (hD : Dsj X) (hb : vm 47 0 ≤ 16) (hM : MT vm) (hlv : ∀ t, 0 ≤ t → t < 16 → ((t < vm 47 0 ∧ ¬ vm 48 t = 0) ↔ ¬ X.2 37 t = -1)) (hN : ∀ t, 0 ≤ t → t < 16 → ¬ X.2 37 t = -1 → TabL X v vm t (X.2 37 t)) (h0 : ∀ t, 0 ≤ t → t < 16 → ¬ X.2 37 t = -1 → ¬ vm 50 t = 1 → v (X.2 37 t) 6 = (ag vm t).1 ∧ v (X.2 37 t) 7 = (ag vm t).2) (h1 : ∀ t, 0 ≤ t → t < 16 → ¬ X.2 37 t = -1 → vm 50 t = 1 → (ag vm t).2 = -1 → v (X.2 37 t) 6 = -1 ∧ v (X.2 37 t) 7 = -1) : CX mX10_settleViews 2 [(2, 0)] X v (fun _ v1 => Fr (SAg X) v v1 ∧ ∀ t, 0 ≤ t → t < 16 → ¬ X.2 37 t = -1 → v1 (X.2 37 t) 6 = (ag vm t).1 ∧ v1 (X.2 37 t) 7 = (ag vm t).2) := by
  have key : ∀ (x : Int) (V : VV), (0 ≤ x ∧ x ≤ 16) → Fr (SAg X) v V → (∀ t, 0 ≤ t → t < 16 → ¬ X.2 37 t = -1 → (t < x ∨ ¬ vm 50 t = 1) → V (X.2 37 t) 6 = (ag vm t).1 ∧ V (X.2 37 t) 7 = (ag vm t).2) → (∀ t, x ≤ t → t < 16 → ¬ X.2 37 t = -1 → V (X.2 37 t) 6 = v (X.2 37 t) 6 ∧ V (X.2 37 t) 7 = v (X.2 37 t) 7) → Ex mX10_settleViews 2 2 [(2, 0), (0, x), (3, 0)] [] X V 0 0 (fun _ X1 v1 => X1 = X ∧ Fr (SAg X) v v1 ∧ ∀ t, 0 ≤ t → t < 16 → ¬ X.2 37 t = -1 → v1 (X.2 37 t) 6 = (ag vm t).1 ∧ v1 (X.2 37 t) 7 = (ag vm t).2) := by
    refine loop2 (fun (x : Int) (_ : VV) => (16 - x).toNat) (fun (x : Int) (V : VV) => (0 ≤ x ∧ x ≤ 16) → Fr (SAg X) v V → (∀ t, 0 ≤ t → t < 16 → ¬ X.2 37 t = -1 → (t < x ∨ ¬ vm 50 t = 1) → V (X.2 37 t) 6 = (ag vm t).1 ∧ V (X.2 37 t) 7 = (ag vm t).2) → (∀ t, x ≤ t → t < 16 → ¬ X.2 37 t = -1 → V (X.2 37 t) 6 = v (X.2 37 t) 6 ∧ V (X.2 37 t) 7 = v (X.2 37 t) 7) → Ex mX10_settleViews 2 2 [(2, 0), (0, x), (3, 0)] [] X V 0 0 (fun _ X1 v1 => X1 = X ∧ Fr (SAg X) v v1 ∧ ∀ t, 0 ≤ t → t < 16 → ¬ X.2 37 t = -1 → v1 (X.2 37 t) 6 = (ag vm t).1 ∧ v1 (X.2 37 t) 7 = (ag vm t).2)) (fun x V ih => ?_)
    intro hx hf hA hB
    -- on, when nothing is done at x
    have skip : ∀ W, W = V → (¬ X.2 37 x = -1 → vm 50 x = 1 → V (X.2 37 x) 6 = (ag vm x).1 ∧ V (X.2 37 x) 7 = (ag vm x).2) → x < 16 → i32 (x + 1) ∧ Ex mX10_settleViews 2 2 [(2, 0), (0, x + 1), (3, 0)] [] X W 0 0 (fun _ X1 v1 => X1 = X ∧ Fr (SAg X) v v1 ∧ ∀ t, 0 ≤ t → t < 16 → ¬ X.2 37 t = -1 → v1 (X.2 37 t) 6 = (ag vm t).1 ∧ v1 (X.2 37 t) 7 = (ag vm t).2) := fun W hWV hx1 hx2 => by
      subst hWV
      refine ⟨⟨by omega, by omega⟩, ih (x + 1) W (by omega) ⟨by omega, by omega⟩ hf (fun t t0 t1 t2 t3 => ?_) (fun t t0 t1 t2 => hB t (by omega) t1 t2)⟩
      by_cases z : t = x
      · rw [z] at t2 t3 ⊢
        by_cases y : vm 50 x = 1
        · exact hx1 t2 y
        · exact hA x hx.1 hx2 t2 (Or.inr y)
      · exact hA t t0 t1 t2 (by omega)
    refine bX10_settleViews_2 x (Nat.le_refl _) hW (fun _ => ⟨fun g => ⟨rfl, hf, fun t t0 t1 t2 => hA t t0 t1 t2 (Or.inl (by omega))⟩, fun g => ⟨⟨hx.1, g⟩, fun g2 => skip V rfl (fun z => absurd g2 z) g, fun g2 => ?_⟩⟩)
    have ho := (hTO x hx.1 g).elim (fun z => absurd z g2) id
    have hNx := (hN x hx.1 g g2).ag hD ⟨⟨hx.1, g⟩, g2⟩ hf
    obtain ⟨B, I, W, C, ⟨⟨s1, s2, -, ⟨s3, s4⟩, -⟩, hB3⟩, k1, ⟨k2, k3, k4⟩, k5⟩ := hNx
    have hlx := (hlv x hx.1 g).mpr g2
    obtain ⟨m1, -, -, m4, m5, -⟩ := hM x hx.1 hlx.1
    have h48 : vm 48 x = 1 := m1.elim (fun z => absurd z hlx.2) id
    rw [k1]
    refine ⟨ho.1, ⟨by omega, ho.2.2⟩, fun g3 => skip V rfl (fun _ z => absurd z g3) g, fun g3 => ?_⟩
    have hbeh : ∀ k, 0 ≤ k → k < vm 54 x → (0 ≤ vm 55 (3 * x + k) ∧ vm 55 (3 * x + k) < x) ∧ ¬ X.2 37 (vm 55 (3 * x + k)) = -1 := fun k i0 i1 => by
      obtain ⟨a1, a2, a3⟩ := m5 k i0 i1
      refine ⟨⟨a1, a2⟩, (hlv _ a1 (by omega)).mp ⟨by omega, ?_⟩⟩
      rw [a3 h48]; decide
    have hst : ∀ k, 0 ≤ k → k < vm 54 x → V (X.2 37 (vm 55 (3 * x + k))) 6 = (ag vm (vm 55 (3 * x + k))).1 ∧ V (X.2 37 (vm 55 (3 * x + k))) 7 = (ag vm (vm 55 (3 * x + k))).2 := fun k i0 i1 => by
      obtain ⟨⟨a1, a2⟩, a3⟩ := hbeh k i0 i1
      exact hA _ a1 (by omega) a3 (Or.inl a2)
    have hage := ag_eq hb hM x hx.1 hlx.1
    rw [if_pos g3] at hage
    have hagL : agL (fun s => (V (X.2 37 s) 6, V (X.2 37 s) 7)) (fun k => vm 55 (3 * x + k)) (V (X.2 37 x + 2) 1).toNat = agL (ag vm) (fun k => vm 55 (3 * x + k)) (vm 54 x).toNat := by
      rw [k2]
      refine agL_congr _ (fun i i0 i1 => ?_)
      have := hst i i0 (by omega)
      show (V (X.2 37 (vm 55 (3 * x + i))) 6, V (X.2 37 (vm 55 (3 * x + i))) 7) = ag vm (vm 55 (3 * x + i))
      rw [this.1, this.2]
    refine ⟨_, k_takeAge (fr := fun k => vm 55 (3 * x + k)) hW hTO ⟨ho.1, by omega, ho.2.2⟩ s3 s4 ⟨by omega, by omega⟩ hB3 (fun k i0 i1 => ?_), fun r3 w4 hP => ?_⟩
    · rw [k2] at i1
      obtain ⟨⟨a1, a2⟩, a3⟩ := hbeh k i0 i1
      have a4 := hst k i0 i1
      have a5 := ag_ok hb hM 17 (vm 55 (3 * x + k)) a1 (by omega) (by omega)
      refine ⟨k5 k i0 i1, ⟨a1, by omega⟩, a3, ?_⟩
      show AgO (V (X.2 37 (vm 55 (3 * x + k))) 6, V (X.2 37 (vm 55 (3 * x + k))) 7)
      rw [a4.1, a4.2]
      exact a5
    · have m7 : 1 ≤ vm 54 x := by
        obtain ⟨-, -, -, -, -, -, m7, -⟩ := hM x hx.1 hlx.1
        exact m7 (Or.inl g3)
      rcases hP with ⟨p1, p2, -⟩ | ⟨q, q1, -, q3, -⟩
      · rcases p1 with p1 | p1
        · rw [hagL] at p1
          have hz : ag vm x = (-1, -1) := by rw [hage]; unfold agB; rw [p1]; rfl
          refine skip w4 p2 (fun _ _ => ?_) g
          rw [(hB x (Int.le_refl _) g g2).1, (hB x (Int.le_refl _) g g2).2, hz]
          exact h1 x hx.1 g g2 g3 (by rw [hz])
        · omega
      · rw [hagL] at q1
        have hz : ag vm x = q := by rw [hage]; unfold agB; rw [q1]; rfl
        refine ⟨⟨by omega, by omega⟩, ?_⟩
        have hup : ∀ r j, ¬ (r = X.2 37 x ∧ (j = 6 ∨ j = 7)) → w4 r j = V r j := fun r j hn => by
          rw [q3, upd2_n _ (by omega), upd2_n _ (by omega)]
        refine ih (x + 1) w4 (by omega) ⟨by omega, by omega⟩ (fun r j hn => ?_) (fun t t0 t1 t2 t3 => ?_) (fun t t0 t1 t2 => ?_)
        · rw [hup r j (fun z => hn ⟨⟨x, hx.1, g, g2, z.1⟩, z.2⟩)]; exact hf r j hn
        · by_cases z : t = x
          · rw [z, hz, q3]
            exact ⟨by rw [upd2_n _ (by omega), upd2_s], upd2_s _ _ _ _⟩
          · have := hD.ne ⟨t0, t1⟩ ⟨hx.1, g⟩ t2 g2 z
            rw [hup _ _ (by omega), hup _ _ (by omega)]
            exact hA t t0 t1 t2 (by omega)
        · have := hD.ne ⟨by omega, t1⟩ ⟨hx.1, g⟩ t2 g2 (by omega)
          rw [hup _ _ (by omega), hup _ _ (by omega)]
          exact hB t (by omega) t1 t2
  exact CX.of (by decide +kernel) rfl rfl rfl (bX10_settleViews_0 (Nat.le_refl _) hW (key 0 v ⟨by decide, by decide⟩ Fr.rf (fun t t0 t1 t2 t3 => h0 t t0 t1 t2 (t3.elim (fun z => by omega) id)) (fun t t0 t1 t2 => ⟨rfl, rfl⟩)))
