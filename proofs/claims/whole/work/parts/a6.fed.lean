/-! ===== ages: fed, run ===== -/
theorem agL_iff {g : Int → Int × Int} {fr : Int → Int} : ∀ n : Nat, agL g fr n = none ↔ ∃ k : Int, 0 ≤ k ∧ k < n ∧ (g (fr k)).2 = -1
  | 0 => ⟨fun h => by have h' : some ((-1 : Int), (-1 : Int)) = none := h; simp at h', fun ⟨k, k0, k1, _⟩ => by omega⟩
  | n + 1 => by
    have ih := agL_iff (g := g) (fr := fr) n
    unfold agL
    cases hn : agL g fr n with
    | none =>
      obtain ⟨k, k0, k1, k2⟩ := ih.mp hn
      exact ⟨fun _ => ⟨k, k0, by omega, k2⟩, fun _ => rfl⟩
    | some q =>
      have hno : ¬ ∃ k : Int, 0 ≤ k ∧ k < n ∧ (g (fr k)).2 = -1 := fun z => by rw [ih.mpr z] at hn; simp at hn
      by_cases hz : (g (fr n)).2 = -1
      · simp only [hz, if_true]
        exact ⟨fun _ => ⟨n, by omega, by omega, hz⟩, fun _ => trivial⟩
      · simp only [hz, if_false]
        constructor
        · intro h; simp at h
        · rintro ⟨k, k0, k1, k2⟩
          by_cases e : k = n
          · rw [e] at k2; exact absurd k2 hz
          · exact absurd ⟨k, k0, by omega, k2⟩ hno
theorem agB_no {v : VV} {g : Int → Int × Int} {t : Int} (hg : ∀ k, 0 ≤ k → k < v 54 t → AgO (g (v 55 (3 * t + k)))) (h1 : 1 ≤ v 54 t) : (agB v g t).2 = -1 ↔ ∃ k, 0 ≤ k ∧ k < v 54 t ∧ (g (v 55 (3 * t + k))).2 = -1 := by
  have hi := agL_iff (g := g) (fr := fun k => v 55 (3 * t + k)) (v 54 t).toNat
  rw [Int.toNat_of_nonneg (by omega)] at hi
  unfold agB
  cases hn : agL g (fun k => v 55 (3 * t + k)) (v 54 t).toNat with
  | none => exact ⟨fun _ => hi.mp hn, fun _ => rfl⟩
  | some q =>
    have h2 := (agL_ok _ (fun k k0 k1 => hg k k0 (by omega)) q hn).2 (by omega)
    exact ⟨fun h => absurd h h2, fun z => by rw [hi.mpr z] at hn; simp at hn⟩
/-- an age once told never goes -/
theorem ag_mono {v V : VV} (hb : v 47 0 ≤ 16) (hM : MT v) (hM' : MT V) (e0 : V 47 0 = v 47 0) (h50 : ∀ j, V 50 j = v 50 j) (h54 : ∀ j, V 54 j = v 54 j) (h55 : ∀ j, V 55 j = v 55 j) (h59 : ∀ t, ¬ v 59 t = -1 → ¬ V 59 t = -1) : ∀ (f : Nat) (t : Int), 0 ≤ t → t < v 47 0 → t.toNat < f → (ag V t).2 = -1 → (ag v t).2 = -1
  | 0, _, _, _, h => absurd h (Nat.not_lt_zero _)
  | f + 1, t, t0, t1, hf => by
    intro h
    rw [ag_eq (by rw [e0]; exact hb) hM' t t0 (by rw [e0]; exact t1), h50] at h
    rw [ag_eq hb hM t t0 t1]
    obtain ⟨-, -, -, m4, m5, -, m7, -⟩ := hM t t0 t1
    by_cases z : v 50 t = 1
    · rw [if_pos z] at h ⊢
      have n1 := m7 (Or.inl z)
      rw [agB_no (fun k k0 k1 => by
        rw [h54] at k1; rw [h55]
        obtain ⟨q0, q1, -⟩ := m5 k k0 k1
        exact ag_ok (by rw [e0]; exact hb) hM' 17 _ q0 (by rw [e0]; omega) (by omega)) (by rw [h54]; exact n1)] at h
      obtain ⟨k, k0, k1, k2⟩ := h
      rw [h54] at k1
      rw [h55] at k2
      obtain ⟨q0, q1, -⟩ := m5 k k0 k1
      rw [agB_no (fun k k0 k1 => by
        obtain ⟨q0, q1, -⟩ := m5 k k0 k1
        exact ag_ok hb hM 17 _ q0 (by omega) (by omega)) n1]
      exact ⟨k, k0, k1, ag_mono hb hM hM' e0 h50 h54 h55 h59 f _ q0 (by omega) (by omega) k2⟩
    · rw [if_neg z] at h ⊢
      by_cases y : v 59 t = -1
      · exact y
      · exact absurd h (h59 t y)
theorem SAg.tab {X : XX} {r j : Int} (h : SAg X r j) : InTab X r := by
  obtain ⟨⟨t, t0, t1, t2, rfl⟩, -⟩ := h
  exact ⟨t, ⟨t0, t1⟩, t2, Int.le_refl _, by omega⟩
/-- what is told of the tables when ages of sources and copies, and so of views, have changed -/
theorem I1.ages {G : GT} {cC : Int → Nat} {E : Int} {X : XX} {vc w v V : VV} (h : I1 G cC E X vc v) (hf : Fr (fun r _ => r = 58 ∨ r = 59) v V) (hM' : MT V) (hw : Fr (SAg X) vc w) (ha : ∀ t, 0 ≤ t → t < 16 → ¬ X.2 37 t = -1 → w (X.2 37 t) 6 = (ag V t).1 ∧ w (X.2 37 t) 7 = (ag V t).2) : I1 G cC E X w V := by
  have hD := h.dsj
  have hnm := fun s s0 s1 hl => h.nm (t := s) s0 s1 hl
  obtain ⟨h1, h2, h3, h4, h5⟩ := h
  have hO := h4.obj
  have hK := h4.col
  have hM := h2.1.2.1
  have u : ∀ r j : Int, ¬ (r = 58 ∨ r = 59) → V r j = v r j := hf
  have hSm : SmT (v 47 0) v V := SmT.fr hf (fun r j q => by omega)
  have e0 : V 47 0 = v 47 0 := u 47 0 (by omega)
  have hb' : MB V := h2.1.1.fr hf (fun j _ => by omega)
  have hTt : ∀ s, isT V s ↔ isT v s := fun s => by unfold isT; rw [e0, u 48 s (by omega)]
  have h51 : ∀ s, 0 ≤ s → s < v 47 0 → 0 ≤ v 51 s ∧ v 51 s ≤ 6 := fun s s0 s1 => by
    obtain ⟨-, -, m3, -⟩ := hM s s0 s1
    exact ⟨by omega, m3.2⟩
  have ga : ∀ r j : Int, (∀ s, 0 ≤ s → s < 16 → ¬ X.2 37 s = -1 → ¬ r = X.2 37 s) → w r j = vc r j := fun r j hh => hw r j (fun ⟨⟨s, s0, s1, s2, s3⟩, _⟩ => hh s s0 s1 s2 s3)
  refine ⟨h1, ?_, ?_, ⟨fun s s0 s1 hl => ?_, h4.2⟩, ?_⟩
  · refine h2.sm hb' hM' e0 hSm (fun s hs => ⟨⟨(hTt s).mp hs.1, by have := hs.2; rw [u 50 s (by omega)] at this; exact this⟩, u 54 s (by omega)⟩) (h2.2.1.fr hf (fun j j0 j1 => by omega)) ?_ (h2.2.2.2.1.sm e0 (u 47 59 (by omega)) (fun r j hr => u r j (by omega))) ?_ (fun s c hc => ?_)
    · rw [u 47 52 (by omega), u 47 65 (by omega), u 47 50 (by omega)]; exact h2.2.2.1
    · have e68 : V 68 = v 68 := funext fun j => u 68 j (by omega)
      rw [e68, u 47 22 (by omega)]; exact h2.2.2.2.2.1
    · refine ⟨⟨(hTt s).mp hc.1, ?_⟩, u 53 _ (by omega)⟩
      have := hc.2
      rw [u 51 s (by omega)] at this
      exact this
  · refine (h3.cw (w := w) (fun s s0 s1 hl => ?_)).m hO hK e0 (fun s => u 48 s (by omega)) hSm (fun s c _ _ _ _ => u 53 _ (by omega))
    obtain ⟨n1, n2⟩ := hnm s s0 s1 hl
    refine ⟨hw _ _ (fun q => absurd q.2 (by decide)), fun c _ _ => ⟨ga _ _ (fun t t0 t1 tl e => ?_), ga _ _ (fun t t0 t1 tl e => ?_)⟩⟩
    · rw [n1] at e
      by_cases z : s = t
      · rw [z] at e; omega
      · have := hD.ne ⟨s0, s1⟩ ⟨t0, t1⟩ hl tl z
        omega
    · have := (hnm t t0 t1 tl).2; omega
  · obtain ⟨k1, -⟩ := h4.1 s s0 s1 hl
    have hs := (h3.2 s s0 s1).1.mpr hl
    exact ⟨(k1.ag hD ⟨⟨s0, s1⟩, hl⟩ hw).m hSm ⟨s0, hs.1⟩ (u 50 s (by omega)) (u 54 s (by omega)) (u 56 s (by omega)) (u 57 s (by omega)) (hM s s0 hs.1).bh h51, ha s s0 s1 hl⟩
  · exact (h5.tab (vc' := vc) (cC := cC) (G := G) (fun s s0 s1 hl => (h4.1 s s0 s1 hl).1) (fun r j _ hn => hw r j (fun q => hn q.tab))).m (u 47 59 (by omega)) (fun a' _ _ => ⟨u 83 a' (by omega), u 84 a' (by omega), u 85 a' (by omega)⟩)
/-- settle, behind a change of one table's own age -/
theorem k_settleI {G : GT} {cC : Int → Nat} {E : Int} {X : XX} {vc v : VV} {t a b : Int} (h : I1 G cC E X vc v) (ht : isT v t) (hnv : ¬ v 50 t = 1) (hab : 0 ≤ a ∧ a ≤ b ∧ b ≤ 30000) : CX mX10_settleViews 2 [(2, 0)] X (upd2 (upd2 vc (X.2 37 t) 6 a) (X.2 37 t) 7 b) (fun _ w => Fr (SAg X) vc w ∧ I1 G cC E X w (upd2 (upd2 v 58 t a) 59 t b)) := by
  obtain ⟨l0, l1, l2⟩ := (h.live t).mp ht
  have hD := h.dsj
  have h1 := h.1
  have h2 := h.2.1
  have h3 := h.2.2.1
  have h4 := h.2.2.2.1
  have hM := h2.1.2.1
  have hb16 := h2.1.1.1.2
  have u : ∀ r j : Int, ¬ (r = 58 ∨ r = 59) → upd2 (upd2 v 58 t a) 59 t b r j = v r j := fun r j hh => by rw [upd2_n _ (by omega), upd2_n _ (by omega)]
  have u58 : ∀ s, upd2 (upd2 v 58 t a) 59 t b 58 s = if s = t then a else v 58 s := fun s => by
    rw [upd2_n _ (by omega)]
    by_cases z : s = t
    · rw [if_pos z, z, upd2_s]
    · rw [if_neg z, upd2_n _ (by omega)]
  have u59 : ∀ s, upd2 (upd2 v 58 t a) 59 t b 59 s = if s = t then b else v 59 s := fun s => by
    by_cases z : s = t
    · rw [if_pos z, z, upd2_s]
    · rw [if_neg z, upd2_n _ (by omega), upd2_n _ (by omega)]
  have hfr : Fr (fun r _ => r = 58 ∨ r = 59) v (upd2 (upd2 v 58 t a) 59 t b) := u
  have e0 : upd2 (upd2 v 58 t a) 59 t b 47 0 = v 47 0 := u 47 0 (by omega)
  have hM' : MT (upd2 (upd2 v 58 t a) 59 t b) := fun s s0 s1 => by
    rw [e0] at s1
    have hm := hM s s0 s1
    unfold MTt at hm ⊢
    rw [u 48 s (by omega), u 50 s (by omega), u 51 s (by omega), u 54 s (by omega), u 56 s (by omega), u 57 s (by omega), u58, u59]
    obtain ⟨m1, m2, m3, m4, m5, m6, m7, m8, m9, m10⟩ := hm
    refine ⟨m1, m2, m3, m4, fun k k0 k1 => ?_, m6, m7, m8, m9, ?_⟩
    · rw [u 55 _ (by omega), u 48 _ (by omega)]; exact m5 k k0 k1
    · by_cases z : s = t
      · rw [if_pos z, if_pos z]; exact Or.inr hab
      · rw [if_neg z, if_neg z]; exact m10
  have h51 : ∀ s, 0 ≤ s → s < v 47 0 → 0 ≤ v 51 s ∧ v 51 s ≤ 6 := fun s s0 s1 => by
    obtain ⟨-, -, m3, -⟩ := hM s s0 s1
    exact ⟨by omega, m3.2⟩
  have hSm : SmT (v 47 0) v (upd2 (upd2 v 58 t a) 59 t b) := SmT.fr hfr (fun r j q => by omega)
  have hfc : Fr (SAg X) vc (upd2 (upd2 vc (X.2 37 t) 6 a) (X.2 37 t) 7 b) := (Fr.rf.up ⟨⟨t, l0, l1, l2, rfl⟩, Or.inl rfl⟩).up ⟨⟨t, l0, l1, l2, rfl⟩, Or.inr rfl⟩
  have hgen : ∀ s, ¬ v 50 s = 1 → 0 ≤ s → s < v 47 0 → ag (upd2 (upd2 v 58 t a) 59 t b) s = if s = t then (a, b) else ag v s := fun s hs s0 s1 => by
    rw [ag_eq (by rw [e0]; exact hb16) hM' s s0 (by rw [e0]; exact s1), u 50 s (by omega), if_neg hs, u58, u59]
    by_cases z : s = t
    · rw [if_pos z, if_pos z, if_pos z]
    · rw [if_neg z, if_neg z, if_neg z, ag_eq hb16 hM s s0 s1, if_neg hs]
  have hoth : ∀ s, 0 ≤ s → s < 16 → ¬ X.2 37 s = -1 → ¬ s = t → ∀ j, upd2 (upd2 vc (X.2 37 t) 6 a) (X.2 37 t) 7 b (X.2 37 s) j = vc (X.2 37 s) j := fun s s0 s1 sl hne j => by
    have := hD.ne ⟨s0, s1⟩ ⟨l0, l1⟩ sl l2 hne
    rw [upd2_n _ (by omega), upd2_n _ (by omega)]
  refine (k_settle (G := G) (vm := upd2 (upd2 v 58 t a) 59 t b) (cC := cC) h1 h4.obj hD (by rw [e0]; exact hb16) hM' (fun s s0 s1 => ?_) (fun s s0 s1 sl => ?_) (fun s s0 s1 sl sv => ?_) (fun s s0 s1 sl sv sz => ?_)).mono (fun o w hP => ?_)
  · rw [e0, u 48 s (by omega)]; exact (h3.2 s s0 s1).1
  · have hs := (h3.2 s s0 s1).1.mpr sl
    exact ((h4.1 s s0 s1 sl).1.ag hD ⟨⟨s0, s1⟩, sl⟩ hfc).m hSm ⟨s0, hs.1⟩ (u 50 s (by omega)) (u 54 s (by omega)) (u 56 s (by omega)) (u 57 s (by omega)) (hM s s0 hs.1).bh h51
  · have hs := (h3.2 s s0 s1).1.mpr sl
    rw [u 50 s (by omega)] at sv
    rw [hgen s sv s0 hs.1]
    by_cases z : s = t
    · rw [if_pos z, z]
      exact ⟨by rw [upd2_n _ (by omega), upd2_s], upd2_s _ _ _ _⟩
    · rw [if_neg z, hoth s s0 s1 sl z, hoth s s0 s1 sl z]
      exact (h4.1 s s0 s1 sl).2
  · have hs := (h3.2 s s0 s1).1.mpr sl
    rw [u 50 s (by omega)] at sv
    have z : ¬ s = t := fun e => hnv (by rw [← e]; exact sv)
    rw [hoth s s0 s1 sl z, hoth s s0 s1 sl z, (h4.1 s s0 s1 sl).2.1, (h4.1 s s0 s1 sl).2.2]
    have h9 := ag_mono hb16 hM hM' e0 (fun j => u 50 j (by omega)) (fun j => u 54 j (by omega)) (fun j => u 55 j (by omega)) (fun s hne => by
      rw [u59]
      by_cases y : s = t
      · rw [if_pos y]; omega
      · rw [if_neg y]; exact hne) 17 s s0 hs.1 (by omega) sz
    have h10 := ag_ok hb16 hM 17 s s0 hs.1 (by omega)
    unfold AgO at h10
    omega
  · obtain ⟨p1, p2⟩ := hP
    have hfw : Fr (SAg X) vc w := hfc.via p1 (fun _ _ q => q) (fun _ _ q => q)
    exact ⟨hfw, h.ages hfr hM' hfw p2⟩
set_option maxRecDepth 100000 in
set_option maxHeartbeats 4000000 in
theorem k_fed {G : GT} {cC : Int → Nat} {E : Int} {X : XX} {vc v : VV} (h : I1 G cC E X vc v) (h13 : vc 0 13 = v 47 64) (t a b : Int) : CX mX10_fed 3 [(2, 0), (0, t), (0, a), (0, b)] X vc (fun o w => (isT v t ∧ (v 50 t = 0 ∧ 0 ≤ a ∧ a ≤ b ∧ b ≤ v 47 64) ∧ Fr (SAg X) vc w ∧ I1 G cC E X w (upd2 (upd2 v 58 t a) 59 t b) ∧ o = some (0, 1)) ∨ (¬ (isT v t ∧ (v 50 t = 0 ∧ 0 ≤ a ∧ a ≤ b ∧ b ≤ v 47 64)) ∧ w = vc ∧ o = some (0, 0))) := by
  have hL := h.live t
  have h64 := h.2.1.1.1.2.2.2.2
  refine CX.of (by decide +kernel) rfl rfl rfl (bX10_fed_0 t a b (Nat.le_refl _) h.1 (fun _ _ _ => ⟨_, k_tableAt h.1 t, fun r2 w3 hP => ?_⟩))
  obtain ⟨rfl, hr⟩ := hP
  by_cases hl : 0 ≤ t ∧ t < 16 ∧ ¬ X.2 37 t = -1
  · obtain rfl : r2 = X.2 37 t := by rw [if_pos ⟨hl.1, hl.2.1⟩] at hr; simpa using hr
    have ht := hL.mpr hl
    obtain ⟨o1, o2, o3⟩ := h.hi ht
    have hk := (h.tab ht).1
    have e5 : w3 (X.2 37 t) 5 = v 50 t := by
      obtain ⟨B, I, W, -, ⟨p, -⟩, -⟩ := hk
      exact p
    rw [e5, h13]
    refine ⟨fun g => absurd g hl.2.2, fun _ => ⟨o2, ⟨by omega, o3⟩, fun g2 => ⟨fun g3 => ⟨rfl, Or.inr ⟨fun z => by omega, rfl, rfl⟩⟩, fun g3 => ⟨fun g4 => ⟨rfl, Or.inr ⟨fun z => by omega, rfl, rfl⟩⟩, fun g4 => ⟨fun g5 => ?_, fun g5 => ⟨rfl, Or.inr ⟨fun z => by omega, rfl, rfl⟩⟩⟩⟩⟩, fun g2 => ⟨rfl, Or.inr ⟨fun z => g2 z.2.1, rfl, rfl⟩⟩⟩⟩
    refine ⟨_, k_settleI h ht (by omega) ⟨g3, g4, by omega⟩, fun w8 hP => ?_⟩
    exact ⟨rfl, Or.inl ⟨ht, ⟨g2, g3, g4, g5⟩, hP.1, hP.2, rfl⟩⟩
  · have hr2 : r2 = -1 := by
      by_cases z : 0 ≤ t ∧ t < 16
      · rw [if_pos z] at hr
        have e : X.2 37 t = -1 := Classical.byContradiction (fun y => hl ⟨z.1, z.2, y⟩)
        rw [e] at hr; simpa using hr
      · rw [if_neg z] at hr; simpa using hr
    exact ⟨fun g => ⟨rfl, Or.inr ⟨fun z => hl (hL.mp z.1), rfl, rfl⟩⟩, fun g => absurd hr2 g⟩
theorem SAg.hi {G : GT} {cC : Int → Nat} {E : Int} {X : XX} {vc v : VV} (h : I1 G cC E X vc v) {r j : Int} (hr : SAg X r j) : 87 ≤ r := by
  obtain ⟨⟨t, t0, t1, t2, rfl⟩, -⟩ := hr
  exact (h.nm t0 t1 t2).2
theorem s_fed {G : GT} {cC : Int → Nat} {E : Int} {X : XX} {v : VV} (h : I2 G cC E X v (mp v)) (t a b : Int) : StpOK mX10_fed mX11_fed 3 1 [(0, t), (0, a), (0, b)] E X v := by
  obtain ⟨h1, hs⟩ := id h
  refine StpOK.cx h.1.1 (k_fed h1 hs.1.2.2.1 t a b) (fun o w hp => ?_)
  rcases hp with ⟨ht, hc, hf, hI, ho⟩ | ⟨hn, rfl, ho⟩
  · have em : mp w = mp v := hf.emq (fun r j q => by have := SAg.hi h1 q; omega)
    have ev : ∀ r j : Int, r < 87 → w r j = v r j := fun r j hr => hf r j (fun q => by have := SAg.hi h1 q; omega)
    refine ⟨1, ho, (c_fed h1.1 (by rw [ev 47 0 (by decide)]; exact h1.2.1.1.1.1.2) t a b).mono (fun o' w' hq => ?_)⟩
    rcases hq with ⟨-, -, rfl, ho'⟩ | ⟨q, -⟩
    · refine ⟨ho', G, cC, ?_⟩
      rw [mp_upd ⟨by decide, by decide⟩, mp_upd ⟨by decide, by decide⟩, em]
      exact I2.ecq ⟨hI.mono (by omega), hs.cm (fun r j _ q => ev r j (by omega)) (fun r j q => by rw [upd2_n _ (by omega), upd2_n _ (by omega)])⟩ (((Ecq.rf _).up ⟨by decide, by decide⟩).up ⟨by decide, by decide⟩)
    · refine absurd ⟨?_, ?_⟩ q
      · unfold isT; rw [ev 47 0 (by decide), ev 48 t (by decide)]; exact ht
      · rw [ev 50 t (by decide), ev 47 64 (by decide)]; exact hc
  · refine ⟨0, ho, (c_fed h1.1 (show w 47 0 ≤ 16 from h1.2.1.1.1.1.2) t a b).mono (fun o' w' hq => ?_)⟩
    rcases hq with ⟨q1, q2, -⟩ | ⟨-, rfl, ho'⟩
    · exact absurd ⟨q1, q2⟩ hn
    · exact ⟨ho', G, cC, h.mono (by omega)⟩
