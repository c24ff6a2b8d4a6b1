/-! ===== both have the new table ===== -/
theorem AtL.to {v w : VV} {ic pc ic' pc' : Int} : ∀ (L : List (Int × Int)) (s : Int), (∀ j, s ≤ j → j < s + L.length → w ic' j = v ic j ∧ w pc' j = v pc j) → AtL v ic pc s L → AtL w ic' pc' s L
  | [], _, _, _ => trivial
  | q :: L, s, h, a => by
    have hl : ((q :: L).length : Int) = (L.length : Int) + 1 := by rw [List.length_cons]; omega
    obtain ⟨h1, h2⟩ := h s (Int.le_refl _) (by omega)
    exact ⟨h1.trans a.1, h2.trans a.2.1, AtL.to L (s + 1) (fun j j0 j1 => h j (by omega) (by omega)) a.2.2⟩
theorem PartR.to {v w : VV} {st en it ic pl pc st' en' it' ic' pl' pc' f : Int} {L : List (Int × Int)} (h : PartR v st en it ic pl pc f L) (h1 : w st' f = v st f) (h2 : w en' f = v en f) (h3 : w it' 1 = v it 1) (h4 : w pl' 1 = v pl 1) (h5 : ∀ j, 0 ≤ j → j < v it 1 → w ic' j = v ic j ∧ w pc' j = v pc j) : PartR w st' en' it' ic' pl' pc' f L := by
  obtain ⟨a, b, c, d, e⟩ := h
  unfold PartR
  rw [h1, h2, h3, h4]
  exact ⟨a, b, c, d, AtL.to L _ (fun j j0 j1 => h5 j (by omega) (by omega)) e⟩
theorem TabN.cgG {G G' : GT} {X : XX} {vc vm : VV} {C : Nat} {t o : Int} (h : TabN G X vc vm C t o) (e : G' t = G t) : TabN G' X vc vm C t o := by
  unfold TabN PrgV at h ⊢
  rw [e]
  exact h
theorem FmOK.to {b : Int → Int} {n t : Int} {v V : VV} {f : Int} (h : FmOK b n t v f) (h54 : V 54 t = v 54 t) (h55 : ∀ k, 0 ≤ k → k < v 54 t → V 55 (3 * t + k) = v 55 (3 * t + k)) (h49 : ∀ s, V 49 s = v 49 s) (h51 : ∀ s, V 51 s = v 51 s) (h52 : ∀ j, V 52 j = v 52 j) (h65 : ∀ j, V 65 j = v 65 j) (h66 : ∀ j, V 66 j = v 66 j) (h60 : V 60 t = v 60 t) (h48 : ∀ s, s < t → V 48 s = v 48 s) : FmOK b n t V f := by
  obtain ⟨f1, f2, f3, f4, f5⟩ := h
  unfold FmOK
  rw [h65, h66, h60]
  refine ⟨f1, f2, f3, f4, fun k hk => ?_⟩
  obtain ⟨⟨q1, q2, q3⟩, q4, q5⟩ := f5 k hk
  rw [qOf_cg h54 h55 h49, cOf_cg (h51 _) h52, h51, h48 _ q2]
  exact ⟨⟨q1, q2, q3⟩, q4, q5⟩
set_option maxHeartbeats 2000000 in
theorem I1.act {G : GT} {cC : Int → Nat} {E : Int} {X Y Y6 : XX} {vc vm w w1 w5 w9 u V P vS : VV} {b : Int → Int} {n N T : Int} {ct ct' : Int → Int} {C B I : Nat} (h : I1 G cC E X vc vm) (e0 : vm 47 0 = T) (hT16 : T < 16) (hX : TX b n) (fw1 : Fr SAc vc w1) (hs : (rStmt b n).1 = true) (hNA : (rStmt b n).2 = N)
    (hNw : NwT b n N T N ct' C B I vm w1 V) (hct : ∀ c : Int, 0 ≤ c → c < C → ct' c = ct c) (fV : Fr (AcS T) vm V) (v22 : V 47 22 = 0) (v52 : V 47 52 = 0) (v50 : vm 47 50 ≤ V 47 50 ∧ V 47 50 ≤ vm 47 50 + 8000)
    (hu : ∀ r j : Int, ¬ r = 0 → u r j = w1 r j) (hvS : vS = vst vm T (sK b n) C B (w1 24)) (hTb : TbI (nX X 7 0) (nV X u) b n N ct X.1.1 C B I Y6 w5) (hY : Y = (Y6.1, upd2 Y6.2 37 T X.1.1)) (hSW : SW Y) (h9 : ∀ r j : Int, ¬ (r = 38 ∧ 8 * T ≤ j ∧ j < 8 * T + C) → ¬ (r = 0 ∧ j = 11) → w9 r j = w5 r j) (h38 : ∀ c : Int, 0 ≤ c → c < C → w9 38 (8 * T + c) = u 20 c) (hSA : Fr (SAg Y) w9 w) (hAg : ∀ t, 0 ≤ t → t < 16 → ¬ Y.2 37 t = -1 → w (Y.2 37 t) 6 = (ag vS t).1 ∧ w (Y.2 37 t) 7 = (ag vS t).2)
    (hP : ∀ r j : Int, ¬ (r = 47 ∧ (j = 0 ∨ j = 27 ∨ j = 28)) → ¬ ((r = 48 ∨ (56 ≤ r ∧ r ≤ 59)) ∧ j = T) → P r j = V r j) (hP0 : P 47 0 = T + 1) (hP48 : P 48 T = 1) (hP56 : ∀ r : Int, 56 ≤ r → r ≤ 59 → P r T = -1) : I1 (fun t => if t = T then (b, n) else G t) (fun t => if t = T then C else cC t) (E + 10000) Y w P := by
  have h87 := h.1.1
  obtain ⟨hDU, ⟨p50, p51, p54, p49, p60⟩, hcol, hbh, hsrc, hsel, hsel2⟩ := hNw
  obtain ⟨hN2, -, -, ⟨-, ⟨hC1, hC6⟩, -, -⟩, ⟨-, hB3⟩, ⟨i28, i30, hI4⟩, -, d46, hk0, hk1, hbT⟩ := hDU
  have hGr : GrX X Y 37 (fun j => j = T) := by rw [hY]; exact AddR.gr h87 hTb
  obtain ⟨Wl, l1, l2, l3, l4, l5⟩ := TbI.tabs (T := T) h87 hTb
  rw [← hY] at l4
  obtain ⟨⟨q1, q2⟩, ⟨q3, q4, q5, q6, q7, q8⟩, q9, ⟨q10, q11⟩, ⟨⟨q12, q12'⟩, q12a, q12b⟩, -, q13⟩ := id hTb
  obtain ⟨h1, h2, h3, h4, h5⟩ := id h
  obtain ⟨⟨⟨b1, b2, b3, b4, b5⟩, hM, hTT⟩, hMW, ⟨c1, c2, c3, c4⟩, hAK, hTX, ⟨hokN, hTyO⟩, h7⟩ := id h2
  have hO := h4.obj
  have hD := h.dsj
  have hsk := sK_bd b n
  have g5 : ∀ r j : Int, r < X.1.1 → ¬ r = 15 → ¬ r = 16 → ¬ r = 0 → w5 r j = w1 r j := fun r j z1 z2 z3 z4 => by rw [q13 r j (by omega), nV_n X u (by omega)]; exact hu r j z4
  have gu : ∀ r j : Int, r < X.1.1 → ¬ r = 0 → nV X u r j = w1 r j := fun r j z1 z2 => by rw [nV_n X u (by omega)]; exact hu r j z2
  have eY : ∀ r j : Int, Y.2 r j = upd2 Y6.2 37 T X.1.1 r j := fun r j => by rw [hY]
  have e37 : ∀ t, ¬ t = T → Y.2 37 t = X.2 37 t := fun t ht => (hGr.2 37 (by decide) (by omega)).2 t (fun z => ht z.2)
  have e37T : Y.2 37 T = X.1.1 := by rw [eY]; exact upd2_s _ _ _ _
  have hlive : ∀ t, 0 ≤ t → t < 16 → ¬ X.2 37 t = -1 → t < T := fun t t0 t1 z => by have := ((h3.2 t t0 t1).1.mpr z).1; omega
  have hTab : ∀ t, 0 ≤ t → t < 16 → ¬ X.2 37 t = -1 → X.2 37 t + 13 ≤ X.1.1 ∧ 87 ≤ X.2 37 t := fun t t0 t1 z => by
    obtain ⟨B', I', W', ⟨⟨z1, z2⟩, -⟩, -⟩ := (h4.1 t t0 t1 z).1.sh
    exact ⟨z2, z1⟩
  have hDj : Dsj Y := fun s t s0 s1 t1 => by
    by_cases z : t = T
    · rw [z, e37T, e37 s (by omega)]
      intro y _
      exact (hTab s s0 (by omega) y).1
    · rw [e37 t z]
      by_cases z2 : s = T
      · intro _ y
        have := hlive t (by omega) t1 y
        omega
      · rw [e37 s z2]; exact hD s t s0 s1 t1
  -- the reference's rows
  have gP : ∀ r j : Int, ¬ AcS T r j → ¬ (r = 47 ∧ (j = 0 ∨ j = 27 ∨ j = 28)) → ¬ ((r = 48 ∨ (56 ≤ r ∧ r ≤ 59)) ∧ j = T) → P r j = vm r j := fun r j z1 z2 z3 => (hP r j z2 z3).trans (fV r j z1)
  have gO : ∀ r t : Int, ¬ t = T → (r = 48 ∨ r = 49 ∨ r = 50 ∨ r = 51 ∨ r = 54 ∨ r = 60 ∨ r = 67 ∨ (56 ≤ r ∧ r ≤ 59)) → P r t = vm r t := fun r t ht hr => gP r t (by unfold AcS; omega) (by omega) (by omega)
  have gF : ∀ r t c : Int, 0 ≤ t → t < T → 0 ≤ c → c < 8 → (r = 52 ∨ r = 53 ∨ r = 65 ∨ r = 66) → P r (8 * t + c) = vm r (8 * t + c) := fun r t c t0 t1 z0 z1 hr => gP r _ (by unfold AcS; omega) (by omega) (by omega)
  have gB : ∀ t k : Int, 0 ≤ t → t < T → 0 ≤ k → k < 3 → P 55 (3 * t + k) = vm 55 (3 * t + k) := fun t k t0 t1 z0 z1 => gP 55 _ (by unfold AcS; omega) (by omega) (by omega)
  have pV : ∀ r j : Int, (49 ≤ r ∧ r ≤ 55) ∨ (60 ≤ r ∧ r ≤ 86) → P r j = V r j := fun r j hr => hP r j (by omega) (by omega)
  have hSm : SmT T vm P := fun s s0 s1 => ⟨⟨gO 49 s (by omega) (by omega), gO 51 s (by omega) (by omega), gO 60 s (by omega) (by omega), gO 67 s (by omega) (by omega)⟩, fun c z0 z1 => ⟨gF 52 s c s0 s1 z0 z1 (by omega), gF 65 s c s0 s1 z0 z1 (by omega), gF 66 s c s0 s1 z0 z1 (by omega)⟩, fun k z0 z1 => gB s k s0 s1 z0 z1, fun i z0 z1 => ⟨gP 61 _ (by unfold AcS; omega) (by omega) (by omega), gP 62 _ (by unfold AcS; omega) (by omega) (by omega), gP 63 _ (by unfold AcS; omega) (by omega) (by omega), gP 64 _ (by unfold AcS; omega) (by omega) (by omega)⟩⟩
  have h51 : ∀ s, 0 ≤ s → s < T → 0 ≤ vm 51 s ∧ vm 51 s ≤ 6 := fun s s0 s1 => by
    obtain ⟨-, -, m3, -⟩ := hM s s0 (by omega)
    exact ⟨by omega, m3.2⟩
  have hTt : ∀ t, 0 ≤ t → t < T → (isT P t ↔ isT vm t) := fun t t0 t1 => by
    unfold isT
    rw [hP0, gO 48 t (by omega) (by omega)]
    exact ⟨fun z => ⟨z.1, by omega, z.2.2⟩, fun z => ⟨z.1, by omega, z.2.2⟩⟩
  have x50 : P 50 T = sK b n := (pV 50 T (by omega)).trans p50
  have x51 : P 51 T = C := (pV 51 T (by omega)).trans p51
  have x54 : P 54 T = B := (pV 54 T (by omega)).trans p54
  have x60 : P 60 T = N := (pV 60 T (by omega)).trans p60
  have x55 : ∀ k : Int, 0 ≤ k → k < B → P 55 (3 * T + k) = w1 24 k := fun k z0 z1 => (pV 55 _ (by omega)).trans (hbh k z0 z1)
  have hMP : MT P := fun t t0 t1 => by
    rw [hP0] at t1
    unfold MTt
    by_cases z : t = T
    · rw [z, hP48, x50, x51, x54, hP56 56 (by decide) (by decide), hP56 57 (by decide) (by decide), hP56 58 (by decide) (by decide), hP56 59 (by decide) (by decide)]
      refine ⟨Or.inr rfl, ⟨hsk.1, by omega⟩, ⟨by omega, by omega⟩, ⟨by omega, by omega⟩, fun k k0 k1 => ?_, fun y => ?_, fun y => ?_, by decide, by decide, Or.inl ⟨rfl, rfl⟩⟩
      · rw [x55 k k0 k1]
        obtain ⟨y0, y1, y2⟩ := hbT k k0 k1
        obtain ⟨m1, -⟩ := hM _ y0 y1
        exact ⟨y0, by omega, fun _ => by rw [gO 48 _ (by omega) (by omega)]; exact m1.elim (fun y => absurd y y2) id⟩
      · have := hk0 (by omega); omega
      · have := hk1 (by omega); omega
    · have ht : t < T := by omega
      have hm := hM t t0 (by omega)
      unfold MTt at hm
      rw [gO 48 t z (by omega), gO 50 t z (by omega), gO 51 t z (by omega), gO 54 t z (by omega), gO 56 t z (by omega), gO 57 t z (by omega), gO 58 t z (by omega), gO 59 t z (by omega)]
      obtain ⟨m1, m2, m3, m4, m5, m6⟩ := hm
      refine ⟨m1, m2, m3, m4, fun k k0 k1 => ?_, m6⟩
      obtain ⟨y0, y1, y2⟩ := m5 k k0 k1
      rw [gB t k t0 ht k0 (by omega), gO 48 _ (by omega) (by omega)]
      exact ⟨y0, y1, y2⟩
  -- the ages
  have hMs : MT vS := by
    rw [hvS]
    exact vst_MT hM e0 (by omega) hsk ⟨by omega, by omega⟩ ⟨by omega, by omega⟩ (fun z => by have := hk0 z; omega) (fun z => by have := hk1 z; omega) hbT
  have hage : ∀ t, 0 ≤ t → t < T + 1 → ag P t = ag vS t := fun t t0 t1 => by
    obtain ⟨a0, a48, a50, a51, a54, a55, a56, a57, a58, a59⟩ := vst_T (v := vm) (T := T) (kd := sK b n) (C := C) (B := B) (bh := w1 24)
    have vn : ∀ r j : Int, ¬ (r = 47 ∧ j = 0) → ¬ (r = 55 ∧ 3 * T ≤ j) → ¬ ((r = 48 ∨ r = 50 ∨ r = 51 ∨ r = 54 ∨ (56 ≤ r ∧ r ≤ 59)) ∧ j = T) → vS r j = vm r j := fun r j z1 z2 z3 => by rw [hvS]; exact vst_n z1 z2 z3
    rw [← hvS] at a0 a48 a50 a51 a54 a55 a56 a57 a58 a59
    refine ag_cg (T := T + 1) (by omega) hMs (by omega) hMP (by omega) (by omega) (fun s s0 s1 => ?_) 17 t t0 t1 (by omega)
    by_cases z : s = T
    · rw [z, a50, a54, a58, a59, x50, x54, hP56 58 (by decide) (by decide), hP56 59 (by decide) (by decide)]
      exact ⟨⟨rfl, rfl, rfl, rfl⟩, fun k k0 k1 => by rw [a55 k k0]; exact x55 k k0 k1⟩
    · rw [vn 50 s (by omega) (by omega) (by omega), vn 54 s (by omega) (by omega) (by omega), vn 58 s (by omega) (by omega) (by omega), vn 59 s (by omega) (by omega) (by omega)]
      obtain ⟨-, -, -, m4, -⟩ := hM s s0 (by omega)
      exact ⟨⟨gO 50 s z (by omega), gO 54 s z (by omega), gO 58 s z (by omega), gO 59 s z (by omega)⟩, fun k k0 k1 => by rw [vn 55 _ (by omega) (by omega) (by omega)]; exact gB s k s0 (by omega) k0 (by omega)⟩
  -- the class's cells
  have hSAn : ∀ r j : Int, 87 ≤ r → (∀ t, 0 ≤ t → t < 16 → ¬ Y.2 37 t = -1 → ¬ r = Y.2 37 t) ∨ ¬ (j = 6 ∨ j = 7) → w r j = w9 r j := fun r j r0 hn => hSA r j (fun ⟨⟨t, t0, t1, t2, e⟩, hj⟩ => hn.elim (fun y => y t t0 t1 t2 e) (fun y => y hj))
  have hlow : ∀ r j : Int, r < 87 → w r j = w9 r j := fun r j r0 => hSA r j (fun ⟨⟨t, t0, t1, t2, e⟩, hj⟩ => by
    by_cases z : t = T
    · rw [z, e37T] at e; omega
    · rw [e37 t z] at t2 e
      have := (hTab t t0 t1 t2).2
      omega)
  have hold : ∀ r j : Int, 87 ≤ r → r < X.1.1 → w9 r j = vc r j := fun r j r0 r1 => by rw [h9 r j (by omega) (by omega), g5 r j r1 (by omega) (by omega) (by omega)]; exact fw1 r j (by unfold SAc; omega)
  have hnew : ∀ r j : Int, (X.1.1 : Int) ≤ r → w9 r j = w5 r j := fun r j r0 => h9 r j (by omega) (by omega)
  have hoc : ∀ t, 0 ≤ t → t < 16 → ¬ X.2 37 t = -1 → ∀ r j : Int, X.2 37 t ≤ r → r < X.2 37 t + 13 → ¬ (r = X.2 37 t ∧ (j = 6 ∨ j = 7)) → w r j = vc r j := fun t t0 t1 y r j r0 r1 hn => by
    obtain ⟨y13, y87⟩ := hTab t t0 t1 y
    have hne : ¬ t = T := by have := hlive t t0 t1 y; omega
    rw [hSAn r j (by omega) ?_]
    · exact hold r j (by omega) (by omega)
    · by_cases hj : j = 6 ∨ j = 7
      · refine Or.inl (fun s s0 s1 s2 e => ?_)
        by_cases z : s = t
        · rw [z, e37 t hne] at e; exact hn ⟨e, hj⟩
        · have := hDj.ne ⟨s0, s1⟩ ⟨t0, t1⟩ s2 (by rw [e37 t hne]; exact y) z
          rw [e37 t hne] at this
          omega
      · exact Or.inr hj
  have hoT : ∀ r j : Int, (X.1.1 : Int) ≤ r → r < X.1.1 + 13 → ¬ (r = X.1.1 ∧ (j = 6 ∨ j = 7)) → w r j = w5 r j := fun r j r0 r1 hn => by
    rw [hSAn r j (by omega) ?_]
    · exact hnew r j r0
    · by_cases hj : j = 6 ∨ j = 7
      · refine Or.inl (fun s s0 s1 s2 e => ?_)
        by_cases z : s = T
        · rw [z, e37T] at e; exact hn ⟨e, hj⟩
        · rw [e37 s z] at s2 e
          have := (hTab s s0 s1 s2).1
          omega
      · exact Or.inr hj
  have cellT : Y.2 (X.1.1 : Int) 1 = X.1.1 + 1 := l4.2.2.1.1
  have hGT : (fun t => if t = T then (b, n) else G t) T = (b, n) := if_pos rfl
  have hGo : ∀ t, ¬ t = T → (fun t => if t = T then (b, n) else G t) t = G t := fun t z => if_neg z
  have hCT : (fun t => if t = T then C else cC t) T = C := if_pos rfl
  have hCo : ∀ t, ¬ t = T → (fun t => if t = T then C else cC t) t = cC t := fun t z => if_neg z
  generalize (fun t => if t = T then (b, n) else G t) = G' at *
  generalize (fun t => if t = T then C else cC t) = cC' at *
  have hcell : ∀ t, 0 ≤ t → t < 16 → ¬ X.2 37 t = -1 → Y.2 (X.2 37 t) 1 = X.2 (X.2 37 t) 1 := fun t t0 t1 y => (hGr.2 _ (by have := (hTab t t0 t1 y).2; omega) (by have := (hTab t t0 t1 y).1; omega)).2 1 (fun z => by have := (hTab t t0 t1 y).2; have := z.1; omega)
  refine ⟨hSW, ⟨⟨⟨⟨by omega, by omega⟩, ?_, ?_, ?_, ?_⟩, hMP, fun t ht => ?_⟩, ?_, ⟨?_, ?_, ?_, ?_⟩, ?_, ?_, ⟨fun t c hc => ?_, fun t ht => ?_⟩, fun t ht => ?_⟩, ⟨⟨by omega, by omega⟩, fun t t0 t1 => ?_⟩, ⟨fun t t0 t1 hl => ?_, hDj⟩, fun a a0 a1 => ?_⟩
  · rw [hP 47 22 (by omega) (by omega), v22]; decide
  · rw [gP 47 57 (by unfold AcS; omega) (by omega) (by omega)]; exact b3
  · rw [gP 47 59 (by unfold AcS; omega) (by omega) (by omega)]; exact b4
  · rw [gP 47 64 (by unfold AcS; omega) (by omega) (by omega)]; exact b5
  · -- the formulas of a select
    obtain ⟨⟨t0, t1, t2⟩, tk⟩ := id ht
    rw [hP0] at t1
    by_cases z : t = T
    · rw [z] at tk ⊢
      rw [x50] at tk
      obtain ⟨y1, y2, y3, -⟩ := hsel2 (by omega)
      rw [hGT]
      refine ⟨?_, fun f hf => ?_⟩
      · rw [x60]
        obtain ⟨k1, k2, k3, k4, k5⟩ := y2
        exact ⟨fun i i0 i1 => by rw [pV 61 _ (by omega), pV 62 _ (by omega), pV 63 _ (by omega)]; exact k1 i i0 i1, fun i i0 i1 => by rw [pV 64 _ (by omega)]; exact k2 i i0 i1, k3, k4, k5⟩
      · have hf' : PF V T f := by
          unfold PF at hf ⊢
          rw [← pV 51 T (by omega), ← pV 66 _ (by omega)]; exact hf
        exact (y3 f hf').to (pV 54 T (by omega)) (fun k _ _ => pV 55 _ (by omega)) (fun s => pV 49 s (by omega)) (fun s => pV 51 s (by omega)) (fun j => pV 52 j (by omega)) (fun j => pV 65 j (by omega)) (fun j => pV 66 j (by omega)) (pV 60 T (by omega)) (fun s hs => hP 48 s (by omega) (by omega))
    · have htT : t < T := by omega
      have hS : isS vm t := ⟨(hTt t t0 htT).mp ht.1, by rw [← gO 50 t z (by omega)]; exact tk⟩
      rw [hGo t z]
      have hMt := hM t t0 (by omega)
      refine (hTT t hS).sm hSm ⟨⟨t0, htT⟩, by omega⟩ (gO 54 t z (by omega)) hMt.bh h51 (fun k k0 k1 => ?_)
      obtain ⟨m1, -, -, -, m5, -⟩ := hMt
      have h48 : vm 48 t = 1 := m1.elim (fun y => absurd y hS.1.2.2) id
      obtain ⟨y0, y1, y2⟩ := m5 k k0 k1
      rw [gO 48 _ (by omega) (by omega), y2 h48]; decide
  · obtain ⟨m1, m2, m3, m4, m5, m6, m7⟩ := hMW
    have g : ∀ j : Int, 33 ≤ j → j ≤ 39 → P 47 j = vm 47 j := fun j j0 j1 => gP 47 j (by unfold AcS; omega) (by omega) (by omega)
    exact ⟨(g 33 (by decide) (by decide)).trans m1, (g 34 (by decide) (by decide)).trans m2, (g 35 (by decide) (by decide)).trans m3, (g 36 (by decide) (by decide)).trans m4, (g 37 (by decide) (by decide)).trans m5, (g 38 (by decide) (by decide)).trans m6, (g 39 (by decide) (by decide)).trans m7⟩
  · exact (hP 47 52 (by omega) (by omega)).trans v52
  · exact (gP 47 65 (by unfold AcS; omega) (by omega) (by omega)).trans c2
  · rw [hP 47 50 (by omega) (by omega)]; omega
  · rw [hP 47 50 (by omega) (by omega)]; omega
  · intro a a0 a1
    have g : ∀ r j : Int, (82 ≤ r ∧ r ≤ 85) → P r j = vm r j := fun r j hr => gP r j (by unfold AcS; omega) (by omega) (by omega)
    rw [gP 47 59 (by unfold AcS; omega) (by omega) (by omega)] at a1
    obtain ⟨k1, k2, k3⟩ := hAK a a0 a1
    rw [g 83 a (by omega), g 84 a (by omega), g 85 a (by omega), hP0]
    exact ⟨⟨k1.1, by omega⟩, k2, k3⟩
  · rw [hP 47 22 (by omega) (by omega), v22]
    exact ⟨⟨by decide, by decide⟩, fun i i0 i1 => by omega⟩
  · obtain ⟨⟨t0, t1, t2⟩, z0, z1⟩ := id hc
    rw [hP0] at t1
    by_cases z : t = T
    · rw [z] at z1 ⊢
      rw [x51] at z1
      rw [pV 53 _ (by omega)]; exact (hcol c z0 z1).2.2
    · have htT : t < T := by omega
      rw [gO 51 t z (by omega)] at z1
      have := h51 t t0 htT
      rw [gF 53 t c t0 htT z0 (by omega) (by omega)]
      exact hokN t c ⟨(hTt t t0 htT).mp hc.1, z0, z1⟩
  · -- a select's types
    obtain ⟨⟨t0, t1, t2⟩, tk⟩ := id ht
    rw [hP0] at t1
    by_cases z : t = T
    · rw [z] at tk ⊢
      rw [x50] at tk
      obtain ⟨-, -, y3, y4⟩ := hsel2 (by omega)
      refine y4.to (hGT.trans rfl) (by rw [p51]; omega) (pV 51 T (by omega)) (fun c _ _ => pV 53 _ (by omega)) (fun f _ _ => pV 65 _ (by omega)) (pV 66 _ (by omega)) (fun f k hp hk => ⟨?_, pV 53 _ (by omega)⟩)
      show uAt b n P T k = uAt b n V T k
      unfold uAt
      rw [qOf_cg (pV 54 T (by omega)) (fun k _ _ => pV 55 _ (by omega)) (fun s => pV 49 s (by omega)), cOf_cg (pV 51 _ (by omega)) (fun j => pV 52 j (by omega))]
    · have htT : t < T := by omega
      have hS : isS vm t := ⟨(hTt t t0 htT).mp ht.1, by rw [← gO 50 t z (by omega)]; exact tk⟩
      refine (hTyO t hS).to (hGo t z) (h51 t t0 htT) (gO 51 t z (by omega)) (fun c z0 z1 => gF 53 t c t0 htT z0 (by have := h51 t t0 htT; omega) (by omega)) (fun f z0 z1 => gF 65 t f t0 htT z0 z1 (by omega)) (gF 66 t 7 t0 htT (by decide) (by decide) (by omega)) (fun f k hp hk => ?_)
      obtain ⟨-, -, -, -, f5⟩ := (hTT t hS).2 f hp
      obtain ⟨⟨a1, a2, a3⟩, a4, a5⟩ := f5 k hk
      have hk6 := h51 _ a1 (by omega)
      refine ⟨uAt_sm hSm ⟨t0, htT⟩ (gO 54 t z (by omega)) (hM t t0 (by omega)).bh h51 _ _ k (by omega), ?_⟩
      exact gF 53 _ _ a1 (by omega) a4 (by omega) (by omega)
  · obtain ⟨⟨t0, t1, t2⟩, tk⟩ := id ht
    rw [hP0] at t1
    by_cases z : t = T
    · rw [z] at tk ⊢
      rw [x50] at tk
      rw [hGT, x60]
      exact ⟨(pV 67 T (by omega)).trans (hsel2 (by omega)).1, hN2, hs, hNA⟩
    · have htT : t < T := by omega
      rw [hGo t z, gO 67 t z (by omega), gO 60 t z (by omega)]
      exact h7 t ⟨(hTt t t0 htT).mp ht.1, by rw [← gO 50 t z (by omega)]; exact tk⟩
  · -- the names
    by_cases z : t = T
    · rw [z, e37T, hP0, hP48, hCT, x51]
      refine ⟨⟨fun _ => by omega, fun _ => ⟨by omega, by decide⟩⟩, fun _ => ⟨?_, rfl, fun c z0 z1 => ⟨?_, ?_⟩⟩⟩
      · obtain ⟨⟨k1, k2⟩, -⟩ := rStmt_t hs
        rw [pV 49 T (by omega), p49, hoT _ _ (by omega) (by omega) (by omega), q3]
        exact (WR_tok hX k1 k2).1
      · rw [pV 52 _ (by omega), cellT, hoT _ _ (by omega) (by omega) (by omega), q9 c z0 z1, ← hct c z0 z1]
        exact (hcol c z0 z1).1
      · rw [hlow 38 _ (by decide), h38 c z0 z1, pV 53 _ (by omega), (hcol c z0 z1).2.1]; exact hu 20 c (by decide)
    · rw [e37 t z, hP0, gO 48 t z (by omega)]
      obtain ⟨k1, k2⟩ := h3.2 t t0 t1
      refine ⟨⟨fun y => k1.mp ⟨by omega, y.2⟩, fun y => ?_⟩, fun y => ?_⟩
      · have := k1.mpr y
        exact ⟨by omega, this.2⟩
      · obtain ⟨k3, k4, k5⟩ := k2 y
        have htT := hlive t t0 t1 y
        obtain ⟨n1, n2⟩ := h.nm (t := t) t0 t1 y
        have hk6 : (cC t : Int) ≤ 6 := by have := h51 t t0 htT; omega
        rw [hcell t t0 t1 y, hCo t z, gO 49 t z (by omega), gO 51 t z (by omega), hoc t t0 t1 y _ _ (by omega) (by omega) (by omega)]
        refine ⟨k3, k4, fun c z0 z1 => ?_⟩
        obtain ⟨k6, k7⟩ := k5 c z0 z1
        rw [gF 52 t c t0 htT z0 (by omega) (by omega), gF 53 t c t0 htT z0 (by omega) (by omega), n1, hoc t t0 t1 y _ _ (by omega) (by omega) (by omega), ← n1]
        refine ⟨k6, ?_⟩
        rw [hlow 38 _ (by decide), h9 38 _ (by omega) (by omega), g5 38 _ (by omega) (by omega) (by omega) (by omega), fw1 38 _ (by unfold SAc; omega)]
        exact k7
  · -- the tables
    by_cases z : t = T
    · rw [z, e37T, hCT]
      refine ⟨⟨B, I, Wl.length, ⟨l4, ⟨hC1, hC6⟩, hB3, hI4, l3⟩, ⟨?_, ?_, ?_⟩, ⟨⟨?_, by omega, by omega⟩, fun k k0 k1 => ?_⟩, ⟨⟨?_, ?_⟩, ⟨?_, ?_⟩, ?_⟩, ?_, fun tk => ?_⟩, ?_, ?_⟩
      · rw [hoT _ _ (by omega) (by omega) (by omega), q4, gu 4 6 (by omega) (by decide), d46, x50]
      · rw [hoT _ _ (by omega) (by omega) (by omega), q7, hP56 56 (by decide) (by decide)]
      · rw [hoT _ _ (by omega) (by omega) (by omega), q8, hP56 57 (by decide) (by decide)]
      · rw [hoT _ _ (by omega) (by omega) (by omega), q10, x54]
      · rw [x54] at k1
        rw [hoT _ _ (by omega) (by omega) (by omega), q11 k k0 k1, gu 24 k (by omega) (by decide), x55 k k0 k1]
      · rw [hoT _ _ (by omega) (by omega) (by omega), q12]; omega
      · rw [hoT _ _ (by omega) (by omega) (by omega), q12]; omega
      · rw [hoT _ _ (by omega) (by omega) (by omega), q12']; omega
      · rw [hoT _ _ (by omega) (by omega) (by omega), q12']; omega
      · have hpt : ∀ (f : Int) (L : List (Int × Int)), 0 ≤ f → f ≤ 6 → PartR w1 26 27 28 29 30 31 f L → PartR w (X.1.1 + 5) (X.1.1 + 6) (X.1.1 + 7) (X.1.1 + 8) (X.1.1 + 9) (X.1.1 + 10) f L := fun f L f0 f6 hp => by
          refine hp.to ?_ ?_ ?_ ?_ (fun j j0 j1 => ⟨?_, ?_⟩)
          · rw [hoT _ _ (by omega) (by omega) (by omega), (q12b f f0 f6).1]; exact gu 26 f (by omega) (by decide)
          · rw [hoT _ _ (by omega) (by omega) (by omega), (q12b f f0 f6).2]; exact gu 27 f (by omega) (by decide)
          · rw [hoT _ _ (by omega) (by omega) (by omega), q12, i28]
          · rw [hoT _ _ (by omega) (by omega) (by omega), q12', i30]
          · rw [hoT _ _ (by omega) (by omega) (by omega), (q12a j j0 (by omega)).1]; exact gu 29 j (by omega) (by decide)
          · rw [hoT _ _ (by omega) (by omega) (by omega), (q12a j j0 (by omega)).2]; exact gu 31 j (by omega) (by decide)
        refine ⟨fun tk f f0 f6 => ?_, fun tk => ?_⟩
        · rw [x50] at tk
          exact hpt f [] f0 f6 (hsrc (by omega) f f0 f6)
        · rw [x50] at tk
          obtain ⟨q, ⟨s1, s2, s3⟩, sp⟩ := hsel (by omega)
          rw [hGT]
          refine ⟨q, ⟨fun c hc => (pV 65 _ (by omega)).trans (s1 c hc), s2, ?_⟩, fun f f0 f6 => ?_⟩
          · show WhF b n T q P
            unfold WhF at s3 ⊢
            rw [pV 65 _ (by omega), pV 65 _ (by omega), pV 66 _ (by omega), pV 66 _ (by omega)]
            exact s3
          · show PartR w (X.1.1 + 5) (X.1.1 + 6) (X.1.1 + 7) (X.1.1 + 8) (X.1.1 + 9) (X.1.1 + 10) f (LLs b n C q (refU b n P T) f)
            rw [refU_cg (pV 54 T (by omega)) (fun k _ _ => pV 55 _ (by omega)) (fun s => pV 49 s (by omega)) (fun s => pV 51 s (by omega)) (fun j => pV 52 j (by omega))]
            exact hpt f _ f0 f6 (sp f f0 f6)
      · rw [hoT _ _ (by omega) (by omega) (by omega)]; exact l5.1
      · rw [x50] at tk
        have e46 : ¬ u 4 6 = 0 := by rw [hu 4 6 (by decide), d46]; omega
        rw [hGT, x60]
        show RowL w (X.1.1 + 11) (X.1.1 + 12) (wdN b n 2 (N - 1).toNat)
        rw [show N - 1 = N + 1 - 2 by omega, ← l2 e46]
        refine ⟨by rw [hoT _ _ (by omega) (by omega) (by omega)]; exact l5.1, fun i x hx => ?_⟩
        rw [hoT _ _ (by omega) (by omega) (by omega)]; exact l5.2 i x hx
      · rw [hage T (by omega) (by omega), ← e37T]; exact (hAg T (by omega) hT16 (by rw [e37T]; omega)).1
      · rw [hage T (by omega) (by omega), ← e37T]; exact (hAg T (by omega) hT16 (by rw [e37T]; omega)).2
    · rw [e37 t z] at hl
      have htT := hlive t t0 t1 hl
      have hk := h4.1 t t0 t1 hl
      have ha := hAg t t0 t1 (by rw [e37 t z]; exact hl)
      rw [e37 t z] at ha
      rw [e37 t z, hCo t z]
      refine ⟨TabN.cgG ((((hk.1.gr hGr (by decide)).c (hoc t t0 t1 hl)).m hSm ⟨t0, htT⟩ (gO 50 t z (by omega)) (gO 54 t z (by omega)) (gO 56 t z (by omega)) (gO 57 t z (by omega)) (hM t t0 (by omega)).bh h51)) (hGo t z), ?_, ?_⟩
      · rw [hage t t0 (by omega)]; exact ha.1
      · rw [hage t t0 (by omega)]; exact ha.2
  · -- the asks
    have e40 : Y.2 40 a = X.2 40 a := (hGr.2 40 (by decide) (by omega)).2 a (fun z => by have := z.1; omega)
    have g : ∀ r j : Int, (82 ≤ r ∧ r ≤ 85) → P r j = vm r j := fun r j hr => gP r j (by unfold AcS; omega) (by omega) (by omega)
    rw [e40, gP 47 59 (by unfold AcS; omega) (by omega) (by omega), g 83 a (by omega), g 84 a (by omega), g 85 a (by omega)]
    rcases h5 a a0 a1 with y | ⟨y1, y2, y3, y4, y5⟩
    · exact Or.inl y
    · refine Or.inr ⟨y1, y2, ((hGr.2 _ (by omega) y4.2).1).trans y3, ⟨y4.1, by have := hGr.1; omega⟩, ?_⟩
      have hq : ∀ j, w (X.2 40 a) j = vc (X.2 40 a) j := fun j => by
        rw [hSAn _ j y4.1 (Or.inl (fun t t0 t1 t2 e => ?_))]
        · exact hold _ j y4.1 y4.2
        · by_cases z : t = T
          · rw [z, e37T] at e; omega
          · rw [e37 t z] at e t2
            have hk7 := (hO t t0 t1).elim (fun x => absurd x t2) (fun x => x.1)
            rw [← e, y3] at hk7
            exact absurd hk7 (by decide)
      rw [hq, hq, hq]
      exact y5
