/-! ===== the class: a new table is put in ===== -/
theorem GrX.sw {X Y : XX} {o : Int} {K : Int → Prop} (h : SW X) (hx : GrX X Y o K) (ho : 87 ≤ o) : SW Y := by
  obtain ⟨a1, a2, a3⟩ := h
  have hl : ∀ (k : Nat) (c : Nat × Nat), stab[k]? = some c → k < 87 := fun k c hk => (List.getElem?_eq_some_iff.mp hk).1
  have hr : ∀ q ∈ rtab, 0 ≤ q.1 ∧ q.1 < 87 := by decide +kernel
  refine ⟨Nat.le_trans a1 hx.1, fun k c hk => ?_, fun k q hk => ?_⟩
  · rw [(hx.2 k (by omega) (by have := hl k c hk; omega)).1]; exact a2 k c hk
  · have hq := hr q (List.mem_of_getElem? hk)
    rw [(hx.2 q.1 hq.1 (by omega)).2 _ (fun z => by have := z.1; omega)]; exact a3 k q hk
theorem nV_fr (X : XX) (v : VV) : Fr (fun r _ => r = X.1.1) v (nV X v) := fun r j q => nV_n X v q j
/-- behind addTable -/
def AddR (X : XX) (u : VV) (b : Int → Int) (n N : Int) (ct : Int → Int) (T : Int) (C B I : Nat) (vS : VV) (o : Option AV) (Y : XX) (w : VV) : Prop := o = some (0, T) ∧ SW Y ∧ ∃ (Y6 : XX) (w5 w9 : VV), TbI (nX X 7 0) (nV X u) b n N ct X.1.1 C B I Y6 w5 ∧ Y = (Y6.1, upd2 Y6.2 37 T X.1.1) ∧ (∀ r j : Int, ¬ (r = 38 ∧ 8 * T ≤ j ∧ j < 8 * T + C) → ¬ (r = 0 ∧ j = 11) → w9 r j = w5 r j) ∧ w9 0 11 = T + 1 ∧ (∀ c : Int, 0 ≤ c → c < C → w9 38 (8 * T + c) = u 20 c) ∧ Fr (SAg Y) w9 w ∧ ∀ t, 0 ≤ t → t < 16 → ¬ Y.2 37 t = -1 → w (Y.2 37 t) 6 = (ag vS t).1 ∧ w (Y.2 37 t) 7 = (ag vS t).2
/-- the heap behind a new table -/
theorem AddR.gr {X Y6 : XX} {u w5 : VV} {b : Int → Int} {n N T : Int} {ct : Int → Int} {C B I : Nat} (h87 : 87 ≤ X.1.1) (h : TbI (nX X 7 0) (nV X u) b n N ct X.1.1 C B I Y6 w5) : GrX X (Y6.1, upd2 Y6.2 37 T X.1.1) 37 (fun j => j = T) := by
  obtain ⟨⟨g1, g2⟩, -⟩ := h
  have g11 := g2.1
  have e1 : (nX X 7 0).1.1 = X.1.1 + 1 := rfl
  refine ⟨by show X.1.1 ≤ Y6.1.1; omega, fun c c0 c1 => ?_⟩
  obtain ⟨q1, q2⟩ := g2.2 c c0 (by omega)
  obtain ⟨z1, z2⟩ := (ExtX.new X 7 0).2 c c0 c1
  refine ⟨q1.trans z1, fun j hj => ?_⟩
  show upd2 Y6.2 37 T X.1.1 c j = _
  rw [upd2_n _ hj, q2 j (fun z => by have := z.1; omega)]
  exact z2 j
theorem TbI.tabs {X Y6 : XX} {u w5 : VV} {b : Int → Int} {n N T : Int} {ct : Int → Int} {C B I : Nat} (h87 : 87 ≤ X.1.1) (h : TbI (nX X 7 0) (nV X u) b n N ct X.1.1 C B I Y6 w5) : ∃ Wl : List Int, (u 4 6 = 0 → Wl = []) ∧ (¬ u 4 6 = 0 → Wl = wdN b n 2 (N + 1 - 2).toNat) ∧ Wl.length ≤ 400 ∧ TabS (Y6.1, upd2 Y6.2 37 T X.1.1) X.1.1 C B I Wl.length ∧ RowL w5 (X.1.1 + 11) (X.1.1 + 12) Wl := by
  obtain ⟨⟨g1, g2⟩, -, -, -, -, ⟨Wl, l1, l2, l3, l4, l5⟩, -⟩ := h
  have e46 : nV X u 4 6 = u 4 6 := nV_n X u (by omega) 6
  rw [e46] at l1 l2
  refine ⟨Wl, l1, l2, l3.1, ?_, l5⟩
  exact l4.gr (K := fun _ => True) (a := 37) ⟨Nat.le_refl _, fun c c0 c1 => ⟨rfl, fun j hj => upd2_n _ (fun z => hj ⟨z.1, trivial⟩)⟩⟩ (by decide)
set_option maxRecDepth 100000 in
set_option maxHeartbeats 4000000 in
theorem k_addTable {G : GT} {cC : Int → Nat} {E : Int} {X : XX} {vc vm u : VV} {b : Int → Int} {n N : Int} {ct : Int → Int} {C B I : Nat} (h : I1 G cC E X vc vm) (hu : ∀ r j, (87 ≤ r ∨ r = 38) → u r j = vc r j) (h011 : u 0 11 = vm 47 0) (hT16 : vm 47 0 < 16) (hT : TOK b n N u) (hN2 : 2 ≤ N) (h7 : u 4 7 = 1) (h8 : u 4 8 = 2) (hnm : 97 ≤ b (tS b n 1) ∧ b (tS b n 1) ≤ 122) (h17 : u 17 1 = C) (hC : 1 ≤ C ∧ C ≤ 6) (hct : ∀ i : Int, 0 ≤ i → i < C → u 18 i = ct i) (hNm : NmR b n N ct C) (h23 : u 23 1 = B) (hB : B ≤ 3) (h28 : u 28 1 = I) (h30 : u 30 1 = I) (hI : I ≤ 400) (h15 : 0 ≤ u 15 1) (h19 : u 19 1 = C) (hkd : 0 ≤ u 4 6 ∧ u 4 6 ≤ 2) (hk0 : u 4 6 = 0 → B = 0) (hk1 : ¬ u 4 6 = 0 → 1 ≤ B) (hbh : ∀ k : Int, 0 ≤ k → k < B → isT vm (u 24 k)) : Con mX10_addTable 7 13 1246 [(2, 0), (2, 4)] X u (AddR X u b n N ct (vm 47 0) C B I (vst vm (vm 47 0) (u 4 6) C B (u 24))) := by
  have h87 := h.1.1
  have hb0 := h.2.1.1.1.1
  have hM := h.2.1.1.2.1
  have hnV := nV_fr X u
  refine Con.of (by decide +kernel) (fun a ha => ?_) (Nat.le_of_ble_eq_true rfl) ?_
  · rcases List.mem_cons.mp ha with rfl | ha
    · exact Nat.le_of_ble_eq_true rfl
    · rw [List.mem_singleton.mp ha]; exact Nat.le_of_ble_eq_true rfl
  show Ex mX10_addTable 7 0 [(2, 0), (2, 4), (3, 0), (3, 0), (3, 0)] [] X u 13 1246 _
  have g0 : ∀ r j : Int, r < X.1.1 → nV X u r j = u r j := fun r j hr => nV_n X u (by omega) j
  refine bX10_addTable_0 (Nat.le_refl _) h.1 ⟨fun g => ⟨⟨by decide, by decide⟩, 12, 1236, by decide, by decide, _, k_tblInit (v := nV X u) (o := (X.1.1 : Int)) (b := b) (n := n) (N := N) (ct := ct) (C := C) (B := B) (I := I) h.1.new (nX_me X 7 0) ⟨by omega, by show (X.1.1 : Int) + 1 = ((X.1.1 + 1 : Nat) : Int); omega⟩ (hT.fr hnV (fun r j q => by unfold TOs at q; omega)) hN2 (by rw [g0 4 7 (by omega)]; exact h7) (by rw [g0 4 8 (by omega)]; exact h8) hnm (by rw [g0 17 1 (by omega)]; exact h17) hC.2 (fun i i0 i1 => by rw [g0 18 i (by omega)]; exact hct i i0 i1) hNm (by rw [g0 23 1 (by omega)]; exact h23) hB (by rw [g0 28 1 (by omega)]; exact h28) (by rw [g0 30 1 (by omega)]; exact h30) hI (by rw [g0 15 1 (by omega)]; exact h15), fun Y6 w5 hP => ?_⟩, fun g => by omega⟩
  have hTb : TbI (nX X 7 0) (nV X u) b n N ct X.1.1 C B I Y6 w5 := hP
  have hGr := AddR.gr (T := vm 47 0) h87 hTb
  obtain ⟨Wl, l1, l2, l3, l4, l5⟩ := TbI.tabs (T := vm 47 0) h87 hTb
  obtain ⟨⟨q1, q2⟩, ⟨q3, q4, q5, q6, q7, q8⟩, q9, ⟨q10, q11⟩, q12, -, q13⟩ := id hTb
  have hW6 : SW Y6 := GrX.sw h.1.new q2 (by omega)
  have g5 : ∀ r j : Int, r < X.1.1 → ¬ r = 15 → ¬ r = 16 → w5 r j = u r j := fun r j h1 h2 h3 => by rw [q13 r j (by omega)]; exact g0 r j h1
  obtain ⟨⟨t0, t1⟩, t2, ⟨t3, t4⟩, -⟩ := id l4
  have t1' : (X.1.1 : Int) + 13 ≤ Y6.1.1 := t1
  refine ⟨hW6, ?_⟩
  rw [h011]
  have y7 : Y6.1.2 X.1.1 = (7, 0) := t2
  have y1 : Y6.2 X.1.1 1 = X.1.1 + 1 := by
    have : upd2 Y6.2 37 (vm 47 0) X.1.1 X.1.1 1 = X.1.1 + 1 := t3
    rwa [upd2_n _ (by omega)] at this
  have key : ∀ (c : Int) (V : VV), (0 ≤ c ∧ c ≤ C) → (∀ r j : Int, ¬ (r = 38 ∧ 8 * vm 47 0 ≤ j ∧ j < 8 * vm 47 0 + C) → V r j = w5 r j) → (∀ i : Int, 0 ≤ i → i < c → V 38 (8 * vm 47 0 + i) = u 20 i) → Ex mX10_addTable 7 25 [(2, 0), (2, 4), (0, vm 47 0), (2, (X.1.1 : Int)), (0, c)] [] Y6 V ((13 - 1) - 12) ((1246 - 10) - 1236) (AddR X u b n N ct (vm 47 0) C B I (vst vm (vm 47 0) (u 4 6) C B (u 24))) := by
    refine loop2 (fun (c : Int) (_ : VV) => ((C : Int) - c).toNat) (fun (c : Int) (V : VV) => (0 ≤ c ∧ c ≤ C) → (∀ r j : Int, ¬ (r = 38 ∧ 8 * vm 47 0 ≤ j ∧ j < 8 * vm 47 0 + C) → V r j = w5 r j) → (∀ i : Int, 0 ≤ i → i < c → V 38 (8 * vm 47 0 + i) = u 20 i) → Ex mX10_addTable 7 25 [(2, 0), (2, 4), (0, vm 47 0), (2, (X.1.1 : Int)), (0, c)] [] Y6 V ((13 - 1) - 12) ((1246 - 10) - 1236) (AddR X u b n N ct (vm 47 0) C B I (vst vm (vm 47 0) (u 4 6) C B (u 24)))) (fun c V ih => ?_)
    intro hc hV hτ
    refine bX10_addTable_25 (vm 47 0) (X.1.1 : Int) c (Nat.le_refl _) hW6 (fun _ _ => ⟨y7, ⟨by omega, by omega⟩, _, k_columnCount hW6 ⟨y7, by omega, by omega⟩ ⟨y1, t4, by omega, by omega⟩, fun r12 w13 hP => ?_⟩)
    obtain ⟨rfl, hr⟩ := hP
    obtain rfl : r12 = (C : Int) := by simpa using hr
    have e11 : w13 0 11 = vm 47 0 := by rw [hV 0 11 (by omega), g5 0 11 (by omega) (by omega) (by omega)]; exact h011
    refine ⟨fun g1 => ⟨⟨hb0.1, hT16⟩, fun _ => ⟨by omega, by omega⟩, ?_⟩, fun g1 => ?_⟩
    · -- the tables are settled
      have ec : c = C := by omega
      rw [e11]
      have hWY : SW (Y6.1, upd2 Y6.2 37 (vm 47 0) X.1.1) := hW6.ref37 _ _
      have u9 : ∀ r j : Int, ¬ (r = 38 ∧ 8 * vm 47 0 ≤ j ∧ j < 8 * vm 47 0 + C) → ¬ (r = 0 ∧ j = 11) → upd2 w13 0 11 (vm 47 0 + 1) r j = w5 r j := fun r j z1 z2 => by rw [upd2_n _ z2]; exact hV r j z1
      have u11 : upd2 w13 0 11 (vm 47 0 + 1) 0 11 = vm 47 0 + 1 := upd2_s _ _ _ _
      have u38 : ∀ i : Int, 0 ≤ i → i < C → upd2 w13 0 11 (vm 47 0 + 1) 38 (8 * vm 47 0 + i) = u 20 i := fun i i0 i1 => by rw [upd2_n _ (by omega)]; exact hτ i i0 (by omega)
      generalize upd2 w13 0 11 (vm 47 0 + 1) = w9 at *
      have e37 : ∀ t, ¬ t = vm 47 0 → upd2 Y6.2 37 (vm 47 0) X.1.1 37 t = X.2 37 t := fun t ht => (hGr.2 37 (by decide) (by omega)).2 t (fun z => ht z.2)
      have e37T : upd2 Y6.2 37 (vm 47 0) X.1.1 37 (vm 47 0) = X.1.1 := upd2_s _ _ _ _
      have hold : ∀ r j : Int, 87 ≤ r → r < X.1.1 → w9 r j = vc r j := fun r j r0 r1 => by rw [u9 r j (by omega) (by omega), g5 r j r1 (by omega) (by omega)]; exact hu r j (Or.inl r0)
      have hMs := vst_MT (v := vm) (T := vm 47 0) (kd := u 4 6) (C := C) (B := B) (bh := u 24) hM rfl hb0.1 hkd ⟨by omega, by omega⟩ ⟨by omega, by omega⟩ (fun z => by have := hk0 z; omega) (fun z => by have := hk1 z; omega) hbh
      obtain ⟨a0, a48, a50, a51, a54, a55, a56, a57, a58, a59⟩ := vst_T (v := vm) (T := vm 47 0) (kd := u 4 6) (C := C) (B := B) (bh := u 24)
      have hag : ∀ t, 0 ≤ t → t < vm 47 0 → ag (vst vm (vm 47 0) (u 4 6) C B (u 24)) t = ag vm t := fun t t0 t1 => vst_ag hM rfl ⟨hb0.1, hT16⟩ hMs t0 t1
      have vn : ∀ r j : Int, ¬ (r = 47 ∧ j = 0) → ¬ (r = 55 ∧ 3 * vm 47 0 ≤ j) → ¬ ((r = 48 ∨ r = 50 ∨ r = 51 ∨ r = 54 ∨ (56 ≤ r ∧ r ≤ 59)) ∧ j = vm 47 0) → vst vm (vm 47 0) (u 4 6) C B (u 24) r j = vm r j := fun r j z1 z2 z3 => vst_n z1 z2 z3
      have hagT : ¬ u 4 6 = 1 → ag (vst vm (vm 47 0) (u 4 6) C B (u 24)) (vm 47 0) = (-1, -1) := fun z => by
        rw [ag_eq (by omega) hMs (vm 47 0) hb0.1 (by omega), a50, if_neg z, a58, a59]
      generalize vst vm (vm 47 0) (u 4 6) C B (u 24) = vS at *
      have hlive : ∀ t, ¬ X.2 37 t = -1 → 0 ≤ t → t < 16 → t < vm 47 0 := fun t z t0 t1 => ((h.2.2.1.2 t t0 t1).1.mpr z).1
      have hTab : ∀ t, 0 ≤ t → t < 16 → ¬ X.2 37 t = -1 → X.2 37 t + 13 ≤ X.1.1 ∧ 87 ≤ X.2 37 t := fun t t0 t1 z => by
        obtain ⟨B', I', W', ⟨⟨z1, z2⟩, -⟩, -⟩ := (h.2.2.2.1.1 t t0 t1 z).1.sh
        exact ⟨z2, z1⟩
      have hTO : TObj (Y6.1, upd2 Y6.2 37 (vm 47 0) X.1.1) := fun t t0 t1 => by
        show upd2 Y6.2 37 (vm 47 0) X.1.1 37 t = -1 ∨ (Y6.1.2 (upd2 Y6.2 37 (vm 47 0) X.1.1 37 t) = (7, 0) ∧ (87 ≤ upd2 Y6.2 37 (vm 47 0) X.1.1 37 t ∧ upd2 Y6.2 37 (vm 47 0) X.1.1 37 t < Y6.1.1))
        by_cases z : t = vm 47 0
        · rw [z, e37T]; exact Or.inr ⟨y7, by omega, by omega⟩
        · rw [e37 t z]
          rcases h.2.2.2.1.obj t t0 t1 with y | ⟨y1, y2, y3⟩
          · exact Or.inl y
          · exact Or.inr ⟨((hGr.2 _ (by omega) y3).1).trans y1, y2, by omega⟩
      have hDj : Dsj (Y6.1, upd2 Y6.2 37 (vm 47 0) X.1.1) := fun s t s0 s1 t1 => by
        show ¬ upd2 Y6.2 37 (vm 47 0) X.1.1 37 s = -1 → ¬ upd2 Y6.2 37 (vm 47 0) X.1.1 37 t = -1 → upd2 Y6.2 37 (vm 47 0) X.1.1 37 s + 13 ≤ upd2 Y6.2 37 (vm 47 0) X.1.1 37 t
        by_cases z : t = vm 47 0
        · rw [z, e37T, e37 s (by omega)]
          intro y _
          exact (hTab s s0 (by omega) y).1
        · rw [e37 t z]
          by_cases z2 : s = vm 47 0
          · intro _ y
            have := hlive t y (by omega) t1
            omega
          · rw [e37 s z2]; exact h.dsj s t s0 s1 t1
      refine ⟨_, k_settleL (X := (Y6.1, upd2 Y6.2 37 (vm 47 0) X.1.1)) (v := w9) (vm := vS) hWY hTO hDj (by omega) hMs (fun t t0 t1 => ?_) (fun t t0 t1 => ?_) (fun t t0 t1 => ?_) (fun t t0 t1 => ?_), fun w18 hP => ?_⟩
      · show (t < vS 47 0 ∧ ¬ vS 48 t = 0) ↔ ¬ upd2 Y6.2 37 (vm 47 0) X.1.1 37 t = -1
        rw [a0]
        by_cases z : t = vm 47 0
        · rw [z, e37T, a48]; exact ⟨fun _ => by omega, fun _ => ⟨by omega, by decide⟩⟩
        · rw [e37 t z, vn 48 t (by omega) (by omega) (by omega), ← (h.2.2.1.2 t t0 t1).1]
          exact ⟨fun y => ⟨by omega, y.2⟩, fun y => ⟨by omega, y.2⟩⟩
      · show ¬ upd2 Y6.2 37 (vm 47 0) X.1.1 37 t = -1 → TabL _ w9 vS t (upd2 Y6.2 37 (vm 47 0) X.1.1 37 t)
        by_cases z : t = vm 47 0
        · rw [z, e37T]
          intro _
          refine ⟨B, I, Wl.length, C, ⟨l4, hB⟩, ?_, ⟨?_, by rw [a54]; omega, by rw [a54]; exact Int.le_refl _⟩, fun k k0 k1 => ?_⟩
          · rw [a50, u9 _ _ (by omega) (by omega), q4]; exact g0 4 6 (by omega)
          · rw [a54, u9 _ _ (by omega) (by omega)]; exact q10
          · rw [a54] at k1
            rw [a55 k k0, u9 _ _ (by omega) (by omega), q11 k k0 k1]; exact g0 24 k (by omega)
        · rw [e37 t z]
          intro y
          have ht := hlive t y t0 t1
          obtain ⟨z13, z87⟩ := hTab t t0 t1 y
          obtain ⟨⟨B', I', W', ⟨s1, s2, s3, s4⟩, ⟨p1, -⟩, ⟨p2, p3⟩, -⟩, -⟩ := h.2.2.2.1.1 t t0 t1 y
          have m4 := (hM t t0 ht).bh
          refine ⟨B', I', W', cC t, ⟨s1.gr hGr (by decide), s3⟩, ?_, ⟨?_, ?_, ?_⟩, fun k k0 k1 => ?_⟩
          · rw [vn 50 t (by omega) (by omega) (by omega), hold _ _ (by omega) (by omega)]; exact p1
          · rw [vn 54 t (by omega) (by omega) (by omega), hold _ _ (by omega) (by omega)]; exact p2.1
          · rw [vn 54 t (by omega) (by omega) (by omega)]; exact p2.2.1
          · rw [vn 54 t (by omega) (by omega) (by omega)]; exact p2.2.2
          · rw [vn 54 t (by omega) (by omega) (by omega)] at k1
            rw [vn 55 _ (by omega) (by have := m4.1; omega) (by omega), hold _ _ (by omega) (by omega)]; exact p3 k k0 k1
      · show ¬ upd2 Y6.2 37 (vm 47 0) X.1.1 37 t = -1 → ¬ vS 50 t = 1 → w9 (upd2 Y6.2 37 (vm 47 0) X.1.1 37 t) 6 = (ag vS t).1 ∧ w9 (upd2 Y6.2 37 (vm 47 0) X.1.1 37 t) 7 = (ag vS t).2
        by_cases z : t = vm 47 0
        · rw [z, e37T, a50]
          intro _ y
          rw [hagT y, u9 _ _ (by omega) (by omega), u9 _ _ (by omega) (by omega)]
          exact ⟨q5, q6⟩
        · rw [e37 t z]
          intro y _
          have ht := hlive t y t0 t1
          obtain ⟨z13, z87⟩ := hTab t t0 t1 y
          rw [hag t t0 ht, hold _ _ (by omega) (by omega), hold _ _ (by omega) (by omega)]
          exact (h.2.2.2.1.1 t t0 t1 y).2
      · show ¬ upd2 Y6.2 37 (vm 47 0) X.1.1 37 t = -1 → vS 50 t = 1 → (ag vS t).2 = -1 → w9 (upd2 Y6.2 37 (vm 47 0) X.1.1 37 t) 6 = -1 ∧ w9 (upd2 Y6.2 37 (vm 47 0) X.1.1 37 t) 7 = -1
        by_cases z : t = vm 47 0
        · rw [z, e37T]
          intro _ _ _
          rw [u9 _ _ (by omega) (by omega), u9 _ _ (by omega) (by omega)]
          exact ⟨q5, q6⟩
        · rw [e37 t z]
          intro y _ y2
          have ht := hlive t y t0 t1
          obtain ⟨z13, z87⟩ := hTab t t0 t1 y
          rw [hag t t0 ht] at y2
          have hk := (h.2.2.2.1.1 t t0 t1 y).2
          rw [hold _ _ (by omega) (by omega), hold _ _ (by omega) (by omega), hk.1, hk.2]
          have ho : AgO (ag vm t) := ag_ok hb0.2 hM 17 t t0 ht (by omega)
          rcases ho with ⟨x1, x2⟩ | ⟨x1, x2, x3⟩
          · exact ⟨x1, x2⟩
          · omega
      · exact ⟨rfl, hWY, Y6, w5, w9, hTb, rfl, u9, u11, u38, hP.1, hP.2⟩
    · have e19 : w13 19 1 = C := by rw [hV 19 1 (by omega), g5 19 1 (by omega) (by omega) (by omega)]; exact h19
      refine ⟨⟨by omega, by omega⟩, fun _ => ⟨by omega, by omega⟩, _, k_get hW6 (rowS19 hW6) (by omega) c, fun r21 w22 hP => ?_⟩
      obtain ⟨rfl, hr21⟩ := hP
      obtain rfl : r21 = u 20 c := by
        rw [rGet_in ⟨hc.1, by omega⟩, hV 20 c (by omega), g5 20 c (by omega) (by omega) (by omega)] at hr21
        simpa using hr21
      refine ⟨⟨by omega, by omega⟩, ⟨by omega, by omega⟩, ih (c + 1) _ (by omega) ⟨by omega, by omega⟩ (fun r j z => ?_) (fun i i0 i1 => ?_)⟩
      · rw [upd2_n _ (by omega)]; exact hV r j z
      · by_cases y : i = c
        · rw [y, show vm 47 0 * 8 + c = 8 * vm 47 0 + c by omega, upd2_s]
        · rw [upd2_n _ (by omega)]; exact hτ i i0 (by omega)
  exact key 0 w5 ⟨by omega, by omega⟩ (fun _ _ _ => rfl) (fun i i0 i1 => by omega)
