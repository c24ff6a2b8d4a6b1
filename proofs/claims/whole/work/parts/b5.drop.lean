/-! ===== drop ===== -/
theorem RowS.eq {X Y : XX} {a c : Int} {R : Nat} (h : RowS X a c R) (hz : Y.1 = X.1) (hr : Y.2 a 0 = X.2 a 0) : RowS Y a c R := by
  obtain ⟨s1, s2, s3, s4, s5⟩ := h
  rw [← hz] at s1 s2 s4 s5
  exact ⟨s1, s2, hr.trans s3, s4, s5⟩
theorem PrgS.eq {X Y : XX} {p st en it ic pl pc : Int} {R : Nat} (h : PrgS X p st en it ic pl pc R) (hz : Y.1 = X.1) (h1 : ∀ j, Y.2 p j = X.2 p j) (h2 : Y.2 it 0 = X.2 it 0) (h3 : Y.2 pl 0 = X.2 pl 0) : PrgS Y p st en it ic pl pc R := by
  obtain ⟨s1, s2, ⟨s3, s4, s4'⟩, ⟨s5, s6, s6'⟩, ⟨s7, s8⟩, s9, s10⟩ := h
  have s8' := s8.eq hz h2
  have s10' := s10.eq hz h3
  rw [← hz] at s1 s2 s4 s4' s6 s6'
  exact ⟨s1, s2, ⟨(h1 2).trans s3, s4, s4'⟩, ⟨(h1 3).trans s5, s6, s6'⟩, ⟨(h1 0).trans s7, s8'⟩, (h1 1).trans s9, s10'⟩
theorem TabS.eq {X Y : XX} {o : Int} {C B I W : Nat} (h : TabS X o C B I W) (hz : Y.1 = X.1) (hr : ∀ r j, 87 ≤ r → Y.2 r j = X.2 r j) : TabS Y o C B I W := by
  obtain ⟨⟨s0, s0'⟩, s1, ⟨s2, s3⟩, ⟨s4, s5⟩, ⟨s6, s7⟩, s8, s9⟩ := h
  have s5' := s5.eq hz (hr _ _ (by omega))
  have s7' := s7.eq hz (fun j => hr _ j (by omega)) (hr _ _ (by omega)) (hr _ _ (by omega))
  have s9' := s9.eq hz (hr _ _ (by omega))
  rw [← hz] at s0' s1 s3
  exact ⟨⟨s0, s0'⟩, s1, ⟨(hr o 1 s0).trans s2, s3⟩, ⟨(hr o 2 s0).trans s4, s5'⟩, ⟨(hr o 3 s0).trans s6, s7'⟩, (hr o 4 s0).trans s8, s9'⟩
theorem TabN.eq {G : GT} {X Y : XX} {vc vm : VV} {C : Nat} {t o : Int} (h : TabN G X vc vm C t o) (hz : Y.1 = X.1) (hr : ∀ r j, 87 ≤ r → Y.2 r j = X.2 r j) : TabN G Y vc vm C t o := by
  obtain ⟨B, I, W, ⟨h1, h2⟩, h3⟩ := h
  exact ⟨B, I, W, ⟨h1.eq hz hr, h2⟩, h3⟩
/-- asks of t -/
def askT (X : XX) (vc : VV) (t i : Int) : Prop := ¬ X.2 40 i = -1 ∧ vc (X.2 40 i) 0 = t
def DrA (X : XX) (vc : VV) (t : Int) (x : Int) (Y : XX) : Prop := Y.1 = X.1 ∧ SW Y ∧ (∀ r j, ¬ r = 40 → Y.2 r j = X.2 r j) ∧ ∀ i, 0 ≤ i → i < 40 → (i < x ∧ askT X vc t i → Y.2 40 i = -1) ∧ (¬ (i < x ∧ askT X vc t i) → Y.2 40 i = X.2 40 i)
set_option maxRecDepth 100000 in
set_option maxHeartbeats 4000000 in
theorem k_dropAsks {X : XX} {vc : VV} (hW : SW X) (hA : ∀ i, 0 ≤ i → i < 40 → X.2 40 i = -1 ∨ (X.1.2 (X.2 40 i) = (0, 0) ∧ (87 ≤ X.2 40 i ∧ X.2 40 i < X.1.1))) (t : Int) : Con mX10_dropAsksOf 0 0 0 [(2, 0), (0, t)] X vc (fun o Y w => w = vc ∧ DrA X vc t 40 Y ∧ o = some (0, cnt (askT X vc t) 40)) := by
  have key : ∀ (x : Int) (Y : XX), (0 ≤ x ∧ x ≤ 40) → DrA X vc t x Y → Ex mX10_dropAsksOf 0 4 [(2, 0), (0, t), (0, cnt (askT X vc t) x.toNat), (0, x), (3, 0)] [] Y vc 0 0 (fun o Y w => w = vc ∧ DrA X vc t 40 Y ∧ o = some (0, cnt (askT X vc t) 40)) := by
    refine loop2 (fun (x : Int) (_ : XX) => (40 - x).toNat) (fun (x : Int) (Y : XX) => (0 ≤ x ∧ x ≤ 40) → DrA X vc t x Y → Ex mX10_dropAsksOf 0 4 [(2, 0), (0, t), (0, cnt (askT X vc t) x.toNat), (0, x), (3, 0)] [] Y vc 0 0 (fun o Y w => w = vc ∧ DrA X vc t 40 Y ∧ o = some (0, cnt (askT X vc t) 40))) (fun x Y ih => ?_)
    intro hx hD
    obtain ⟨d1, d2, d3, d4⟩ := id hD
    have hcb := cnt_bd (askT X vc t) x.toNat
    have hcs := cnt_s (askT X vc t) hx.1
    have skip : ¬ askT X vc t x → x < 40 → i32 (x + 1) ∧ Ex mX10_dropAsksOf 0 4 [(2, 0), (0, t), (0, cnt (askT X vc t) x.toNat), (0, x + 1), (3, 0)] [] Y vc 0 0 (fun o Y w => w = vc ∧ DrA X vc t 40 Y ∧ o = some (0, cnt (askT X vc t) 40)) := fun hn hx4 => by
      refine ⟨⟨by omega, by omega⟩, ?_⟩
      have h := ih (x + 1) Y (by omega) ⟨by omega, by omega⟩ ⟨d1, d2, d3, fun i i0 i1 => ⟨fun z => ?_, fun z => ?_⟩⟩
      · rw [hcs, bI_f hn, Int.add_zero] at h; exact h
      · by_cases e : i = x
        · rw [e] at z; exact absurd z.2 hn
        · exact (d4 i i0 i1).1 ⟨by omega, z.2⟩
      · exact (d4 i i0 i1).2 (fun y => z ⟨by omega, y.2⟩)
    refine bX10_dropAsksOf_4 t _ x (Nat.le_refl _) d2 (fun _ _ _ => ⟨fun g => ?_, fun g => ⟨⟨hx.1, g⟩, ?_⟩⟩)
    · have e : x = 40 := by omega
      rw [e] at hD ⊢
      exact ⟨rfl, hD, rfl⟩
    · have ex : Y.2 40 x = X.2 40 x := (d4 x hx.1 g).2 (fun z => by omega)
      rw [ex]
      refine ⟨fun g2 => skip (fun z => z.1 g2) g, fun g2 => ?_⟩
      rcases hA x hx.1 g with q | ⟨q1, q2⟩
      · exact absurd q g2
      · rw [d1]
        refine ⟨q1, ⟨by omega, q2.2⟩, fun g3 => skip (fun z => g3 z.2) g, fun g3 => ⟨⟨hx.1, g⟩, ⟨by omega, by omega⟩, ⟨by omega, by omega⟩, ?_⟩⟩
        have h := ih (x + 1) (Y.1, upd2 Y.2 40 x (-1)) (by omega) ⟨by omega, by omega⟩ ⟨d1, d2.ref40 _ _, fun r j hr => ?_, fun i i0 i1 => ⟨fun z => ?_, fun z => ?_⟩⟩
        · rw [hcs, bI_t ⟨g2, g3⟩, d1] at h; exact h
        · show upd2 _ _ _ _ r j = _
          rw [upd2_n _ (fun q => hr q.1)]; exact d3 r j hr
        · show upd2 _ _ _ _ 40 i = _
          by_cases e : i = x
          · rw [e, upd2_s]
          · rw [upd2_n _ (fun q => e q.2)]; exact (d4 i i0 i1).1 ⟨by omega, z.2⟩
        · show upd2 _ _ _ _ 40 i = _
          have e : ¬ i = x := fun e => z ⟨by omega, by rw [e]; exact ⟨g2, g3⟩⟩
          rw [upd2_n _ (fun q => e q.2)]; exact (d4 i i0 i1).2 (fun y => z ⟨by omega, y.2⟩)
  refine Con.of (by decide +kernel) (fun a ha => ?_) (Nat.le_of_ble_eq_true rfl) ?_
  · rcases List.mem_cons.mp ha with rfl | ha
    · exact Nat.le_of_ble_eq_true rfl
    · rw [List.mem_singleton.mp ha]; exact Nat.le_of_ble_eq_true rfl
  show Ex mX10_dropAsksOf 0 0 [(2, 0), (0, t), (3, 0), (3, 0), (3, 0)] [] X vc 0 0 _
  exact bX10_dropAsksOf_0 t (Nat.le_refl _) hW (fun _ => key 0 X ⟨by decide, by decide⟩ ⟨rfl, hW, fun _ _ _ => rfl, fun i i0 i1 => ⟨fun z => by omega, fun _ => rfl⟩⟩)
def DrX (X : XX) (vc : VV) (t : Int) (Y : XX) : Prop := Y.1 = X.1 ∧ SW Y ∧ (∀ r j, ¬ r = 40 → ¬ (r = 37 ∧ j = t) → Y.2 r j = X.2 r j) ∧ Y.2 37 t = -1 ∧ ∀ i, 0 ≤ i → i < 40 → (askT X vc t i → Y.2 40 i = -1) ∧ (¬ askT X vc t i → Y.2 40 i = X.2 40 i)
set_option maxRecDepth 100000 in
set_option maxHeartbeats 4000000 in
theorem k_drop {G : GT} {cC : Int → Nat} {E : Int} {X : XX} {vc v : VV} (h : I1 G cC E X vc v) (t : Int) : Con mX10_drop 1 0 0 [(2, 0), (0, t)] X vc (fun o Y w => w = vc ∧ ((¬ isT v t ∧ Y = X ∧ o = some (0, -1)) ∨ (isT v t ∧ (∃ q, 0 ≤ q ∧ q < v 47 0 ∧ hasDep v t q) ∧ Y = X ∧ o = some (0, -2)) ∨ (isT v t ∧ (∀ q, 0 ≤ q → q < v 47 0 → ¬ hasDep v t q) ∧ DrX X vc t Y ∧ o = some (0, cnt (askT X vc t) 40)))) := by
  have hL := h.live t
  have hAs := h.2.2.2.2
  have hn16 := h.2.1.1.1.1.2
  have hA : ∀ i, 0 ≤ i → i < 40 → X.2 40 i = -1 ∨ (X.1.2 (X.2 40 i) = (0, 0) ∧ (87 ≤ X.2 40 i ∧ X.2 40 i < X.1.1)) := fun i i0 i1 => by
    rcases hAs i i0 i1 with q | ⟨-, -, q2, q3, -⟩
    · exact Or.inl q.1
    · exact Or.inr ⟨q2, q3⟩
  refine Con.of (by decide +kernel) (fun a ha => ?_) (Nat.le_of_ble_eq_true rfl) ?_
  · rcases List.mem_cons.mp ha with rfl | ha
    · exact Nat.le_of_ble_eq_true rfl
    · rw [List.mem_singleton.mp ha]; exact Nat.le_of_ble_eq_true rfl
  show Ex mX10_drop 1 0 [(2, 0), (0, t), (3, 0), (3, 0)] [] X vc 0 0 _
  refine bX10_drop_0 t (Nat.le_refl _) h.1 (fun _ => ⟨_, k_tableAt h.1 t, fun r2 w3 hP => ?_⟩)
  obtain ⟨rfl, hr⟩ := hP
  by_cases hl : 0 ≤ t ∧ t < 16 ∧ ¬ X.2 37 t = -1
  · obtain rfl : r2 = X.2 37 t := by rw [if_pos ⟨hl.1, hl.2.1⟩] at hr; simpa using hr
    have hT := hL.mpr hl
    refine ⟨fun _ => ?_, fun g => absurd g hl.2.2⟩
    have key : ∀ (x : Int), (0 ≤ x ∧ x ≤ 16) → (∀ q, 0 ≤ q → q < x → q < v 47 0 → ¬ hasDep v t q) → Ex mX10_drop 1 12 [(2, 0), (0, t), (0, x), (3, 0)] [] X w3 0 0 (fun o Y w => w = w3 ∧ ((¬ isT v t ∧ Y = X ∧ o = some (0, -1)) ∨ (isT v t ∧ (∃ q, 0 ≤ q ∧ q < v 47 0 ∧ hasDep v t q) ∧ Y = X ∧ o = some (0, -2)) ∨ (isT v t ∧ (∀ q, 0 ≤ q → q < v 47 0 → ¬ hasDep v t q) ∧ DrX X w3 t Y ∧ o = some (0, cnt (askT X w3 t) 40)))) := by
      refine loop1 (fun (x : Int) => (16 - x).toNat) (fun (x : Int) => (0 ≤ x ∧ x ≤ 16) → (∀ q, 0 ≤ q → q < x → q < v 47 0 → ¬ hasDep v t q) → Ex mX10_drop 1 12 [(2, 0), (0, t), (0, x), (3, 0)] [] X w3 0 0 (fun o Y w => w = w3 ∧ ((¬ isT v t ∧ Y = X ∧ o = some (0, -1)) ∨ (isT v t ∧ (∃ q, 0 ≤ q ∧ q < v 47 0 ∧ hasDep v t q) ∧ Y = X ∧ o = some (0, -2)) ∨ (isT v t ∧ (∀ q, 0 ≤ q → q < v 47 0 → ¬ hasDep v t q) ∧ DrX X w3 t Y ∧ o = some (0, cnt (askT X w3 t) 40))))) (fun x ih => ?_)
      intro hx hno
      have hlx := h.live x
      have onw : ∀ W, W = w3 → (x < v 47 0 → ¬ hasDep v t x) → x < 16 → i32 (x + 1) ∧ Ex mX10_drop 1 12 [(2, 0), (0, t), (0, x + 1), (3, 0)] [] X W 0 0 (fun o Y w => w = w3 ∧ ((¬ isT v t ∧ Y = X ∧ o = some (0, -1)) ∨ (isT v t ∧ (∃ q, 0 ≤ q ∧ q < v 47 0 ∧ hasDep v t q) ∧ Y = X ∧ o = some (0, -2)) ∨ (isT v t ∧ (∀ q, 0 ≤ q → q < v 47 0 → ¬ hasDep v t q) ∧ DrX X w3 t Y ∧ o = some (0, cnt (askT X w3 t) 40)))) := fun W hW hn hx4 => by
        rw [hW]
        refine ⟨⟨by omega, by omega⟩, ih (x + 1) (by omega) ⟨by omega, by omega⟩ (fun q q0 q1 q2 => ?_)⟩
        by_cases e : q = x
        · rw [e] at q2 ⊢; exact hn q2
        · exact hno q q0 (by omega) q2
      refine bX10_drop_12 t x (Nat.le_refl _) h.1 (fun _ _ => ⟨fun g => ⟨⟨hl.1, hl.2.1⟩, _, k_dropAsks (X := (X.1, upd2 X.2 37 t (-1))) (h.1.ref37 _ _) (fun i i0 i1 => ?_) t, fun r7 Y9 w8 hP => ?_⟩, fun g => ⟨⟨hx.1, g⟩, fun g2 => onw w3 rfl (fun z y => (hlx.mp ⟨hx.1, z, y.1⟩).2.2 g2) g, fun g2 => ?_⟩⟩)
      · have e : upd2 X.2 37 t (-1) 40 i = X.2 40 i := upd2_n _ (by omega)
        show upd2 X.2 37 t (-1) 40 i = -1 ∨ (X.1.2 (upd2 X.2 37 t (-1) 40 i) = (0, 0) ∧ (87 ≤ upd2 X.2 37 t (-1) 40 i ∧ upd2 X.2 37 t (-1) 40 i < X.1.1))
        rw [e]; exact hA i i0 i1
      · obtain ⟨rfl, ⟨p1, p2, p3, p4⟩, p5⟩ := hP
        have e40 : ∀ i, upd2 X.2 37 t (-1) 40 i = X.2 40 i := fun i => upd2_n _ (by omega)
        have eA : ∀ i, askT (X.1, upd2 X.2 37 t (-1)) w8 t i ↔ askT X w8 t i := fun i => by
          show (¬ upd2 X.2 37 t (-1) 40 i = -1 ∧ w8 (upd2 X.2 37 t (-1) 40 i) 0 = t) ↔ _
          rw [e40]; exact Iff.rfl
        refine ⟨p2, rfl, Or.inr (Or.inr ⟨hT, fun q q0 q1 => hno q q0 (by omega) q1, ⟨p1, p2, fun r j r1 r2 => ?_, ?_, fun i i0 i1 => ⟨fun z => ?_, fun z => ?_⟩⟩, ?_⟩)⟩
        · rw [p3 r j r1]
          show upd2 X.2 37 t (-1) r j = _
          exact upd2_n _ r2
        · rw [p3 37 t (by decide)]
          show upd2 X.2 37 t (-1) 37 t = _
          exact upd2_s _ _ _ _
        · exact (p4 i i0 i1).1 ⟨i1, (eA i).mpr z⟩
        · rw [(p4 i i0 i1).2 (fun y => z ((eA i).mp y.2))]
          exact e40 i
        · rw [p5, cnt_congr 40 (fun i _ _ => eA i)]
      · have hTx := hlx.mpr ⟨hx.1, g, g2⟩
        have hh := h.hi hTx
        obtain ⟨⟨B, I, W, ⟨⟨s1, s2, -, ⟨s3, s4⟩, -⟩, -, hB3, -⟩, -, ⟨⟨k2, k3, k4⟩, k5⟩, -⟩, -⟩ := h.tab hTx
        rw [s3]
        refine ⟨hh.2.1, ⟨by omega, hh.2.2⟩, s4.1, s4.2.1, _, k_has h.1 s4 (by omega) ⟨by rw [k2]; exact k3, by rw [k2]; exact k4⟩ t, fun r14 w15 hP => ?_⟩
        obtain ⟨rfl, hr14⟩ := hP
        have hiff : rHas w15 (X.2 37 x + 2) (X.2 37 x + 3) t ↔ hasB v x t := by
          unfold rHas hasB
          rw [k2]
          exact ⟨fun ⟨i, i0, i1, i2⟩ => ⟨i, i0, i1, by rw [← k5 i i0 i1]; exact i2⟩, fun ⟨i, i0, i1, i2⟩ => ⟨i, i0, i1, by rw [k5 i i0 i1]; exact i2⟩⟩
        obtain rfl : r14 = bI (hasB v x t) := by rw [bI_iff hiff] at hr14; simpa using hr14
        refine ⟨fun g3 => onw w15 rfl (fun _ y => bI_0.mp g3 y.2) g, fun g3 => ⟨rfl, Or.inr (Or.inl ⟨hT, ⟨x, hx.1, hTx.2.1, hTx.2.2, bI_n0.mp g3⟩, rfl, rfl⟩)⟩⟩
    exact key 0 ⟨by decide, by decide⟩ (fun q q0 q1 => by omega)
  · have hr2 : r2 = -1 := by
      by_cases z : 0 ≤ t ∧ t < 16
      · rw [if_pos z] at hr
        have e : X.2 37 t = -1 := Classical.byContradiction (fun y => hl ⟨z.1, z.2, y⟩)
        rw [e] at hr; simpa using hr
      · rw [if_neg z] at hr; simpa using hr
    exact ⟨fun g => absurd hr2 g, fun g => ⟨rfl, Or.inl ⟨fun z => hl (hL.mp z), rfl, rfl⟩⟩⟩
theorem I1.drop {G : GT} {cC : Int → Nat} {E : Int} {X Y : XX} {vc v V : VV} {t : Int} (h : I1 G cC E X vc v) (hT : isT v t) (hno : ∀ q, 0 ≤ q → q < v 47 0 → ¬ hasDep v t q) (hD : DrX X vc t Y) (hV : dropV v V t (v 47 59)) : I1 G cC E Y vc V := by
  obtain ⟨l0, l1, l2⟩ := (h.live t).mp hT
  obtain ⟨h1, h2, h3, h4, h5⟩ := h
  have hO := h4.obj
  have hM := h2.1.2.1
  obtain ⟨d1, d2, d3, d4, d5⟩ := hD
  have u : ∀ r j : Int, ¬ r = 48 → ¬ r = 84 → V r j = v r j := fun r j q1 q2 => by rw [hV r j, if_neg (fun z => q1 z.1), if_neg (fun z => q2 z.1)]
  have u48 : ∀ s, ¬ s = t → V 48 s = v 48 s := fun s hs => by rw [hV 48 s, if_neg (fun z => hs z.2), if_neg (fun z => by omega)]
  have u48t : V 48 t = 0 := by rw [hV 48 t, if_pos ⟨rfl, rfl⟩]
  have u84 : ∀ a, V 84 a = if 0 ≤ a ∧ a < v 47 59 ∧ v 83 a = t then 0 else v 84 a := fun a => by
    rw [hV 84 a, if_neg (fun z => by omega)]
    by_cases z : 0 ≤ a ∧ a < v 47 59 ∧ v 83 a = t
    · rw [if_pos ⟨rfl, z⟩, if_pos z]
    · rw [if_neg (fun y => z y.2), if_neg z]
  have e0 : V 47 0 = v 47 0 := u 47 0 (by decide) (by decide)
  have hTt : ∀ s, isT V s ↔ (isT v s ∧ ¬ s = t) := fun s => by
    unfold isT
    rw [e0]
    by_cases z : s = t
    · rw [z, u48t]; exact ⟨fun y => absurd rfl y.2.2, fun y => absurd rfl y.2⟩
    · rw [u48 s z]; exact ⟨fun y => ⟨y, z⟩, fun y => y.1⟩
  have hSm : SmT (v 47 0) v V := SmT.fr (S := fun r _ => r = 48 ∨ r = 84) (fun r j q => u r j (by omega) (by omega)) (fun r j q => by omega)
  have hf : Fr (fun r _ => r = 48 ∨ r = 84) v V := fun r j q => u r j (by omega) (by omega)
  have hM' : MT V := fun s s0 s1 => by
    rw [e0] at s1
    have hm := hM s s0 s1
    unfold MTt at hm ⊢
    rw [u 50 s (by decide) (by decide), u 51 s (by decide) (by decide), u 54 s (by decide) (by decide), u 56 s (by decide) (by decide), u 57 s (by decide) (by decide), u 58 s (by decide) (by decide), u 59 s (by decide) (by decide)]
    obtain ⟨m1, m2, m3, m4, m5, m6⟩ := hm
    refine ⟨?_, m2, m3, m4, fun k k0 k1 => ?_, m6⟩
    · by_cases z : s = t
      · rw [z, u48t]; exact Or.inl rfl
      · rw [u48 s z]; exact m1
    · rw [u 55 _ (by decide) (by decide)]
      obtain ⟨a1, a2, a3⟩ := m5 k k0 k1
      refine ⟨a1, a2, fun y => ?_⟩
      have hst : ¬ s = t := fun z => by rw [z, u48t] at y; exact absurd y (by decide)
      rw [u48 s hst] at y
      have hbt : ¬ v 55 (3 * s + k) = t := fun z => hno s s0 s1 ⟨by rw [y]; decide, k, k0, k1, z⟩
      rw [u48 _ hbt]; exact a3 y
  have h51 : ∀ s, 0 ≤ s → s < v 47 0 → 0 ≤ v 51 s ∧ v 51 s ≤ 6 := fun s s0 s1 => by
    obtain ⟨-, -, m3, -⟩ := hM s s0 s1
    exact ⟨by omega, m3.2⟩
  have hr87 : ∀ r j, 87 ≤ r → Y.2 r j = X.2 r j := fun r j hr => d3 r j (by omega) (by omega)
  have e37 : ∀ s, ¬ s = t → Y.2 37 s = X.2 37 s := fun s hs => d3 37 s (by decide) (fun q => hs q.2)
  have hlv : ∀ s, ¬ Y.2 37 s = -1 → ¬ s = t := fun s hs e => hs (by rw [e]; exact d4)
  refine ⟨d2, ?_, ?_, ⟨fun s s0 s1 hl => ?_, fun s s' q0 q1 q2 q3 q4 => ?_⟩, fun a a0 a1 => ?_⟩
  · refine h2.sm (h2.1.1.fr hf (fun j _ => by omega)) hM' e0 hSm (fun s hs => ⟨⟨((hTt s).mp hs.1).1, by have := hs.2; rw [u 50 s (by decide) (by decide)] at this; exact this⟩, u 54 s (by decide) (by decide)⟩) (h2.2.1.fr hf (fun j j0 j1 => by omega)) ?_ (fun a a0 a1 => ?_) ?_ (fun s c hc => ?_)
    · rw [u 47 52 (by decide) (by decide), u 47 65 (by decide) (by decide), u 47 50 (by decide) (by decide)]; exact h2.2.2.1
    · rw [u 47 59 (by decide) (by decide)] at a1
      obtain ⟨q1, q2, q3⟩ := h2.2.2.2.1 a a0 a1
      rw [e0, u 83 a (by decide) (by decide), u 85 a (by decide) (by decide), u84]
      refine ⟨q1, ?_, q3⟩
      by_cases z : 0 ≤ a ∧ a < v 47 59 ∧ v 83 a = t
      · rw [if_pos z]; exact ⟨by decide, by decide⟩
      · rw [if_neg z]; exact q2
    · have e68 : V 68 = v 68 := funext fun j => u 68 j (by decide) (by decide)
      rw [e68, u 47 22 (by decide) (by decide)]; exact h2.2.2.2.2.1
    · refine ⟨⟨((hTt s).mp hc.1).1, ?_⟩, u 53 _ (by decide) (by decide)⟩
      have := hc.2
      rw [u 51 s (by decide) (by decide)] at this
      exact this
  · obtain ⟨a1, a2⟩ := h3
    refine ⟨by rw [e0]; exact a1, fun s s0 s1 => ?_⟩
    by_cases z : s = t
    · rw [z, d4, e0, u48t]
      exact ⟨⟨fun y => absurd rfl y.2, fun y => absurd rfl y⟩, fun y => absurd rfl y⟩
    · rw [e37 s z, e0, u48 s z]
      refine ⟨(a2 s s0 s1).1, fun hl => ?_⟩
      obtain ⟨c1, c2, c3⟩ := (a2 s s0 s1).2 hl
      have ho := (hO s s0 s1).elim (fun z => absurd z hl) (fun z => z.2)
      rw [u 49 s (by decide) (by decide), u 51 s (by decide) (by decide), hr87 _ _ ho.1]
      exact ⟨c1, c2, fun c c0 c1' => by rw [u 52 _ (by decide) (by decide), u 53 _ (by decide) (by decide)]; exact c3 c c0 c1'⟩
  · have hst := hlv s hl
    rw [e37 s hst] at hl ⊢
    obtain ⟨k1, k2, k3⟩ := h4.1 s s0 s1 hl
    have hs := (h3.2 s s0 s1).1.mpr hl
    have e := ag_sm (v := v) (V := V) (fun r j hr => u r j (by omega) (by omega)) s
    exact ⟨(k1.eq d1 hr87).m hSm ⟨s0, hs.1⟩ (u 50 s (by decide) (by decide)) (u 54 s (by decide) (by decide)) (u 56 s (by decide) (by decide)) (u 57 s (by decide) (by decide)) (hM s s0 hs.1).bh h51, by rw [e]; exact k2, by rw [e]; exact k3⟩
  · have n1 := hlv s q3
    have n2 := hlv s' q4
    rw [e37 s n1] at q3 ⊢
    rw [e37 s' n2] at q4 ⊢
    exact h4.2 s s' q0 q1 q2 q3 q4
  · obtain ⟨f1, f2⟩ := d5 a a0 a1
    rw [u 47 59 (by decide) (by decide), u 83 a (by decide) (by decide), u 85 a (by decide) (by decide), u84]
    rcases h5 a a0 a1 with q | ⟨⟨q1, q1'⟩, q2, q3, q4, q5, q6, q7⟩
    · have hn : ¬ askT X vc t a := fun z => z.1 q.1
      rw [f2 hn]
      refine Or.inl ⟨q.1, fun y => ?_⟩
      by_cases z : 0 ≤ a ∧ a < v 47 59 ∧ v 83 a = t
      · rw [if_pos z] at y; exact y.2 rfl
      · rw [if_neg z] at y; exact q.2 y
    · by_cases z : v 83 a = t
      · rw [f1 ⟨q2, by rw [q5]; exact z⟩, if_pos ⟨a0, q1, z⟩]
        exact Or.inl ⟨rfl, fun y => y.2 rfl⟩
      · rw [f2 (fun y => z (by rw [← q5]; exact y.2)), if_neg (fun y => z y.2.2), d1]
        exact Or.inr ⟨⟨q1, q1'⟩, q2, q3, q4, q5, q6, q7⟩
theorem s_drop {G : GT} {cC : Int → Nat} {E : Int} {X : XX} {v : VV} (h : I2 G cC E X v (mp v)) (t : Int) : StpOK mX10_drop mX11_drop 1 1 [(0, t)] E X v := by
  obtain ⟨h1, hs⟩ := id h
  have hMv : MIn G E v := h1.at rfl
  refine ⟨0, 0, by decide, by decide, _, k_drop h1 t, fun o Y w hp => ?_⟩
  obtain ⟨rfl, hp⟩ := hp
  have hSW : SW Y := by
    rcases hp with ⟨-, rfl, -⟩ | ⟨-, -, rfl, -⟩ | ⟨-, -, z, -⟩
    · exact h1.1
    · exact h1.1
    · exact z.2.1
  have c0 := c_drop (X := Y) hSW hMv.1.1 hMv.1.2.1 t
  rcases hp with ⟨q, rfl, ho⟩ | ⟨q, q2, rfl, ho⟩ | ⟨q, q2, q3, ho⟩
  · refine ⟨_, ho, hSW, c0.mono (fun o' w' hq => ?_)⟩
    rcases hq with ⟨-, rfl, ho'⟩ | ⟨y, -⟩ | ⟨y, -⟩
    · exact ⟨ho', G, cC, h.mono (by omega)⟩
    · exact absurd y q
    · exact absurd y q
  · refine ⟨_, ho, hSW, c0.mono (fun o' w' hq => ?_)⟩
    rcases hq with ⟨y, -⟩ | ⟨-, -, rfl, ho'⟩ | ⟨-, y, -⟩
    · exact absurd q y
    · exact ⟨ho', G, cC, h.mono (by omega)⟩
    · obtain ⟨z, z0, z1, z2⟩ := q2
      exact absurd z2 (y z z0 z1)
  · refine ⟨_, ho, hSW, c0.mono (fun o' w' hq => ?_)⟩
    rcases hq with ⟨y, -⟩ | ⟨-, ⟨z, z0, z1, z2⟩, -⟩ | ⟨-, -, hV, ho'⟩
    · exact absurd q y
    · exact absurd z2 (q2 z z0 z1)
    · have h40 := h1.2.1.1.1.2.2.2.1
      refine ⟨?_, G, cC, ?_⟩
      · -- one count on either side
        have e1 : FLs (fun a => w 83 a = t ∧ ¬ w 84 a = 0) (w 47 59).toNat (cnt (fun a => w 83 a = t ∧ ¬ w 84 a = 0) (w 47 59).toNat) (fun i => i) → True := fun _ => trivial
        have hcn : cnt (askT X w t) 40 = cnt (fun a => w 83 a = t ∧ ¬ w 84 a = 0) (w 47 59).toNat := by
          have hp : ∀ i : Int, 0 ≤ i → i < 40 → (askT X w t i ↔ (i < w 47 59 ∧ w 83 i = t ∧ ¬ w 84 i = 0)) := fun i i0 i1 => by
            rcases h1.2.2.2.2 i i0 i1 with y | ⟨⟨y1, y2⟩, y3, -, -, y5, -⟩
            · exact ⟨fun z => absurd y.1 z.1, fun z => absurd ⟨z.1, z.2.2⟩ y.2⟩
            · exact ⟨fun z => ⟨y1, (by have := z.2; rw [y5] at this; exact this), y2⟩, fun z => ⟨y3, by rw [y5]; exact z.2.1⟩⟩
          have h40' : w 47 59 ≤ 40 ∧ 0 ≤ w 47 59 := ⟨h40.2, h40.1⟩
          have e40 : (40 : Nat) = (w 47 59).toNat + (40 - (w 47 59).toNat) := by omega
          have hlow : ∀ n : Nat, (n : Int) ≤ w 47 59 → cnt (askT X w t) n = cnt (fun a => w 83 a = t ∧ ¬ w 84 a = 0) n := fun n hn => cnt_congr n (fun i i0 i1 => by
            rw [hp i i0 (by omega)]
            exact ⟨fun z => z.2, fun z => ⟨by omega, z⟩⟩)
          have hup : ∀ k : Nat, (w 47 59).toNat + k ≤ 40 → cnt (askT X w t) ((w 47 59).toNat + k) = cnt (askT X w t) (w 47 59).toNat := by
            intro k
            induction k with
            | zero => intro _; rfl
            | succ k ih =>
              intro hk
              show cnt (askT X w t) ((w 47 59).toNat + k) + bI (askT X w t (((w 47 59).toNat + k : Nat) : Int)) = _
              rw [ih (by omega), bI_f (fun z => by have := ((hp _ (by omega) (by omega)).mp z).1; omega)]
              omega
          rw [e40, hup _ (by omega)]
          exact hlow _ (by omega)
        rw [ho', hcn]
      · have hI : I1 G cC E Y w (mp w') := by
          refine h1.drop q q2 q3 (fun r j => ?_)
          by_cases z : 47 ≤ r ∧ r ≤ 86
          · rw [mp_in w' j z, hV r j, mp_in w j z]; rfl
          · rw [mp_out _ _ z, mp_out _ _ z, if_neg (fun y => z (by omega)), if_neg (fun y => z (by omega))]
        have hVu : ∀ r j : Int, ¬ r = 48 → ¬ r = 84 → w' r j = w r j := fun r j q1 q2 => by rw [hV r j, if_neg (fun z => q1 z.1), if_neg (fun z => q2 z.1)]
        refine I2.ecq (vc := w) ⟨hI.mono (by omega), hs.cm (fun _ _ _ _ => rfl) (fun r j hr => ?_)⟩ (fun r j hr => hVu r j (by omega) (by omega))
        rw [mp_in w' j (by omega), mp_in w j (by omega)]
        exact hVu r j (by omega) (by omega)
