/-! ===== a heap that grows: all as it was but some references of one cell ===== -/
def GrX (X Y : XX) (o : Int) (K : Int → Prop) : Prop := X.1.1 ≤ Y.1.1 ∧ ∀ c : Int, 0 ≤ c → c < X.1.1 → Y.1.2 c = X.1.2 c ∧ ∀ j, ¬ (c = o ∧ K j) → Y.2 c j = X.2 c j
theorem GrX.rf (X : XX) (o : Int) (K : Int → Prop) : GrX X X o K := ⟨Nat.le_refl _, fun _ _ _ => ⟨rfl, fun _ _ => rfl⟩⟩
theorem GrX.mono {X Y : XX} {o : Int} {K K' : Int → Prop} (h : GrX X Y o K) (hk : ∀ j, K j → K' j) : GrX X Y o K' := ⟨h.1, fun c c0 c1 => ⟨(h.2 c c0 c1).1, fun j hj => (h.2 c c0 c1).2 j (fun q => hj ⟨q.1, hk j q.2⟩)⟩⟩
theorem GrX.trans {X Y Z : XX} {o : Int} {K K' : Int → Prop} (h : GrX X Y o K) (h2 : GrX Y Z o K') : GrX X Z o (fun j => K j ∨ K' j) := ⟨Nat.le_trans h.1 h2.1, fun c c0 c1 => by
  have a := h.2 c c0 c1
  have b := h2.2 c c0 (by have := h.1; omega)
  exact ⟨b.1.trans a.1, fun j hj => (b.2 j (fun q => hj ⟨q.1, Or.inr q.2⟩)).trans (a.2 j (fun q => hj ⟨q.1, Or.inl q.2⟩))⟩⟩
theorem ExtX.gr {X Y : XX} (h : ExtX X Y) (o : Int) (K : Int → Prop) : GrX X Y o K := ⟨h.1, fun c c0 c1 => ⟨(h.2 c c0 c1).1, fun j _ => (h.2 c c0 c1).2 j⟩⟩
theorem GrX.row {X Y : XX} {o a c : Int} {R : Nat} {K : Int → Prop} (h : GrX X Y o K) (hr : RowS X a c R) (hne : ¬ a = o) : RowS Y a c R := by
  obtain ⟨a1, a2, a3, a4, a5⟩ := hr
  have h1 := h.1
  obtain ⟨b1, b2⟩ := h.2 a a2.1 a2.2
  obtain ⟨b3, -⟩ := h.2 c a5.1 a5.2
  exact ⟨b1.trans a1, by omega, (b2 0 (fun q => hne q.1)).trans a3, b3.trans a4, by omega⟩
/-- a new array, put into field k of o -/
theorem gNewArr (X : XX) (o : Int) (k ki n : Nat) (hr : 0 ≤ o ∧ o < X.1.1) : GrX X ((nX X ki n).1, upd2 (nX X ki n).2 o k X.1.1) o (fun j => j = k) ∧ (((nX X ki n).1, upd2 (nX X ki n).2 o k X.1.1) : XX).1.1 = X.1.1 + 1 ∧ (((nX X ki n).1, upd2 (nX X ki n).2 o k X.1.1) : XX).2 o k = X.1.1 ∧ (((nX X ki n).1, upd2 (nX X ki n).2 o k X.1.1) : XX).1.2 X.1.1 = (ki, n) := by
  refine ⟨⟨by show X.1.1 ≤ X.1.1 + 1; omega, fun c c0 c1 => ?_⟩, rfl, upd2_s _ _ _ _, if_pos rfl⟩
  have hne : ¬ c = (X.1.1 : Int) := by omega
  refine ⟨if_neg hne, fun j hj => ?_⟩
  show upd2 _ _ _ _ c j = _
  rw [upd2_n _ hj]
  exact if_neg hne
/-- a new row, put into field k of o -/
theorem gNewRow (X : XX) (o : Int) (k n : Nat) (hr : 0 ≤ o ∧ o < X.1.1) : GrX X ((rowX (nX X 6 0) X.1.1 n).1, upd2 (rowX (nX X 6 0) X.1.1 n).2 o k X.1.1) o (fun j => j = k) ∧ (((rowX (nX X 6 0) X.1.1 n).1, upd2 (rowX (nX X 6 0) X.1.1 n).2 o k X.1.1) : XX).1.1 = X.1.1 + 2 ∧ (((rowX (nX X 6 0) X.1.1 n).1, upd2 (rowX (nX X 6 0) X.1.1 n).2 o k X.1.1) : XX).2 o k = X.1.1 ∧ RowS ((rowX (nX X 6 0) X.1.1 n).1, upd2 (rowX (nX X 6 0) X.1.1 n).2 o k X.1.1) X.1.1 ((X.1.1 : Int) + 1) n := by
  have hE : ExtX X (rowX (nX X 6 0) X.1.1 n) := ExtX.rowX
  have hS : RowS (rowX (nX X 6 0) X.1.1 n) X.1.1 ((X.1.1 : Int) + 1) n := rowX_S (X := nX X 6 0) (o := (X.1.1 : Int)) (n := n) (if_pos rfl) ⟨by omega, by show (X.1.1 : Int) < ((X.1.1 + 1 : Nat) : Int); omega⟩
  have hne : ¬ (X.1.1 : Int) = o := by omega
  obtain ⟨s1, s2, s3, s4, s5⟩ := hS
  refine ⟨⟨hE.1, fun c c0 c1 => ⟨(hE.2 c c0 c1).1, fun j hj => ?_⟩⟩, rfl, upd2_s _ _ _ _, s1, s2, ?_, s4, s5⟩
  · show upd2 _ _ _ _ c j = _
    rw [upd2_n _ hj]
    exact (hE.2 c c0 c1).2 j
  · show upd2 _ _ _ _ (X.1.1 : Int) 0 = _
    rw [upd2_n _ (fun q => hne q.1)]
    exact s3
theorem nV_s (X : XX) (v : VV) (j : Int) : nV X v X.1.1 j = 0 := if_pos rfl
theorem nV_n (X : XX) (v : VV) {r : Int} (h : ¬ r = X.1.1) (j : Int) : nV X v r j = v r j := if_neg h
/-! ===== the class: a new program ===== -/
def PrI (X : XX) (v : VV) (o : Int) (n : Nat) (Y : XX) (w : VV) : Prop := Y.1.1 = X.1.1 + 6 ∧ GrX X Y o (fun j => 0 ≤ j ∧ j ≤ 3) ∧ PrgS Y o (o + 1) (o + 2) (o + 3) (o + 4) (o + 5) (o + 6) n ∧ (w (o + 3) 1 = 0 ∧ w (o + 5) 1 = 0) ∧ Fr (fun r _ => o < r) v w
set_option maxRecDepth 100000 in
set_option maxHeartbeats 4000000 in
theorem k_prgInit {X : XX} {v : VV} {o : Int} {n : Nat} (hs : X.1.2 o = (5, 0)) (hr : 0 ≤ o ∧ o + 1 = X.1.1) (hn : n ≤ 60000000) : Con mX5_init 2 6 (18 + 2 * n) [(2, o), (0, (n : Int))] X v (fun _ Y w => PrI X v o n Y w) := by
  -- behind the first row
  have s32 : ∀ (Y : XX) (w : VV) (mc ms : Nat), 2 ≤ mc → 2 + n ≤ ms → Y.1.1 = X.1.1 + 4 → GrX X Y o (fun j => j = 0 ∨ j = 2 ∨ j = 3) → (Y.2 o 2 = o + 1 ∧ Y.1.2 (o + 1) = (100, 7)) → (Y.2 o 3 = o + 2 ∧ Y.1.2 (o + 2) = (100, 7)) → (Y.2 o 0 = o + 3 ∧ RowS Y (o + 3) (o + 4) n) → w (o + 3) 1 = 0 → Fr (fun r _ => o < r) v w → Ex mX5_init 2 32 [(2, o), (0, (n : Int))] [] Y w mc ms (fun _ Y w => PrI X v o n Y w) := by
    intro Y w mc ms hmc hms hz hG h2 h3 h0 hw hf
    have hos : Y.1.2 o = (5, 0) := (hG.2 o hr.1 (by omega)).1.trans hs
    have hini := k_rowInit (X := nX Y 6 0) (v := nV Y w) (o := (Y.1.1 : Int)) (n := n) (if_pos rfl) ⟨by omega, by show (Y.1.1 : Int) < ((Y.1.1 + 1 : Nat) : Int); omega⟩ hn
    have hN := gNewRow Y o 1 n ⟨hr.1, by omega⟩
    refine x_aload_n dX5_init_32 rfl ?_
    refine x_new nlX5_18 dX5_init_33 (by decide) (by omega) (by omega) ?_
    refine x_dup dX5_init_36 (tag1 rfl) ?_
    refine x_iload_n dX5_init_37 rfl ?_
    refine x_init dX5_init_38 mlX5_20 hini (by omega) (st := _) rfl rfl (Nat.le_of_ble_eq_true rfl) (by omega) (by omega) (Nat.le_of_ble_eq_true rfl) (fun Y2 w2 hP => ?_)
    obtain ⟨rfl, rfl⟩ := hP
    obtain ⟨n1, n2, n3, n4⟩ := hN
    refine x_putr fwX5_27 dX5_init_41 (r := o) (len := 0) ?_ ?_ (fun _ => rfl) (Nat.le_of_ble_eq_true rfl) rfl (Or.inl ⟨_, rfl⟩) ?_
    · exact ((n1.2 o hr.1 (by omega)).1).trans hos
    · exact ⟨hr.1, by show o < ((Y.1.1 + 1 + 1 : Nat) : Int); omega⟩
    have e1 : ((Y.1.1 : Nat) : Int) = o + 5 := by omega
    refine x_ret none rfl ⟨dX5_init_44, rfl⟩ ?_
    refine ⟨by rw [n2, hz], (hG.trans n1).mono (fun j hj => by omega), ⟨((n1.2 o hr.1 (by omega)).1).trans hos, ⟨hr.1, by omega⟩, ⟨?_, ?_, by omega⟩, ⟨?_, ?_, by omega⟩, ⟨?_, n1.row h0.2 (by omega)⟩, ?_, ?_⟩, ⟨?_, ?_⟩, ?_⟩
    · exact ((n1.2 o hr.1 (by omega)).2 2 (fun q => absurd q.2 (by decide))).trans h2.1
    · exact ((n1.2 (o + 1) (by omega) (by omega)).1).trans h2.2
    · exact ((n1.2 o hr.1 (by omega)).2 3 (fun q => absurd q.2 (by decide))).trans h3.1
    · exact ((n1.2 (o + 2) (by omega) (by omega)).1).trans h3.2
    · exact ((n1.2 o hr.1 (by omega)).2 0 (fun q => absurd q.2 (by decide))).trans h0.1
    · rw [← e1]; exact n3
    · rw [show o + 5 = ((Y.1.1 : Nat) : Int) by omega, show o + 6 = ((Y.1.1 : Nat) : Int) + 1 by omega]; exact n4
    · rw [nV_n _ _ (by show ¬ o + 3 = ((Y.1.1 + 1 : Nat) : Int); omega), nV_n _ _ (by omega)]; exact hw
    · rw [nV_n _ _ (by show ¬ o + 5 = ((Y.1.1 + 1 : Nat) : Int); omega), ← e1]; exact nV_s _ _ _
    · intro r j hn'
      have hn2 : ¬ o < r := hn'
      rw [nV_n _ _ (by show ¬ r = ((Y.1.1 + 1 : Nat) : Int); omega), nV_n _ _ (by omega)]; exact hf r j hn'
  have s20 : ∀ (Y : XX) (w : VV) (mc ms : Nat), 4 ≤ mc → 4 + 2 * n ≤ ms → Y.1.1 = X.1.1 + 2 → GrX X Y o (fun j => j = 2 ∨ j = 3) → (Y.2 o 2 = o + 1 ∧ Y.1.2 (o + 1) = (100, 7)) → (Y.2 o 3 = o + 2 ∧ Y.1.2 (o + 2) = (100, 7)) → Fr (fun r _ => o < r) v w → Ex mX5_init 2 20 [(2, o), (0, (n : Int))] [] Y w mc ms (fun _ Y w => PrI X v o n Y w) := by
    intro Y w mc ms hmc hms hz hG h2 h3 hf
    have hos : Y.1.2 o = (5, 0) := (hG.2 o hr.1 (by omega)).1.trans hs
    have hini := k_rowInit (X := nX Y 6 0) (v := nV Y w) (o := (Y.1.1 : Int)) (n := n) (if_pos rfl) ⟨by omega, by show (Y.1.1 : Int) < ((Y.1.1 + 1 : Nat) : Int); omega⟩ hn
    have hN := gNewRow Y o 0 n ⟨hr.1, by omega⟩
    refine x_aload_n dX5_init_20 rfl ?_
    refine x_new nlX5_18 dX5_init_21 (by decide) (by omega) (by omega) ?_
    refine x_dup dX5_init_24 (tag1 rfl) ?_
    refine x_iload_n dX5_init_25 rfl ?_
    refine x_init dX5_init_26 mlX5_20 hini (by omega) (st := _) rfl rfl (Nat.le_of_ble_eq_true rfl) (by omega) (by omega) (Nat.le_of_ble_eq_true rfl) (fun Y2 w2 hP => ?_)
    obtain ⟨rfl, rfl⟩ := hP
    obtain ⟨n1, n2, n3, n4⟩ := hN
    refine x_putr fwX5_23 dX5_init_29 (r := o) (len := 0) ?_ ?_ (fun _ => rfl) (Nat.le_of_ble_eq_true rfl) rfl (Or.inl ⟨_, rfl⟩) ?_
    · exact ((n1.2 o hr.1 (by omega)).1).trans hos
    · exact ⟨hr.1, by show o < ((Y.1.1 + 1 + 1 : Nat) : Int); omega⟩
    have e1 : ((Y.1.1 : Nat) : Int) = o + 3 := by omega
    refine s32 _ _ _ _ (by omega) (by omega) (by rw [n2, hz]) ((hG.trans n1).mono (fun j hj => by omega)) ⟨?_, ?_⟩ ⟨?_, ?_⟩ ⟨?_, ?_⟩ ?_ ?_
    · exact ((n1.2 o hr.1 (by omega)).2 2 (fun q => absurd q.2 (by decide))).trans h2.1
    · exact ((n1.2 (o + 1) (by omega) (by omega)).1).trans h2.2
    · exact ((n1.2 o hr.1 (by omega)).2 3 (fun q => absurd q.2 (by decide))).trans h3.1
    · exact ((n1.2 (o + 2) (by omega) (by omega)).1).trans h3.2
    · rw [← e1]; exact n3
    · rw [show o + 3 = ((Y.1.1 : Nat) : Int) by omega, show o + 4 = ((Y.1.1 : Nat) : Int) + 1 by omega]; exact n4
    · rw [nV_n _ _ (by show ¬ o + 3 = ((Y.1.1 + 1 : Nat) : Int); omega), ← e1]; exact nV_s _ _ _
    · intro r j hn'
      have hn2 : ¬ o < r := hn'
      rw [nV_n _ _ (by show ¬ r = ((Y.1.1 + 1 : Nat) : Int); omega), nV_n _ _ (by omega)]; exact hf r j hn'
  refine Con.of (by decide +kernel) (fun a ha => ?_) (Nat.le_of_ble_eq_true rfl) ?_
  · rcases List.mem_cons.mp ha with rfl | ha
    · exact Nat.le_of_ble_eq_true rfl
    · rw [List.mem_singleton.mp ha]; exact Nat.le_of_ble_eq_true rfl
  show Ex mX5_init 2 0 [(2, o), (0, (n : Int))] [] X v 6 (18 + 2 * n) _
  have hN := gNewArr X o 2 100 7 ⟨hr.1, by omega⟩
  refine x_aload_n dX5_init_0 rfl ?_
  refine x_objInit dX5_init_1 mlX5_3 hr.1 (by decide) (Nat.le_of_ble_eq_true rfl) ?_
  refine x_aload_n dX5_init_4 rfl ?_
  refine x_bipush dX5_init_5 kb_7 (i32_of rfl) ?_
  refine x_newarr 7 dX5_init_7 (Or.inl ⟨rfl, rfl⟩) ac_int rfl (by decide) (by omega) (by omega) ?_
  refine x_putr fwX5_9 dX5_init_9 (r := o) (len := 0) ?_ ?_ (fun _ => rfl) (Nat.le_of_ble_eq_true rfl) rfl (Or.inr ⟨_, rfl⟩) ?_
  · exact ((hN.1.2 o hr.1 (by omega)).1).trans hs
  · exact ⟨hr.1, by show o < ((X.1.1 + 1 : Nat) : Int); omega⟩
  have s12 : ∀ (Y : XX) (w : VV) (mc ms : Nat), 5 ≤ mc → 11 + 2 * n ≤ ms → Y.1.1 = X.1.1 + 1 → GrX X Y o (fun j => j = 2) → (Y.2 o 2 = o + 1 ∧ Y.1.2 (o + 1) = (100, 7)) → Fr (fun r _ => o < r) v w → Ex mX5_init 2 12 [(2, o), (0, (n : Int))] [] Y w mc ms (fun _ Y w => PrI X v o n Y w) := by
    intro Y w mc ms hmc hms hz hG h2 hf
    have hos : Y.1.2 o = (5, 0) := (hG.2 o hr.1 (by omega)).1.trans hs
    obtain ⟨n1, n2, n3, n4⟩ := gNewArr Y o 3 100 7 ⟨hr.1, by omega⟩
    have e1 : ((Y.1.1 : Nat) : Int) = o + 2 := by omega
    refine x_aload_n dX5_init_12 rfl ?_
    refine x_bipush dX5_init_13 kb_7 (i32_of rfl) ?_
    refine x_newarr 7 dX5_init_15 (Or.inl ⟨rfl, rfl⟩) ac_int rfl (by decide) (by omega) (by omega) ?_
    refine x_putr fwX5_15 dX5_init_17 (r := o) (len := 0) ?_ ?_ (fun _ => rfl) (Nat.le_of_ble_eq_true rfl) rfl (Or.inr ⟨_, rfl⟩) ?_
    · exact ((n1.2 o hr.1 (by omega)).1).trans hos
    · exact ⟨hr.1, by show o < ((Y.1.1 + 1 : Nat) : Int); omega⟩
    refine s20 _ _ _ _ (by omega) (by omega) (by rw [n2, hz]) ((hG.trans n1).mono (fun j hj => by omega)) ⟨?_, ?_⟩ ⟨?_, ?_⟩ ?_
    · exact ((n1.2 o hr.1 (by omega)).2 2 (fun q => absurd q.2 (by decide))).trans h2.1
    · exact ((n1.2 (o + 1) (by omega) (by omega)).1).trans h2.2
    · rw [← e1]; exact n3
    · rw [← e1]; exact n4
    · intro r j hn'
      have hn2 : ¬ o < r := hn'
      rw [nV_n _ _ (by omega)]; exact hf r j hn'
  have e1 : ((X.1.1 : Nat) : Int) = o + 1 := by omega
  obtain ⟨n1, n2, n3, n4⟩ := hN
  refine s12 _ _ _ _ (by omega) (by omega) n2 n1 ⟨?_, ?_⟩ ?_
  · rw [← e1]; exact n3
  · rw [← e1]; exact n4
  · intro r j hn'
    have hn2 : ¬ o < r := hn'
    exact nV_n _ _ (by omega) j
