/-! ===== the class: rows of numbers ===== -/
def RowS (X : XX) (o c : Int) (R : Nat) : Prop := X.1.2 o = (6, 0) ∧ (0 ≤ o ∧ o < X.1.1) ∧ X.2 o 0 = c ∧ X.1.2 c = (100, R) ∧ (0 ≤ c ∧ c < X.1.1)
theorem RowS.ne {X : XX} {o c : Int} {R : Nat} (h : RowS X o c R) : ¬ o = c := fun e => by
  obtain ⟨s1, -, -, s3, -⟩ := h
  rw [e, s3] at s1
  simp at s1
theorem rowS1 {X : XX} (h : SW X) : RowS X 1 2 400 := ⟨sW1 h, gW1 h, rW1_0 h, sW2 h, gW2 h⟩
theorem rowS6 {X : XX} (h : SW X) : RowS X 6 7 401 := ⟨sW6 h, gW6 h, rW6_0 h, sW7 h, gW7 h⟩
theorem rowS8 {X : XX} (h : SW X) : RowS X 8 9 401 := ⟨sW8 h, gW8 h, rW8_0 h, sW9 h, gW9 h⟩
theorem rowS10 {X : XX} (h : SW X) : RowS X 10 11 401 := ⟨sW10 h, gW10 h, rW10_0 h, sW11 h, gW11 h⟩
theorem rowS13 {X : XX} (h : SW X) : RowS X 13 14 400 := ⟨sW13 h, gW13 h, rW13_0 h, sW14 h, gW14 h⟩
theorem rowS15 {X : XX} (h : SW X) : RowS X 15 16 400 := ⟨sW15 h, gW15 h, rW15_0 h, sW16 h, gW16 h⟩
theorem rowS17 {X : XX} (h : SW X) : RowS X 17 18 6 := ⟨sW17 h, gW17 h, rW17_0 h, sW18 h, gW18 h⟩
theorem rowS19 {X : XX} (h : SW X) : RowS X 19 20 6 := ⟨sW19 h, gW19 h, rW19_0 h, sW20 h, gW20 h⟩
theorem rowS21 {X : XX} (h : SW X) : RowS X 21 22 3 := ⟨sW21 h, gW21 h, rW21_0 h, sW22 h, gW22 h⟩
theorem rowS23 {X : XX} (h : SW X) : RowS X 23 24 3 := ⟨sW23 h, gW23 h, rW23_0 h, sW24 h, gW24 h⟩
theorem rowS28 {X : XX} (h : SW X) : RowS X 28 29 400 := ⟨sW28 h, gW28 h, rW28_0 h, sW29 h, gW29 h⟩
theorem rowS30 {X : XX} (h : SW X) : RowS X 30 31 400 := ⟨sW30 h, gW30 h, rW30_0 h, sW31 h, gW31 h⟩
theorem rowS43 {X : XX} (h : SW X) : RowS X 43 44 128 := ⟨sW43 h, gW43 h, rW43_0 h, sW44 h, gW44 h⟩
theorem rowS45 {X : XX} (h : SW X) : RowS X 45 46 128 := ⟨sW45 h, gW45 h, rW45_0 h, sW46 h, gW46 h⟩
/-- what get(i) answers -/
def rGet (v : VV) (o c i : Int) : Int := if 0 ≤ i ∧ i < v o 1 then v c i else -1
def rAdd (v : VV) (o c x : Int) : VV := upd2 (upd2 v c (v o 1) x) o 1 (v o 1 + 1)
def rCut (v : VV) (o n : Int) : VV := if 0 ≤ n ∧ n < v o 1 then upd2 v o 1 n else v
theorem rGet_in {v : VV} {o c i : Int} (h : 0 ≤ i ∧ i < v o 1) : rGet v o c i = v c i := if_pos h
theorem rGet_out {v : VV} {o c i : Int} (h : ¬ (0 ≤ i ∧ i < v o 1)) : rGet v o c i = -1 := if_neg h
theorem rAdd_1 (v : VV) (o c x : Int) : rAdd v o c x o 1 = v o 1 + 1 := upd2_s _ _ _ _
theorem rAdd_c {v : VV} {o c : Int} (h : ¬ o = c) (x i : Int) : rAdd v o c x c i = if i = v o 1 then x else v c i := by
  unfold rAdd
  rw [upd2_n _ (fun q => h q.1.symm)]
  by_cases hi : i = v o 1
  · rw [if_pos hi, hi, upd2_s]
  · rw [if_neg hi, upd2_n _ (fun q => hi q.2)]
theorem rAdd_n {v : VV} {o c x r j : Int} (h1 : ¬ r = o) (h2 : ¬ r = c) : rAdd v o c x r j = v r j := by
  unfold rAdd
  rw [upd2_n _ (fun q => h1 q.1), upd2_n _ (fun q => h2 q.1)]
theorem rAdd_f {v : VV} {o c x j : Int} (h : ¬ o = c) (hj : ¬ j = 1) : rAdd v o c x o j = v o j := by
  unfold rAdd
  rw [upd2_n _ (fun q => hj q.2), upd2_n _ (fun q => h q.1)]
theorem rCut_1 {v : VV} {o n : Int} (h0 : 0 ≤ n) (h : n ≤ v o 1) : rCut v o n o 1 = n := by
  unfold rCut
  by_cases hn : n < v o 1
  · rw [if_pos ⟨h0, hn⟩, upd2_s]
  · rw [if_neg (fun q => hn q.2)]; omega
theorem rCut_n {v : VV} {o n r j : Int} (h : ¬ (r = o ∧ j = 1)) : rCut v o n r j = v r j := by
  unfold rCut
  split
  · exact upd2_n _ h
  · rfl
set_option maxRecDepth 100000 in
set_option maxHeartbeats 4000000 in
theorem k_size {X : XX} {v : VV} {o c : Int} {R : Nat} (hW : SW X) (h : RowS X o c R) : CX mX6_size 0 [(2, o)] X v (fun o1 v1 => v1 = v ∧ o1 = some (0, v o 1)) :=
  CX.of (by decide +kernel) rfl rfl rfl (bX6_size_0 o (Nat.le_refl _) hW ⟨h.1, h.2.1, rfl, rfl, rfl⟩)
set_option maxRecDepth 100000 in
set_option maxHeartbeats 4000000 in
theorem k_get {X : XX} {v : VV} {o c : Int} {R : Nat} (hW : SW X) (h : RowS X o c R) (hs : v o 1 ≤ R) (i : Int) : CX mX6_get 0 [(2, o), (0, i)] X v (fun o1 v1 => v1 = v ∧ o1 = some (0, rGet v o c i)) := by
  obtain ⟨s1, s2, rfl, s3, s4⟩ := h
  refine CX.of (by decide +kernel) rfl rfl rfl (bX6_get_0 o i (Nat.le_refl _) hW (fun _ => ⟨fun g => ?_, fun g => ⟨s1, s2, fun g2 => ?_, fun g2 => ⟨R, s3, s4, fun g3 => by omega, fun g3 => ⟨⟨by omega, by omega⟩, ?_⟩⟩⟩⟩))
  · exact ⟨rfl, rfl, by rw [rGet_out (by omega)]⟩
  · exact ⟨rfl, rfl, by rw [rGet_out (by omega)]⟩
  · exact ⟨rfl, rfl, by rw [rGet_in (by omega)]⟩
set_option maxRecDepth 100000 in
set_option maxHeartbeats 4000000 in
theorem k_set {X : XX} {v : VV} {o c : Int} {R : Nat} (hW : SW X) (h : RowS X o c R) (hs : v o 1 ≤ R) (i x : Int) (hi : 0 ≤ i ∧ i < v o 1) : CX mX6_set 0 [(2, o), (0, i), (0, x)] X v (fun o1 v1 => v1 = upd2 v c i x) := by
  obtain ⟨s1, s2, rfl, s3, s4⟩ := h
  exact CX.of (by decide +kernel) rfl rfl rfl (bX6_set_0 o i x (Nat.le_refl _) hW (fun _ _ => ⟨fun g => by omega, fun g => ⟨s1, s2, fun g2 => by omega, fun g2 => ⟨R, s3, s4, fun g3 => by omega, fun g3 => ⟨⟨by omega, by omega⟩, rfl, rfl⟩⟩⟩⟩))
set_option maxRecDepth 100000 in
set_option maxHeartbeats 4000000 in
theorem k_add {X : XX} {v : VV} {o c : Int} {R : Nat} (hW : SW X) (h : RowS X o c R) (hR : R ≤ 60000000) (hs : 0 ≤ v o 1 ∧ v o 1 < R) (x : Int) : CX mX6_add 0 [(2, o), (0, x)] X v (fun o1 v1 => v1 = rAdd v o c x) := by
  have hne := h.ne
  obtain ⟨s1, s2, rfl, s3, s4⟩ := h
  have e : upd2 v (X.2 o 0) (v o 1) x o 1 = v o 1 := upd2_n _ (fun q => hne q.1)
  refine CX.of (by decide +kernel) rfl rfl rfl (bX6_add_0 o x (Nat.le_refl _) hW (fun _ => ⟨s1, s2, fun g => by omega, fun g => ⟨R, s3, s4, fun g2 => by omega, fun g2 => ⟨⟨by omega, by omega⟩, ?_⟩⟩⟩))
  rw [e]
  exact ⟨fun _ => ⟨by omega, by omega⟩, rfl, rfl⟩
set_option maxRecDepth 100000 in
set_option maxHeartbeats 4000000 in
theorem k_cut {X : XX} {v : VV} {o c : Int} {R : Nat} (hW : SW X) (h : RowS X o c R) (n : Int) : CX mX6_cutTo 0 [(2, o), (0, n)] X v (fun o1 v1 => v1 = rCut v o n) := by
  refine CX.of (by decide +kernel) rfl rfl rfl (bX6_cutTo_0 o n (Nat.le_refl _) hW (fun _ => ⟨fun g => ⟨rfl, ?_⟩, fun g => ⟨h.1, h.2.1, fun g2 => ⟨rfl, ?_⟩, fun g2 => ⟨rfl, ?_⟩⟩⟩))
  · unfold rCut; rw [if_neg (by omega)]
  · unfold rCut; rw [if_neg (by omega)]
  · unfold rCut; rw [if_pos (by omega)]
/-- a row is put behind another -/
def rAll (v : VV) (o c o2 c2 : Int) (v1 : VV) : Prop := v1 o 1 = v o 1 + v o2 1 ∧ (∀ i, 0 ≤ i → i < v o2 1 → v1 c (v o 1 + i) = v c2 i) ∧ Fr (fun r j => (r = o ∧ j = 1) ∨ (r = c ∧ v o 1 ≤ j ∧ j < v o 1 + v o2 1)) v v1
set_option maxRecDepth 100000 in
set_option maxHeartbeats 4000000 in
theorem k_addAll {X : XX} {v : VV} {o c o2 c2 : Int} {R R2 : Nat} (hW : SW X) (h : RowS X o c R) (h2 : RowS X o2 c2 R2) (hR : R ≤ 60000000) (h0 : 0 ≤ v o 1) (h1 : 0 ≤ v o2 1 ∧ v o2 1 ≤ R2) (hs : v o 1 + v o2 1 ≤ R) : CX mX6_addAll 2 [(2, o), (2, o2)] X v (fun o1 v1 => rAll v o c o2 c2 v1) := by
  have hne := h.ne
  obtain ⟨s1, s2, rfl, s3, s4⟩ := h
  obtain ⟨t1, t2, rfl, t3, t4⟩ := h2
  have em : (if (R : Int) - v o 1 < v o2 1 then (R : Int) - v o 1 else v o2 1) = v o2 1 := by
    by_cases hh : (R : Int) - v o 1 < v o2 1
    · omega
    · rw [if_neg hh]
  refine CX.of (by decide +kernel) rfl rfl rfl (bX6_addAll_0 o o2 (Nat.le_refl _) hW ⟨t1, t2, s1, s2, R, s3, s4, fun _ _ => ⟨by omega, by omega⟩, ?_⟩)
  rw [em]
  refine ⟨fun g => ⟨rfl, by omega, fun i i0 i1 => by omega, Fr.rf⟩, fun g => ⟨R2, t3, t4, ⟨by omega, by omega, by omega, by omega, by omega⟩, ?_⟩⟩
  have e1 : cpy2 v (X.2 o2 0) 0 (X.2 o 0) (v o 1) (v o2 1) o 1 = v o 1 := by
    unfold cpy2; rw [if_neg (fun q => hne q.1)]
  rw [e1]
  refine ⟨fun _ _ => ⟨by omega, by omega⟩, rfl, upd2_s _ _ _ _, fun i i0 i1 => ?_, fun r j hn => ?_⟩
  · rw [upd2_n _ (fun q => hne q.1.symm)]
    unfold cpy2
    rw [if_pos ⟨rfl, by omega, by omega⟩]
    congr 1; omega
  · rw [upd2_n _ (fun q => hn (Or.inl q))]
    unfold cpy2
    rw [if_neg (fun q => hn (Or.inr q))]
def rHas (v : VV) (o c x : Int) : Prop := ∃ i, 0 ≤ i ∧ i < v o 1 ∧ v c i = x
set_option maxRecDepth 100000 in
set_option maxHeartbeats 4000000 in
theorem k_has {X : XX} {v : VV} {o c : Int} {R : Nat} (hW : SW X) (h : RowS X o c R) (hR : R ≤ 60000000) (hs : 0 ≤ v o 1 ∧ v o 1 ≤ R) (x : Int) : CX mX6_has 0 [(2, o), (0, x)] X v (fun o1 v1 => v1 = v ∧ o1 = some (0, bI (rHas v o c x))) := by
  obtain ⟨s1, s2, rfl, s3, s4⟩ := h
  have key : ∀ i : Int, (0 ≤ i ∧ i ≤ v o 1) → (∀ k, 0 ≤ k → k < i → ¬ v (X.2 o 0) k = x) → Ex mX6_has 0 2 [(2, o), (0, x), (0, i)] [] X v 0 0 (fun o1 X1 v1 => X1 = X ∧ v1 = v ∧ o1 = some (0, bI (rHas v o (X.2 o 0) x))) := by
    refine loop1 (fun i : Int => (v o 1 - i).toNat) (fun i : Int => (0 ≤ i ∧ i ≤ v o 1) → (∀ k, 0 ≤ k → k < i → ¬ v (X.2 o 0) k = x) → Ex mX6_has 0 2 [(2, o), (0, x), (0, i)] [] X v 0 0 (fun o1 X1 v1 => X1 = X ∧ v1 = v ∧ o1 = some (0, bI (rHas v o (X.2 o 0) x)))) (fun i ih => ?_)
    intro hi hp
    refine bX6_has_2 o x i (Nat.le_refl _) hW (fun _ _ => ⟨s1, s2, fun g => ?_, fun g => ⟨R, s3, s4, fun g2 => by omega, fun g2 => ⟨⟨by omega, by omega⟩, fun g3 => ⟨⟨by omega, by omega⟩, ?_⟩, fun g3 => ?_⟩⟩⟩)
    · exact ⟨rfl, rfl, by rw [bI_f (fun ⟨k, k0, k1, k2⟩ => hp k k0 (by omega) k2)]⟩
    · refine ih (i + 1) (by omega) ⟨by omega, by omega⟩ (fun k k0 k1 hh => ?_)
      by_cases hk : k = i
      · subst hk; exact g3 hh
      · exact hp k k0 (by omega) hh
    · exact ⟨rfl, rfl, by rw [bI_t ⟨i, hi.1, g, g3⟩]⟩
  exact CX.of (by decide +kernel) rfl rfl rfl (bX6_has_0 o x (Nat.le_refl _) hW (fun _ => key 0 ⟨Int.le_refl _, hs.1⟩ (fun k k0 k1 => by omega)))
def rSame (v : VV) (o c o2 c2 : Int) : Prop := v o 1 = v o2 1 ∧ ∀ i, 0 ≤ i → i < v o 1 → v c i = v c2 i
set_option maxRecDepth 100000 in
set_option maxHeartbeats 4000000 in
theorem k_same {X : XX} {v : VV} {o c o2 c2 : Int} {R R2 : Nat} (hW : SW X) (h : RowS X o c R) (h2 : RowS X o2 c2 R2) (hR : R ≤ 60000000) (hs : 0 ≤ v o 1 ∧ v o 1 ≤ R) (hs2 : v o2 1 ≤ R2) : CX mX6_isSame 1 [(2, o), (2, o2)] X v (fun o1 v1 => v1 = v ∧ o1 = some (0, bI (rSame v o c o2 c2))) := by
  have key : v o 1 = v o2 1 → ∀ i : Int, (0 ≤ i ∧ i ≤ v o 1) → (∀ k, 0 ≤ k → k < i → v c k = v c2 k) → Ex mX6_isSame 1 15 [(2, o), (2, o2), (0, i)] [] X v 0 0 (fun o1 X1 v1 => X1 = X ∧ v1 = v ∧ o1 = some (0, bI (rSame v o c o2 c2))) := fun he => by
    refine loop1 (fun i : Int => (v o 1 - i).toNat) (fun i : Int => (0 ≤ i ∧ i ≤ v o 1) → (∀ k, 0 ≤ k → k < i → v c k = v c2 k) → Ex mX6_isSame 1 15 [(2, o), (2, o2), (0, i)] [] X v 0 0 (fun o1 X1 v1 => X1 = X ∧ v1 = v ∧ o1 = some (0, bI (rSame v o c o2 c2)))) (fun i ih => ?_)
    intro hi hp
    refine bX6_isSame_15 o o2 i (Nat.le_refl _) hW (fun _ => ⟨h.1, h.2.1, fun g => ?_, fun g => ⟨_, k_get hW h hs.2 i, fun r5 w6 hP => ?_⟩⟩)
    · exact ⟨rfl, rfl, by rw [bI_t ⟨he, fun k k0 k1 => hp k k0 (by omega)⟩]⟩
    · obtain ⟨rfl, hr⟩ := hP
      obtain rfl : r5 = rGet w6 o c i := by simpa using hr
      refine ⟨h2.1, h2.2.1, _, k_get hW h2 hs2 i, fun r10 w11 hP => ?_⟩
      obtain ⟨rfl, hr10⟩ := hP
      obtain rfl : r10 = rGet w11 o2 c2 i := by simpa using hr10
      rw [rGet_in ⟨hi.1, g⟩, rGet_in ⟨hi.1, by omega⟩]
      refine ⟨fun g2 => ⟨⟨by omega, by omega⟩, ?_⟩, fun g2 => ?_⟩
      · refine ih (i + 1) (by omega) ⟨by omega, by omega⟩ (fun k k0 k1 => ?_)
        by_cases hk : k = i
        · subst hk; exact g2
        · exact hp k k0 (by omega)
      · exact ⟨rfl, rfl, by rw [bI_f (fun z => g2 (z.2 i hi.1 g))]⟩
  refine CX.of (by decide +kernel) rfl rfl rfl (bX6_isSame_0 o o2 (Nat.le_refl _) hW ⟨h.1, h.2.1, h2.1, h2.2.1, fun g => key g 0 ⟨Int.le_refl _, hs.1⟩ (fun k k0 k1 => by omega), fun g => ⟨rfl, rfl, by rw [bI_f (fun z => g z.1)]⟩⟩)
