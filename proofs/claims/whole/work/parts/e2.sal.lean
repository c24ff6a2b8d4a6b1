/-! ===== step: alike ===== -/
theorem RowL.same {v : VV} {o c o2 c2 : Int} {L L' : List Int} (h : RowL v o c L) (h' : RowL v o2 c2 L') : rSame v o c o2 c2 ↔ L = L' := by
  constructor
  · rintro ⟨h1, h2⟩
    rw [h.1, h'.1] at h1
    have hl : L.length = L'.length := by omega
    refine List.ext_getElem? (fun i => ?_)
    by_cases q : i < L.length
    · have q' : i < L'.length := by omega
      have e := h.2 i _ (List.getElem?_eq_getElem q)
      have e' := h'.2 i _ (List.getElem?_eq_getElem q')
      have e2 := h2 i (by omega) (by rw [h.1]; omega)
      rw [List.getElem?_eq_getElem q, List.getElem?_eq_getElem q']
      exact congrArg some (e.symm.trans (e2.trans e'))
    · rw [List.getElem?_eq_none (by omega), List.getElem?_eq_none (by omega)]
  · rintro rfl
    refine ⟨by rw [h.1, h'.1], fun i i0 i1 => ?_⟩
    rw [h.1] at i1
    have hi : i.toNat < L.length := by omega
    have e := h.2 i.toNat _ (List.getElem?_eq_getElem hi)
    have e' := h'.2 i.toNat _ (List.getElem?_eq_getElem hi)
    rw [Int.toNat_of_nonneg i0] at e e'
    rw [e, e']
theorem wd_last {b : Int → Int} {n a : Int} {m : Nat} (hX : TX b n) (h : tS b n (a + m) = n) : wdN b n a (m + 1) = wdN b n a m := by
  have e1 : wdS b n (a + m) m (wdN b n a m) = wdN b n a m := by
    unfold wdS
    rw [h, gB_out (fun z => by omega), if_neg (fun z => by have := ltB_iff.mp z.2.1; omega)]
  have e2 : tL b n (a + m) = 0 := by
    have t := tL_pos hX (a + m)
    omega
  show wdS b n (a + m) m (wdN b n a m) ++ tkBk b n (a + m) (tL b n (a + m)).toNat = _
  rw [e1, e2]
  exact List.append_nil _
theorem tk_all {b : Int → Int} {n A : Int} (hX : TX b n) (hs : (rStmt b n).1 = true) (hA : (rStmt b n).2 = A) (h2 : 2 ≤ A) : TkG b n 2 (A - 2).toNat ∧ tS b n A = n := by
  have g := gr_stmt hs
  rw [hA] at g
  have he := rStmt_end hs
  rw [hA] at he
  refine ⟨⟨by decide, fun i i0 i1 => ?_⟩, (tK_end b hX A).mp he⟩
  obtain ⟨⟨g1, g2⟩, g3⟩ := g i i0 (by omega)
  exact ⟨(tK_in b hX (by omega) g2).1, g1, fun z => g3 (by omega)⟩
theorem alk_wd {b b' : Int → Int} {n n' t t' : Int} {v : VV} (k : TKt b n t (v 60 t) v) (k' : TKt b' n' t' (v 60 t') v) (e67 : v 67 t = 2) (e67' : v 67 t' = 2) (h2 : 2 ≤ v 60 t) (h2' : 2 ≤ v 60 t') (hs : (rStmt b n).1 = true) (hs' : (rStmt b' n').1 = true) (hA : (rStmt b n).2 = v 60 t) (hA' : (rStmt b' n').2 = v 60 t') : alk v t t' ↔ wdN b n 2 (v 60 t - 1).toNat = wdN b' n' 2 (v 60 t' - 1).toNat := by
  obtain ⟨k1, k2, hX, -, -⟩ := k
  obtain ⟨k1', k2', hX', -, -⟩ := k'
  obtain ⟨g1, g2⟩ := tk_all hX hs hA h2
  obtain ⟨g1', g2'⟩ := tk_all hX' hs' hA' h2'
  obtain ⟨M, hM⟩ : ∃ M : Nat, v 60 t = M + 2 := ⟨(v 60 t - 2).toNat, by omega⟩
  obtain ⟨M', hM'⟩ : ∃ M : Nat, v 60 t' = M + 2 := ⟨(v 60 t' - 2).toNat, by omega⟩
  have e1 : wdN b n 2 (v 60 t - 1).toNat = wdN b n 2 M := by
    rw [show (v 60 t - 1).toNat = M + 1 by omega]
    exact wd_last hX (by rw [show 2 + (M : Int) = v 60 t by omega]; exact g2)
  have e1' : wdN b' n' 2 (v 60 t' - 1).toNat = wdN b' n' 2 M' := by
    rw [show (v 60 t' - 1).toNat = M' + 1 by omega]
    exact wd_last hX' (by rw [show 2 + (M' : Int) = v 60 t' by omega]; exact g2')
  rw [e1, e1']
  rw [show (v 60 t - 2).toNat = M by omega] at g1
  rw [show (v 60 t' - 2).toNat = M' by omega] at g1'
  have row : ∀ i : Nat, i < M → i < M' → (tkEq v t t' (2 + i) (2 + i) ↔ (tL b n (2 + i) = tL b' n' (2 + i) ∧ ∀ k : Int, 0 ≤ k → k < tL b n (2 + i) → b (tS b n (2 + i) + k) = b' (tS b' n' (2 + i) + k))) := fun i hi hi' => by
    unfold tkEq
    obtain ⟨a1, a2, a3⟩ := k1 (2 + i) (by omega) (by omega)
    obtain ⟨c1, c2, c3⟩ := k1' (2 + i) (by omega) (by omega)
    rw [a1, a2, a3, c1, c2, c3]
    have p := tL_pos hX (2 + (i : Int))
    have p' := tL_pos hX' (2 + (i : Int))
    have s := (tS_bd b hX.1.1 (2 + (i : Int))).1
    have s' := (tS_bd b' hX'.1.1 (2 + (i : Int))).1
    have lt := (g1.2 (2 + i) (by omega) (by omega)).1
    have lt' := (g1'.2 (2 + i) (by omega) (by omega)).1
    have f : ∀ k : Int, 0 ≤ k → k < tL b n (2 + i) → v 64 (400 * t + tS b n (2 + i) + k) = b (tS b n (2 + i) + k) := fun k k0 k1 => by
      rw [Int.add_assoc]; exact k2 _ (by omega) (by omega)
    have f' : ∀ k : Int, 0 ≤ k → k < tL b' n' (2 + i) → v 64 (400 * t' + tS b' n' (2 + i) + k) = b' (tS b' n' (2 + i) + k) := fun k k0 k1 => by
      rw [Int.add_assoc]; exact k2' _ (by omega) (by omega)
    constructor
    · rintro ⟨-, z2, z3⟩
      refine ⟨z2, fun k k0 k1 => ?_⟩
      have z := z3 k k0 k1
      rw [f k k0 k1, f' k k0 (by omega)] at z
      exact z
    · rintro ⟨z2, z3⟩
      refine ⟨?_, z2, fun k k0 k1 => ?_⟩
      · have z := z3 0 (Int.le_refl 0) (p.2.2 lt)
        rw [Int.add_zero, Int.add_zero] at z
        unfold lNow
        rw [if_neg (show ¬ tS b n (2 + (i : Int)) = n by omega), if_neg (show ¬ tS b' n' (2 + (i : Int)) = n' by omega), z]
      · rw [f k k0 k1, f' k k0 (by omega)]
        exact z3 k k0 k1
  constructor
  · rintro ⟨z1, z2⟩
    rw [hM, hM', e67, e67'] at z1
    obtain rfl : M = M' := by omega
    refine wd_eq hX hX' (M := M) (fun i hi => (row i hi hi).mp ?_) M (Nat.le_refl _)
    have z := z2 i (by omega) (by rw [hM, e67]; omega)
    rw [e67, e67'] at z
    exact z
  · intro he
    have hle : M = M' := by
      have q1 := wd_cnt hX hX' g1 g1' he
      have q2 := wd_cnt hX' hX g1' g1 he.symm
      omega
    subst hle
    refine ⟨by rw [hM, hM', e67, e67'], fun i i0 i1 => ?_⟩
    rw [hM, e67] at i1
    have hi : i.toNat < M := by omega
    have z := (row i.toNat hi hi).mpr (wd_dec hX hX' g1 g1' he M (Nat.le_refl _) (Nat.le_refl _) i.toNat hi)
    rw [Int.toNat_of_nonneg i0] at z
    rw [e67, e67']
    exact z
theorem s_alike {G : GT} {cC : Int → Nat} {E : Int} {X : XX} {v : VV} (h : I2 G cC E X v (mp v)) (a1 a2 : Int) : StpOK mX10_alike mX11_alike 2 2 [(0, a1), (0, a2)] E X v := by
  refine StpOK.cx h.1.1 (k_alike h.1 a1 a2) (fun o w hp => ?_)
  obtain ⟨rfl, ho⟩ := hp
  have hM : MIn G E w := h.1.2.1
  obtain ⟨hMS, -, -, -, -, -, hsel⟩ := hM
  have hC := c_alike (X := X) h.1.1 hMS (fun t ht => by obtain ⟨q1, q2, -⟩ := hsel t ht; omega) a1 a2
  rcases ho with ⟨hy, ho⟩ | ⟨hn, ho⟩
  · have hy' : isS w a1 ∧ isS w a2 ∧ ¬ a1 = a2 := hy
    refine ⟨_, ho, hC.mono (fun o' w' hq => ?_)⟩
    obtain ⟨rfl, hq⟩ := hq
    refine ⟨?_, G, cC, h.mono (by omega)⟩
    rcases hq with ⟨-, hq⟩ | ⟨hq, -⟩
    · obtain ⟨⟨_, _, _, -, -, -, -, -, r1⟩, -⟩ := h.1.tab hy.1.1
      obtain ⟨⟨_, _, _, -, -, -, -, -, r2⟩, -⟩ := h.1.tab hy.2.1.1
      have r1' : RowL w' (X.2 37 a1 + 11) (X.2 37 a1 + 12) (wdN (G a1).1 (G a1).2 2 (w' 60 a1 - 1).toNat) := r1 hy.1.2
      have r2' : RowL w' (X.2 37 a2 + 11) (X.2 37 a2 + 12) (wdN (G a2).1 (G a2).2 2 (w' 60 a2 - 1).toNat) := r2 hy.2.1.2
      obtain ⟨q1, q2, q3, q4⟩ := hsel a1 hy'.1
      obtain ⟨p1, p2, p3, p4⟩ := hsel a2 hy'.2.1
      have e := (alk_wd (hMS.2.2 a1 hy'.1).1 (hMS.2.2 a2 hy'.2.1).1 q1 p1 q2 p2 q3 p3 q4 p4).trans (r1'.same r2').symm
      rw [hq, propext e]
    · exact absurd hy' hq
  · refine ⟨-1, ho, hC.mono (fun o' w' hq => ?_)⟩
    obtain ⟨rfl, hq⟩ := hq
    refine ⟨?_, G, cC, h.mono (by omega)⟩
    rcases hq with ⟨hq, -⟩ | ⟨-, hq⟩
    · exact absurd hq hn
    · exact hq
