/-! ===== the reference's ages ===== -/
/-- what the tables are, table by table -/
def MTt (v : VV) (t : Int) : Prop := (v 48 t = 0 ∨ v 48 t = 1) ∧ (0 ≤ v 50 t ∧ v 50 t ≤ 3) ∧ (1 ≤ v 51 t ∧ v 51 t ≤ 6) ∧ (0 ≤ v 54 t ∧ v 54 t ≤ 3) ∧ (∀ k, 0 ≤ k → k < v 54 t → 0 ≤ v 55 (3 * t + k) ∧ v 55 (3 * t + k) < t ∧ (v 48 t = 1 → v 48 (v 55 (3 * t + k)) = 1)) ∧ (v 50 t = 0 ∨ v 50 t = 3 → v 54 t = 0) ∧ (v 50 t = 1 ∨ v 50 t = 2 → 1 ≤ v 54 t) ∧ (-1 ≤ v 56 t ∧ v 56 t ≤ 9) ∧ (-1 ≤ v 57 t ∧ v 57 t ≤ 1000) ∧ ((v 58 t = -1 ∧ v 59 t = -1) ∨ (0 ≤ v 58 t ∧ v 58 t ≤ v 59 t ∧ v 59 t ≤ 30000))
def MT (v : VV) : Prop := ∀ t, 0 ≤ t → t < v 47 0 → MTt v t
def agL (g : Int → Int × Int) (fr : Int → Int) : Nat → Option (Int × Int)
  | 0 => some (-1, -1)
  | n + 1 => match agL g fr n with
    | none => none
    | some q => if (g (fr n)).2 = -1 then none else some (if q.1 = -1 ∨ (g (fr n)).1 < q.1 then (g (fr n)).1 else q.1, if q.2 < (g (fr n)).2 then (g (fr n)).2 else q.2)
theorem agL_none {g : Int → Int × Int} {fr : Int → Int} {n : Nat} (h : agL g fr n = none) : ∀ m : Nat, n ≤ m → agL g fr m = none := by
  intro m hm
  induction m with
  | zero => rw [show n = 0 by omega] at h; exact h
  | succ m ih =>
    by_cases he : n = m + 1
    · rw [← he]; exact h
    · unfold agL; rw [ih (by omega)]
theorem agL_congr {g g' : Int → Int × Int} {fr fr' : Int → Int} : ∀ (n : Nat), (∀ i : Int, 0 ≤ i → i < n → g (fr i) = g' (fr' i)) → agL g fr n = agL g' fr' n
  | 0, _ => rfl
  | n + 1, h => by
    unfold agL
    rw [agL_congr n (fun i a b => h i a (by omega)), h n (by omega) (by omega)]
def agB (v : VV) (g : Int → Int × Int) (t : Int) : Int × Int := (agL g (fun k => v 55 (3 * t + k)) (v 54 t).toNat).getD (-1, -1)
def ABs (v0 : VV) (t o y : Int) (V : VV) : Prop := V 78 t = o ∧ V 79 t = y ∧ ∀ r j, ¬ (r = 78 ∧ j = t) → ¬ (r = 79 ∧ j = t) → V r j = v0 r j
theorem ABs.o {v0 V : VV} {t o y : Int} (h : ABs v0 t o y V) (z : Int) : ABs v0 t z y (upd2 V 78 t z) :=
  ⟨upd2_s _ _ _ _, by rw [upd2_n _ (by omega)]; exact h.2.1, fun r j h1 h2 => by rw [upd2_n _ h1]; exact h.2.2 r j h1 h2⟩
theorem ABs.y {v0 V : VV} {t o y : Int} (h : ABs v0 t o y V) (z : Int) : ABs v0 t o z (upd2 V 79 t z) :=
  ⟨by rw [upd2_n _ (by omega)]; exact h.1, upd2_s _ _ _ _, fun r j h1 h2 => by rw [upd2_n _ h2]; exact h.2.2 r j h1 h2⟩
theorem ABs.eq {v0 V : VV} {t o y : Int} (h : ABs v0 t o y V) : V = upd2 (upd2 v0 78 t o) 79 t y := by
  funext r j
  unfold upd2
  by_cases h2 : r = 79 ∧ j = t
  · rw [if_pos h2, h2.1, h2.2]; exact h.2.1
  · rw [if_neg h2]
    by_cases h1 : r = 78 ∧ j = t
    · rw [if_pos h1, h1.1, h1.2]; exact h.1
    · rw [if_neg h1]; exact h.2.2 r j h1 h2
set_option maxRecDepth 100000 in
set_option maxHeartbeats 4000000 in
theorem l_agesBehind {X : XX} {v0 : VV} {Q : QQ} {d mc ms : Nat} (hW : SW X) (a1 : Int) (ha : 0 ≤ a1 ∧ a1 < 17) (hc : 0 ≤ v0 54 a1 ∧ v0 54 a1 ≤ 3) (hf : ∀ k, 0 ≤ k → k < v0 54 a1 → 0 ≤ v0 55 (3 * a1 + k) ∧ v0 55 (3 * a1 + k) < 17 ∧ ¬ v0 55 (3 * a1 + k) = a1) (hd : 0 ≤ d)
    (hQ : ∀ V, ABs v0 a1 (agB v0 (fun q => (v0 78 q, v0 79 q)) a1).1 (agB v0 (fun q => (v0 78 q, v0 79 q)) a1).2 V → Q none X V) :
    ∀ (x2 : Int) (oy : Int × Int) (V : VV), (0 ≤ x2 ∧ x2 ≤ v0 54 a1) → agL (fun q => (v0 78 q, v0 79 q)) (fun k => v0 55 (3 * a1 + k)) x2.toNat = some oy → ABs v0 a1 oy.1 oy.2 V → Ex mX11_agesBehind d 16 [(2, 47), (0, a1), (0, x2), (3, 0)] [] X V mc ms Q := by
  refine loop3 (fun x2 _ _ => (v0 54 a1 - x2).toNat) (fun x2 oy V => (0 ≤ x2 ∧ x2 ≤ v0 54 a1) → agL (fun q => (v0 78 q, v0 79 q)) (fun k => v0 55 (3 * a1 + k)) x2.toNat = some oy → ABs v0 a1 oy.1 oy.2 V → Ex mX11_agesBehind d 16 [(2, 47), (0, a1), (0, x2), (3, 0)] [] X V mc ms Q) (fun x2 oy V ih => ?_)
  intro hk hL hA
  have e54 : V 54 a1 = v0 54 a1 := hA.2.2 54 a1 (by omega) (by omega)
  refine bX11_agesBehind_16 a1 x2 hd hW (fun h1 h2 => ⟨ha, fun g => ?_, fun g => ?_⟩)
  · refine hQ V ?_
    have e : x2.toNat = (v0 54 a1).toNat := by omega
    rw [e] at hL
    unfold agB
    rw [hL]
    exact hA
  · rw [e54] at g
    obtain ⟨f1, f2, f3⟩ := hf x2 hk.1 g
    have e55 : V 55 (3 * a1 + x2) = v0 55 (3 * a1 + x2) := hA.2.2 55 _ (by omega) (by omega)
    rw [e55]
    have e79 : V 79 (v0 55 (3 * a1 + x2)) = v0 79 (v0 55 (3 * a1 + x2)) := hA.2.2 79 _ (by omega) (by omega)
    have e78 : V 78 (v0 55 (3 * a1 + x2)) = v0 78 (v0 55 (3 * a1 + x2)) := hA.2.2 78 _ (by omega) (by omega)
    have hL1 : agL (fun q => (v0 78 q, v0 79 q)) (fun k => v0 55 (3 * a1 + k)) (x2 + 1).toNat = if v0 79 (v0 55 (3 * a1 + x2)) = -1 then none else some (if oy.1 = -1 ∨ v0 78 (v0 55 (3 * a1 + x2)) < oy.1 then v0 78 (v0 55 (3 * a1 + x2)) else oy.1, if oy.2 < v0 79 (v0 55 (3 * a1 + x2)) then v0 79 (v0 55 (3 * a1 + x2)) else oy.2) := by
      rw [show (x2 + 1).toNat = x2.toNat + 1 by omega]
      show (match agL _ _ x2.toNat with | none => none | some q => _) = _
      rw [hL]
      simp only [Int.toNat_of_nonneg hk.1]
    -- behind label 99
    have key : ∀ (o' : Int) (V' : VV), o' = (if oy.1 = -1 ∨ v0 78 (v0 55 (3 * a1 + x2)) < oy.1 then v0 78 (v0 55 (3 * a1 + x2)) else oy.1) → ABs v0 a1 o' oy.2 V' → ¬ v0 79 (v0 55 (3 * a1 + x2)) = -1 → Ex mX11_agesBehind d 99 [(2, 47), (0, a1), (0, x2), (0, v0 55 (3 * a1 + x2))] [] X V' mc ms Q := by
      intro o' V' ho hA' hne
      have q79 : V' 79 (v0 55 (3 * a1 + x2)) = v0 79 (v0 55 (3 * a1 + x2)) := hA'.2.2 79 _ (by omega) (by omega)
      refine bX11_agesBehind_99 a1 x2 _ hd hW (fun _ _ _ => ⟨⟨f1, f2⟩, ha, fun g2 => ⟨⟨by omega, by omega⟩, ?_⟩, fun g2 => ⟨⟨f1, f2⟩, ha, ⟨by omega, by omega⟩, ?_⟩⟩)
      · rw [q79, hA'.2.1] at g2
        refine ih (x2 + 1) (o', oy.2) V' (by omega) ⟨by omega, by omega⟩ ?_ hA'
        rw [hL1, if_neg hne, ← ho, if_neg (by omega)]
      · rw [q79, hA'.2.1] at g2
        rw [q79]
        refine ih (x2 + 1) (o', v0 79 (v0 55 (3 * a1 + x2))) _ (by omega) ⟨by omega, by omega⟩ ?_ (hA'.y _)
        rw [hL1, if_neg hne, ← ho, if_pos (by omega)]
    have key87 : ¬ v0 79 (v0 55 (3 * a1 + x2)) = -1 → (oy.1 = -1 ∨ v0 78 (v0 55 (3 * a1 + x2)) < oy.1) → Ex mX11_agesBehind d 87 [(2, 47), (0, a1), (0, x2), (0, v0 55 (3 * a1 + x2))] [] X V mc ms Q := by
      intro hne ho
      refine bX11_agesBehind_87 a1 x2 _ hd hW (fun _ _ _ => ⟨⟨f1, f2⟩, ha, ?_⟩)
      rw [e78]
      exact key _ _ (by rw [if_pos ho]) (hA.o _) hne
    refine ⟨⟨by omega, by omega⟩, fun _ => ⟨by omega, by omega⟩, ⟨by omega, by omega⟩, ⟨f1, f2⟩, fun g2 => ⟨ha, fun g3 => ?_, fun g3 => ⟨⟨f1, f2⟩, ha, fun g4 => ?_, fun g4 => ?_⟩⟩, fun g2 => ⟨ha, ha, ?_⟩⟩
    · rw [e79] at g2; rw [hA.1] at g3; exact key87 g2 (Or.inl g3)
    · rw [e79] at g2; rw [hA.1] at g3 g4; rw [e78] at g4
      exact key oy.1 V (by rw [if_neg (by omega)]) hA g2
    · rw [e79] at g2; rw [hA.1] at g3 g4; rw [e78] at g4; exact key87 g2 (Or.inr g4)
    · rw [e79] at g2
      have hn : agL (fun q => (v0 78 q, v0 79 q)) (fun k => v0 55 (3 * a1 + k)) (v0 54 a1).toNat = none := agL_none (n := (x2 + 1).toNat) (by rw [hL1, if_pos g2]) _ (by omega)
      refine hQ _ ?_
      unfold agB
      rw [hn]
      exact (hA.o (-1)).y (-1)
set_option maxRecDepth 100000 in
theorem c_agesBehind {X : XX} {v : VV} (hW : SW X) (a1 : Int) (ha : 0 ≤ a1 ∧ a1 < 17) (hc : 0 ≤ v 54 a1 ∧ v 54 a1 ≤ 3) (hf : ∀ k, 0 ≤ k → k < v 54 a1 → 0 ≤ v 55 (3 * a1 + k) ∧ v 55 (3 * a1 + k) < 17 ∧ ¬ v 55 (3 * a1 + k) = a1) : CX mX11_agesBehind 0 [(2, 47), (0, a1)] X v (fun o v1 => ABs v a1 (agB v (fun q => (v 78 q, v 79 q)) a1).1 (agB v (fun q => (v 78 q, v 79 q)) a1).2 v1) := by
  refine CX.of (by decide +kernel) rfl rfl rfl (bX11_agesBehind_0 a1 (Nat.le_refl _) hW (fun _ => ⟨ha, ha, ?_⟩))
  exact l_agesBehind hW a1 ha hc hf (Nat.le_refl _) (fun V hV => ⟨rfl, hV⟩) 0 (-1, -1) _ ⟨by omega, by omega⟩ rfl ⟨by rw [upd2_n _ (by omega), upd2_s], upd2_s _ _ _ _, fun r j h1 h2 => by rw [upd2_n _ h2, upd2_n _ h1]⟩
def agF (v : VV) : Nat → Int → Int × Int
  | 0, _ => (-1, -1)
  | f + 1, t => if v 50 t = 1 then agB v (agF v f) t else (v 58 t, v 59 t)
/-- the age of a table -/
def ag (v : VV) (t : Int) : Int × Int := agF v 17 t
theorem agB_congr {v v' : VV} {g g' : Int → Int × Int} {t : Int} (hc : 0 ≤ v 54 t) (h54 : v' 54 t = v 54 t) (h55 : ∀ k, 0 ≤ k → k < v 54 t → v' 55 (3 * t + k) = v 55 (3 * t + k)) (hg : ∀ k, 0 ≤ k → k < v 54 t → g' (v 55 (3 * t + k)) = g (v 55 (3 * t + k))) : agB v' g' t = agB v g t := by
  unfold agB
  rw [h54, agL_congr (g := g') (g' := g) (fr := fun k => v' 55 (3 * t + k)) (fr' := fun k => v 55 (3 * t + k)) (v 54 t).toNat (fun i a b => by
    show g' (v' 55 (3 * t + i)) = g (v 55 (3 * t + i))
    rw [h55 i a (by omega)]; exact hg i a (by omega))]
theorem agF_fuel {v : VV} (hM : MT v) : ∀ (f f' : Nat) (t : Int), 0 ≤ t → t < v 47 0 → t.toNat < f → t.toNat < f' → agF v f t = agF v f' t := by
  intro f
  induction f with
  | zero => intro f' t _ _ h; exact absurd h (Nat.not_lt_zero _)
  | succ f ih =>
    intro f' t h0 h1 h2 h3
    cases f' with
    | zero => exact absurd h3 (Nat.not_lt_zero _)
    | succ f' =>
      obtain ⟨-, -, -, m4, m5, -⟩ := hM t h0 h1
      unfold agF
      split
      · refine agB_congr (by omega) rfl (fun _ _ _ => rfl) (fun k k0 k1 => ?_)
        obtain ⟨q0, q1, -⟩ := m5 k k0 k1
        exact ih f' _ q0 (by omega) (by omega) (by omega)
      · rfl
theorem ag_eq {v : VV} (hb : v 47 0 ≤ 16) (hM : MT v) (t : Int) (h0 : 0 ≤ t) (h1 : t < v 47 0) : ag v t = if v 50 t = 1 then agB v (ag v) t else (v 58 t, v 59 t) := by
  unfold ag
  show (if v 50 t = 1 then agB v (agF v 16) t else (v 58 t, v 59 t)) = _
  split
  · obtain ⟨-, -, -, m4, m5, -⟩ := hM t h0 h1
    refine agB_congr (by omega) rfl (fun _ _ _ => rfl) (fun k k0 k1 => ?_)
    obtain ⟨q0, q1, -⟩ := m5 k k0 k1
    exact agF_fuel hM _ _ _ q0 (by omega) (by omega) (by omega)
  · rfl
/-- behind ages(): the two rows hold the ages -/
def AG (v v1 : VV) (x : Int) : Prop := (∀ t, 0 ≤ t → t < x → v1 78 t = (ag v t).1 ∧ v1 79 t = (ag v t).2) ∧ ∀ r j, ¬ (r = 78 ∨ r = 79) → v1 r j = v r j
set_option maxRecDepth 100000 in
set_option maxHeartbeats 4000000 in
theorem l_ages {X : XX} {v : VV} {Q : QQ} {d mc ms : Nat} (hW : SW X) (hb : MB v) (hM : MT v) (hd : 1 ≤ d) (hQ : ∀ V, AG v V (v 47 0) → Q none X V) :
    ∀ (x1 : Int) (V : VV), (0 ≤ x1 ∧ x1 ≤ v 47 0) → AG v V x1 → Ex mX11_ages d 2 [(2, 47), (0, x1)] [] X V mc ms Q := by
  refine loop2 (fun x1 _ => (v 47 0 - x1).toNat) (fun x1 V => (0 ≤ x1 ∧ x1 ≤ v 47 0) → AG v V x1 → Ex mX11_ages d 2 [(2, 47), (0, x1)] [] X V mc ms Q) (fun x1 V ih => ?_)
  intro hk hA
  have hb1 := hb.1
  have e0 : V 47 0 = v 47 0 := hA.2 47 0 (by omega)
  refine bX11_ages_2 x1 hd hW (fun _ => ⟨fun g => ?_, fun g => ?_⟩)
  · rw [e0] at g
    refine hQ V ?_
    rw [show v 47 0 = x1 by omega]; exact hA
  · rw [e0] at g
    have e50 : V 50 x1 = v 50 x1 := hA.2 50 x1 (by omega)
    have e58 : V 58 x1 = v 58 x1 := hA.2 58 x1 (by omega)
    have e59 : V 59 x1 = v 59 x1 := hA.2 59 x1 (by omega)
    rw [e50, e58, e59]
    have hx : 0 ≤ x1 ∧ x1 < 17 := ⟨hk.1, by omega⟩
    have hag := ag_eq (by omega) hM x1 hk.1 g
    refine ⟨hx, hx, hx, hx, hx, fun g2 => ⟨⟨by omega, by omega⟩, ?_⟩, fun g2 => ?_⟩
    · rw [if_neg g2] at hag
      refine ih (x1 + 1) _ (by omega) ⟨by omega, by omega⟩ ⟨fun t h0 h1 => ?_, fun r j h => ?_⟩
      · by_cases ht : t = x1
        · subst ht; rw [hag]; exact ⟨by rw [upd2_n _ (by omega), upd2_s], upd2_s _ _ _ _⟩
        · rw [upd2_n _ (by omega), upd2_n _ (by omega), upd2_n _ (by omega), upd2_n _ (by omega)]; exact hA.1 t h0 (by omega)
      · rw [upd2_n _ (by omega), upd2_n _ (by omega)]; exact hA.2 r j h
    · rw [if_pos g2] at hag
      obtain ⟨-, -, -, m4, m5, -⟩ := hM x1 hk.1 g
      have e54 : ∀ j, upd2 (upd2 V 78 x1 (v 58 x1)) 79 x1 (v 59 x1) 54 j = v 54 j := fun j => by rw [upd2_n _ (by omega), upd2_n _ (by omega)]; exact hA.2 54 j (by omega)
      have e55 : ∀ j, upd2 (upd2 V 78 x1 (v 58 x1)) 79 x1 (v 59 x1) 55 j = v 55 j := fun j => by rw [upd2_n _ (by omega), upd2_n _ (by omega)]; exact hA.2 55 j (by omega)
      refine ⟨_, c_agesBehind hW x1 hx (by rw [e54]; exact m4) (fun k k0 k1 => ?_), fun w hP => ⟨⟨by omega, by omega⟩, ?_⟩⟩
      · rw [e54] at k1
        rw [e55]
        obtain ⟨q0, q1, -⟩ := m5 k k0 k1
        exact ⟨q0, by omega, by omega⟩
      · have hE : agB (upd2 (upd2 V 78 x1 (v 58 x1)) 79 x1 (v 59 x1)) (fun q => (upd2 (upd2 V 78 x1 (v 58 x1)) 79 x1 (v 59 x1) 78 q, upd2 (upd2 V 78 x1 (v 58 x1)) 79 x1 (v 59 x1) 79 q)) x1 = ag v x1 := by
          rw [hag]
          refine agB_congr (by omega) (e54 _) (fun k _ _ => e55 _) (fun k k0 k1 => ?_)
          obtain ⟨q0, q1, -⟩ := m5 k k0 k1
          have h9 := hA.1 _ q0 q1
          show (upd2 (upd2 V 78 x1 (v 58 x1)) 79 x1 (v 59 x1) 78 _, upd2 (upd2 V 78 x1 (v 58 x1)) 79 x1 (v 59 x1) 79 _) = ag v _
          rw [upd2_n _ (by omega), upd2_n _ (by omega), upd2_n _ (by omega), upd2_n _ (by omega), h9.1, h9.2]
        rw [hE] at hP
        refine ih (x1 + 1) _ (by omega) ⟨by omega, by omega⟩ ⟨fun t h0 h1 => ?_, fun r j h => ?_⟩
        · by_cases ht : t = x1
          · subst ht; exact ⟨hP.1, hP.2.1⟩
          · rw [hP.2.2 78 t (by omega) (by omega), hP.2.2 79 t (by omega) (by omega), upd2_n _ (by omega), upd2_n _ (by omega), upd2_n _ (by omega), upd2_n _ (by omega)]; exact hA.1 t h0 (by omega)
        · rw [hP.2.2 r j (by omega) (by omega), upd2_n _ (by omega), upd2_n _ (by omega)]; exact hA.2 r j h
set_option maxRecDepth 100000 in
theorem c_ages {X : XX} {v : VV} (hW : SW X) (hb : MB v) (hM : MT v) : CX mX11_ages 1 [(2, 47)] X v (fun o v1 => AG v v1 (v 47 0)) := by
  have hb1 := hb.1
  refine CX.of (by decide +kernel) rfl rfl rfl (bX11_ages_0 (Nat.le_refl _) hW ?_)
  exact l_ages hW hb hM (Nat.le_refl _) (fun V hV => ⟨rfl, hV⟩) 0 v ⟨by omega, by omega⟩ ⟨fun t h0 h1 => by omega, fun _ _ _ => rfl⟩
