/-! ===== one kind at the least place ===== -/
theorem tS_up (b : Int → Int) {n : Int} (hX : TX b n) {x : Int} (h0 : 0 ≤ x) (hk : ¬ tK b n x = 260) : ∀ m : Nat, tS b n x < tS b n (x + 1 + m)
  | 0 => by
    have h1 := tK_in b hX h0 hk
    have h2 := tEnd_bd b (Int.le_of_lt h1.1)
    have h3 := lS_bd b h2.1
    have h4 := h2.2.1 h1.1
    rw [show x + 1 + ((0 : Nat) : Int) = x + 1 by omega, tS_s b n h0]
    omega
  | m + 1 => by
    have ih := tS_up b hX h0 hk m
    have h1 := tS_bd b hX.1.1 (x + 1 + m)
    have h2 := tEnd_bd b h1.2
    have h3 := lS_bd b h2.1
    rw [show x + 1 + ((m + 1 : Nat) : Int) = (x + 1 + m) + 1 by omega, tS_s b n (show 0 ≤ x + 1 + (m : Int) by omega)]
    omega
theorem tS_inj {b : Int → Int} {n x y : Int} (hX : TX b n) (hx : 0 ≤ x) (hy : 0 ≤ y) (kx : ¬ tK b n x = 260) (ky : ¬ tK b n y = 260) (h : tS b n x = tS b n y) : x = y := by
  rcases Int.lt_trichotomy x y with q | q | q
  · have := tS_up b hX hx kx (y - x - 1).toNat
    rw [show x + 1 + ((y - x - 1).toNat : Int) = y by omega] at this
    omega
  · exact q
  · have := tS_up b hX hy ky (x - y - 1).toNat
    rw [show y + 1 + ((x - y - 1).toNat : Int) = x by omega] at this
    omega
theorem tS_lt' {b : Int → Int} {n x y : Int} (hX : TX b n) (hx : 0 ≤ x) (kx : ¬ tK b n x = 260) (h : x < y) : tS b n x < tS b n y := by
  have := tS_up b hX hx kx (y - x - 1).toNat
  rwa [show x + 1 + ((y - x - 1).toNat : Int) = y by omega] at this
theorem qN_up {b : Int → Int} {n : Int} {C : Nat} (h : ∀ c : Nat, c < C → (rForm b n 3 (qN b n 3 c + 2)).1 = true) : ∀ m c : Nat, c + m ≤ C → qN b n 3 c + 4 * m ≤ qN b n 3 (c + m)
  | 0, c, _ => by rw [Nat.add_zero]; omega
  | m + 1, c, hc => by
    have ih := qN_up h m c (by omega)
    have h1 := rForm_lt (h (c + m) (by omega))
    have e : qN b n 3 (c + (m + 1)) = (rForm b n 3 (qN b n 3 (c + m) + 2)).2 + 1 := rfl
    rw [e]; omega
/-- the kinds of a token's note -/
def TkK (b : Int → Int) (n : Int) (C B : Nat) (cb : Int → Int) (bad : Int → Prop) (w x k : Int) : Prop := (¬ tK b n x = 256 ∧ k = 3) ∨ (tK b n x = 256 ∧ ((k = 4 ∧ (x = 1 ∨ ∃ c : Nat, c < C ∧ x = qN b n 3 c)) ∨ (k = 2 ∧ ∃ i : Nat, i < C ∧ qN b n 3 i + 2 ≤ x ∧ x + 1 < qN b n 3 (i + 1)) ∨ (k = 2 ∧ w < x) ∨ (k = 2 ∧ ∃ i : Int, (0 ≤ i ∧ i < B) ∧ x = cb i ∧ bad i) ∨ (k = 4 ∧ ∃ i j : Int, (0 ≤ j ∧ j < i ∧ i < B) ∧ x = cb i ∧ (bad i → bad j))))
theorem TkK_one {b : Int → Int} {n w x k k' : Int} {C B : Nat} {cb : Int → Int} {bad : Int → Prop} (hC : 1 ≤ C) (hq : ∀ c : Nat, c < C → (rForm b n 3 (qN b n 3 c + 2)).1 = true) (hcb : ∀ i, cb i = qN b n 3 C + 2 * i) (hw : w = qN b n 3 C + 2 * B - 1) (hno : ∀ i : Int, (0 ≤ i ∧ i < B) → x = cb i → bad i → ∀ j, 0 ≤ j → j < i → ¬ bad j) (h : TkK b n C B cb bad w x k) (h' : TkK b n C B cb bad w x k') : k = k' := by
  have up := fun c d : Nat => fun h : c ≤ d => fun h2 : d ≤ C => by
    have := qN_up hq (d - c) c (by omega)
    rw [show c + (d - c) = d by omega] at this
    exact this
  have q0 : qN b n 3 0 = 3 := rfl
  -- a column's token is no other
  have col : ∀ c : Nat, c < C → 3 ≤ qN b n 3 c ∧ qN b n 3 c < qN b n 3 C := fun c hc => by
    have := up 0 c (by omega) (by omega)
    have := up c C (by omega) (Nat.le_refl _)
    omega
  have colr : ∀ c i : Nat, c < C → i < C → ¬ (qN b n 3 i + 2 ≤ qN b n 3 c ∧ qN b n 3 c + 1 < qN b n 3 (i + 1)) := fun c i hc hi z => by
    rcases Nat.lt_or_ge i c with g | g
    · have := up (i + 1) c (by omega) (by omega); omega
    · have := up c i g (by omega); omega
  have rf : ∀ i : Nat, i < C → qN b n 3 (i + 1) ≤ qN b n 3 C ∧ 3 ≤ qN b n 3 i := fun i hi => by
    have := up (i + 1) C (by omega) (Nat.le_refl _)
    have := up 0 i (by omega) (by omega)
    omega
  have four : ∀ x : Int, (x = 1 ∨ ∃ c : Nat, c < C ∧ x = qN b n 3 c) → (x < qN b n 3 C ∧ ∀ i : Nat, i < C → ¬ (qN b n 3 i + 2 ≤ x ∧ x + 1 < qN b n 3 (i + 1))) := fun x hx => by
    rcases hx with rfl | ⟨c, c1, rfl⟩
    · have := (col 0 (by omega)).2
      exact ⟨by omega, fun i hi z => by have := (rf i hi).2; omega⟩
    · exact ⟨(col c c1).2, fun i hi => colr c i c1 hi⟩
  have key : ∀ k k', TkK b n C B cb bad w x k → TkK b n C B cb bad w x k' → k = 4 → k' = 4 := fun k k' h h' hk => by
    rcases h with ⟨-, h⟩ | ⟨h1, h⟩
    · omega
    rcases h' with ⟨h2, -⟩ | ⟨-, h'⟩
    · exact absurd h1 h2
    rcases h' with ⟨e, -⟩ | ⟨-, i, i1, i2, i3⟩ | ⟨-, i1⟩ | ⟨-, i, i1, i2, i3⟩ | ⟨e, -⟩
    · exact e
    · exfalso
      have hb := (rf i i1).1
      rcases h with ⟨-, h⟩ | ⟨e, -⟩ | ⟨e, -⟩ | ⟨e, -⟩ | ⟨-, u, j, ⟨u0, u1, u2⟩, u3, -⟩
      · exact (four x h).2 i i1 ⟨i2, i3⟩
      · omega
      · omega
      · omega
      · rw [hcb] at u3; omega
    · exfalso
      rcases h with ⟨-, h⟩ | ⟨e, -⟩ | ⟨e, -⟩ | ⟨e, -⟩ | ⟨-, u, j, ⟨u0, u1, u2⟩, u3, -⟩
      · have := (four x h).1; omega
      · omega
      · omega
      · omega
      · rw [hcb] at u3; omega
    · exfalso
      rcases h with ⟨-, h⟩ | ⟨e, -⟩ | ⟨e, -⟩ | ⟨e, -⟩ | ⟨-, u, j, ⟨u0, u1, u2⟩, u3, u4⟩
      · have := (four x h).1; rw [hcb] at i2; omega
      · omega
      · omega
      · omega
      · have e : u = i := by rw [hcb] at u3 i2; omega
        subst e
        exact hno u i1 i2 i3 j u0 u1 (u4 i3)
    · exact e
  have vals : ∀ k, TkK b n C B cb bad w x k → (k = 3 ∧ ¬ tK b n x = 256) ∨ (tK b n x = 256 ∧ (k = 2 ∨ k = 4)) := fun k h => by
    rcases h with ⟨h1, h2⟩ | ⟨h1, h⟩
    · exact Or.inl ⟨h2, h1⟩
    · refine Or.inr ⟨h1, ?_⟩
      rcases h with ⟨e, -⟩ | ⟨e, -⟩ | ⟨e, -⟩ | ⟨e, -⟩ | ⟨e, -⟩
      · exact Or.inr e
      · exact Or.inl e
      · exact Or.inl e
      · exact Or.inl e
      · exact Or.inr e
  have v1 := vals k h
  have v2 := vals k' h'
  have k1 := key k k' h h'
  have k2 := key k' k h' h
  omega
/-- what a note of a select tells of its token -/
theorem NAct_tok {b : Int → Int} {n T w : Int} {C B : Nat} {ct cb : Int → Int} {vm vM : VV} (hX : TX b n) (hS : FmSel b n C w) (hC : 1 ≤ C ∧ C ≤ 6) (hM : MdS b n T C B ct cb w vm) (hct : ∀ c : Nat, c < C → ct c = qN b n 3 c) (hcb : ∀ i, cb i = qN b n 3 C + 2 * i) (hw : w = qN b n 3 C + 2 * B - 1) (hP : ResP b n 3 C) (hP2 : BehP b n (qN b n 3 C) B) (h1 : tK b n 1 = 256) (h42 : tK b n w = 265 → vM 47 42 = tS b n (rForm b n 3 (w + 1)).2) {k p : Int} (h : NAct b n vm vM T C B ct (fun c => qN b n 3 c.toNat + 2) (w + 1) ((rForm b n 3 (w + 1)).2 + 1) k p) : ∃ x, 0 ≤ x ∧ p = tS b n x ∧ ¬ tK b n x = 260 ∧ TkK b n C B cb (fun i => tN vm (vm 70 i) = -1) w x k := by
  obtain ⟨⟨m1, m2, m3⟩, m4, m5, m6, m7⟩ := hM
  have hq : ∀ c : Nat, c < C → (rForm b n 3 (qN b n 3 c + 2)).1 = true := fun c hc => (hS.1 c hc).2
  have up := fun c d : Nat => fun h : c ≤ d => fun h2 : d ≤ C => by
    have := qN_up hq (d - c) c (by omega)
    rw [show c + (d - c) = d by omega] at this
    exact this
  have q0 : qN b n 3 0 = 3 := rfl
  have qC := up 0 C (by omega) (Nat.le_refl _)
  have behT : ∀ i : Int, 0 ≤ i → i < B → tK b n (cb i) = 256 := fun i i0 i1 => by
    have := (hP2 i.toNat (by omega)).1
    rw [Int.toNat_of_nonneg i0] at this
    rw [hcb]; exact this
  -- a reference's note
  have ref : ∀ (a r p : Int), (rForm b n 3 a).1 = true → rfF b n 3 a r → miss b n vM T r p → 0 ≤ a → ∃ x, (a ≤ x ∧ x < (rForm b n 3 a).2) ∧ p = tS b n x ∧ tK b n x = 256 := fun a r p hr hf hm h0 => by
    obtain ⟨⟨k1, k2, k3, k4, k5⟩, g1, g2⟩ := rfF_ok hr hf
    rcases hm with ⟨-, -, e⟩ | ⟨-, -, e⟩
    · exact ⟨r, ⟨g1, by omega⟩, e, k1⟩
    · exact ⟨r + 2, ⟨by omega, by omega⟩, e, k4⟩
  rcases h with ((((h | h) | h) | h) | ⟨-, i, i0, i1, h⟩) | ⟨hwh, h⟩
  · obtain ⟨e, -, e2⟩ := h
    exact ⟨1, by decide, by rw [e2, m3], by omega, Or.inr ⟨h1, Or.inl ⟨e, Or.inl rfl⟩⟩⟩
  · obtain ⟨e, c', i', g0, g1, g2, -, g4⟩ := h
    have hc' : c'.toNat < C := by omega
    have ec : ((c'.toNat : Nat) : Int) = c' := Int.toNat_of_nonneg (by omega)
    have e3 : ct c' = qN b n 3 c'.toNat := by rw [← ec]; exact (hct _ hc').trans (by rw [Int.toNat_natCast])
    have hk := (hP c'.toNat hc').1
    have := up 0 c'.toNat (by omega) (by omega)
    exact ⟨qN b n 3 c'.toNat, by omega, by rw [g4, e3], by omega, Or.inr ⟨hk, Or.inl ⟨e, Or.inr ⟨_, hc', rfl⟩⟩⟩⟩
  · obtain ⟨e, i, g0, g1, g2, g3⟩ := h
    have hk := behT i g0 g1
    exact ⟨cb i, by rw [hcb]; omega, by rw [g3]; exact (m5 i g0 g1).2.1, by omega, Or.inr ⟨hk, Or.inr (Or.inr (Or.inr (Or.inl ⟨e, i, ⟨g0, g1⟩, rfl, g2⟩)))⟩⟩
  · obtain ⟨e, c', i', g0, g1, g2, g3, g4⟩ := h
    have hk := behT c' (by omega) (by omega)
    exact ⟨cb c', by rw [hcb]; omega, by rw [g4]; exact (m5 c' (by omega) (by omega)).2.1, by omega, Or.inr ⟨hk, Or.inr (Or.inr (Or.inr (Or.inr ⟨e, c', i', ⟨g0, g1, by omega⟩, rfl, fun z => by
      show tN vm (vm 70 i') = -1
      rw [g3]; exact z⟩)))⟩⟩
  · have hi : i.toNat < C := by omega
    have hr := hq i.toNat hi
    have h0 := (hS.1 i.toNat hi).1
    have e6 : qN b n 3 (i.toNat + 1) = (rForm b n 3 (qN b n 3 i.toNat + 2)).2 + 1 := rfl
    rcases h with ⟨e, h⟩ | ⟨e, r, hf, hm⟩
    · obtain ⟨x, x1, x2, x3, x4⟩ := erF_at hr h
      exact ⟨x, by omega, x2, x4, Or.inl ⟨x3, e⟩⟩
    · obtain ⟨x, x1, x2, x3⟩ := ref _ r p hr hf hm h0
      exact ⟨x, by omega, x2, by omega, Or.inr ⟨x3, Or.inr (Or.inl ⟨e, i.toNat, hi, x1.1, by rw [e6]; omega⟩)⟩⟩
  · have hk := m7.mp hwh
    obtain ⟨w1, w2, w3⟩ := hS.2.2 hk
    have hlt := rForm_lt w1
    have hw0 := hS.2.1
    have wf : ∀ a, w < a → (rForm b n 3 a).1 = true → NFe b n vM T a k p → ∃ x, 0 ≤ x ∧ p = tS b n x ∧ ¬ tK b n x = 260 ∧ TkK b n C B cb (fun i => tN vm (vm 70 i) = -1) w x k := fun a ha hr h => by
      rcases h with ⟨e, h⟩ | ⟨e, r, hf, hm⟩
      · obtain ⟨x, x1, x2, x3, x4⟩ := erF_at hr h
        exact ⟨x, by omega, x2, x4, Or.inl ⟨x3, e⟩⟩
      · obtain ⟨x, x1, x2, x3⟩ := ref _ r p hr hf hm (by omega)
        exact ⟨x, by omega, x2, by omega, Or.inr ⟨x3, Or.inr (Or.inr (Or.inl ⟨e, by omega⟩))⟩⟩
    rcases h with (h | h) | ⟨e, -, -, -, e2⟩
    · exact wf _ (by omega) w1 h
    · exact wf _ (by omega) w3 h
    · exact ⟨(rForm b n 3 (w + 1)).2, by omega, by rw [e2]; exact h42 hk, by omega, Or.inl ⟨by omega, e⟩⟩
