/-! ===== the class: marks, a bit each ===== -/
def btN (a c : Nat) : Prop := a / 2 ^ c % 2 = 1
theorem bt_nat (a c : Nat) : bt (a : Int) (c : Int) ↔ btN a c := by
  unfold bt btN
  rw [Int.toNat_natCast]
  constructor
  · intro h; exact_mod_cast h
  · intro h; exact_mod_cast h
def setN (a c : Nat) : Nat := if a / 2 ^ c % 2 = 1 then a else a + 2 ^ c
def clrN (a c : Nat) : Nat := if a / 2 ^ c % 2 = 1 then a - 2 ^ c else a
theorem bits_has : ∀ a : Nat, a < 256 → ∀ c : Nat, c < 8 → (Int32.ofInt (a : Int) >>> (Int32.ofInt (c : Int) &&& 31)) &&& Int32.ofInt 1 = Int32.ofInt ((a / 2 ^ c % 2 : Nat) : Int) := by decide +kernel
theorem bits_add : ∀ a : Nat, a < 256 → ∀ c : Nat, c < 8 → Int32.ofInt (a : Int) ||| (Int32.ofInt 1 <<< (Int32.ofInt (c : Int) &&& 31)) = Int32.ofInt ((setN a c : Nat) : Int) := by decide +kernel
theorem bits_rem : ∀ a : Nat, a < 256 → ∀ c : Nat, c < 8 → Int32.ofInt (a : Int) &&& ((Int32.ofInt 1 <<< (Int32.ofInt (c : Int) &&& 31)) ^^^ Int32.ofInt (-1)) = Int32.ofInt ((clrN a c : Nat) : Int) := by decide +kernel
theorem setN_bt : ∀ a : Nat, a < 256 → ∀ c : Nat, c < 8 → setN a c < 256 ∧ ∀ e : Nat, e < 8 → ((setN a c / 2 ^ e % 2 = 1) ↔ (a / 2 ^ e % 2 = 1 ∨ e = c)) := by decide +kernel
theorem clrN_bt : ∀ a : Nat, a < 256 → ∀ c : Nat, c < 8 → clrN a c < 256 ∧ ∀ e : Nat, e < 8 → ((clrN a c / 2 ^ e % 2 = 1) ↔ (a / 2 ^ e % 2 = 1 ∧ ¬ e = c)) := by decide +kernel
theorem bits_and : ∀ a : Nat, a < 256 → ∀ b : Nat, b < 64 → ((Int32.ofInt (a : Int) &&& Int32.ofInt (b : Int) = Int32.ofInt 0) ↔ ∀ e : Nat, e < 6 → ¬ (a / 2 ^ e % 2 = 1 ∧ b / 2 ^ e % 2 = 1)) := by decide +kernel
/-- the class's marks are the set M -/
def MKc (M : Int → Prop) (v : VV) : Prop := ∀ t, 0 ≤ t → t < 16 → (0 ≤ v 42 t ∧ v 42 t < 256) ∧ ∀ c, 0 ≤ c → c < 8 → (bt (v 42 t) c ↔ M (8 * t + c))
theorem MKc.cg {M M' : Int → Prop} {v : VV} (h : MKc M v) (e : ∀ j, 0 ≤ j → j < 128 → (M j ↔ M' j)) : MKc M' v := fun t t0 t1 => ⟨(h t t0 t1).1, fun c c0 c1 => ((h t t0 t1).2 c c0 c1).trans (e _ (by omega) (by omega))⟩
def S42 (r : Int) (_ : Int) : Prop := r = 42
set_option maxRecDepth 100000 in
set_option maxHeartbeats 4000000 in
theorem k_mclear {X : XX} {v : VV} (hW : SW X) : CX mX2_clear 0 [(2, 41)] X v (fun o1 v1 => Fr S42 v v1 ∧ MKc (fun _ => False) v1) := by
  have key : ∀ (t : Int) (V : VV), (0 ≤ t ∧ t ≤ 16) → Fr S42 v V → (∀ s, 0 ≤ s → s < t → V 42 s = 0) → Ex mX2_clear 0 2 [(2, 41), (0, t)] [] X V 0 0 (fun o1 X1 v1 => X1 = X ∧ Fr S42 v v1 ∧ MKc (fun _ => False) v1) := by
    refine loop2 (fun (t : Int) (_ : VV) => (16 - t).toNat) (fun (t : Int) (V : VV) => (0 ≤ t ∧ t ≤ 16) → Fr S42 v V → (∀ s, 0 ≤ s → s < t → V 42 s = 0) → Ex mX2_clear 0 2 [(2, 41), (0, t)] [] X V 0 0 (fun o1 X1 v1 => X1 = X ∧ Fr S42 v v1 ∧ MKc (fun _ => False) v1)) (fun t V ih => ?_)
    intro ht hf hz
    refine bX2_clear_2 t (Nat.le_refl _) hW (fun _ => ⟨fun g => ⟨rfl, hf, fun s s0 s1 => ?_⟩, fun g => ⟨⟨by omega, by omega⟩, ⟨by omega, by omega⟩, ?_⟩⟩)
    · rw [hz s s0 (by omega)]
      refine ⟨⟨by decide, by decide⟩, fun c c0 c1 => ⟨fun q => ?_, fun q => q.elim⟩⟩
      unfold bt at q
      rw [Int.zero_ediv] at q
      exact absurd q (by decide)
    · refine ih (t + 1) _ (by omega) ⟨by omega, by omega⟩ (hf.up rfl) (fun s s0 s1 => ?_)
      by_cases h : s = t
      · subst h; exact upd2_s _ _ _ _
      · rw [upd2_n _ (by omega)]; exact hz s s0 (by omega)
  exact CX.of (by decide +kernel) rfl rfl rfl (bX2_clear_0 (Nat.le_refl _) hW (key 0 v ⟨by omega, by omega⟩ Fr.rf (fun s s0 s1 => by omega)))
def bitsR (v : VV) (t : Int) : Int := if 0 ≤ t ∧ t < 16 then v 42 t else 0
set_option maxRecDepth 100000 in
set_option maxHeartbeats 4000000 in
theorem k_bitsOf {X : XX} {v : VV} (hW : SW X) (t : Int) : CX mX2_bitsOf 0 [(2, 41), (0, t)] X v (fun o1 v1 => v1 = v ∧ o1 = some (0, bitsR v t)) := by
  refine CX.of (by decide +kernel) rfl rfl rfl (bX2_bitsOf_0 t (Nat.le_refl _) hW (fun _ => ⟨fun g => ⟨rfl, rfl, ?_⟩, fun g => ⟨fun g2 => ⟨rfl, rfl, ?_⟩, fun g2 => ⟨⟨by omega, by omega⟩, rfl, rfl, ?_⟩⟩⟩))
  · unfold bitsR; rw [if_neg (by omega)]
  · unfold bitsR; rw [if_neg (by omega)]
  · unfold bitsR; rw [if_pos (by omega)]
set_option maxRecDepth 100000 in
set_option maxHeartbeats 4000000 in
theorem k_mhas {X : XX} {v : VV} {M : Int → Prop} (hW : SW X) (hM : MKc M v) (j : Int) (hj : j < 128) : CX mX2_has 1 [(2, 41), (0, j)] X v (fun o1 v1 => v1 = v ∧ o1 = some (0, bI (0 ≤ j ∧ M j))) := by
  refine CX.of (by decide +kernel) rfl rfl rfl (bX2_has_0 j (Nat.le_refl _) hW (fun _ => ⟨fun g => ⟨rfl, rfl, by rw [bI_f (fun z => by omega)]⟩, fun g => ⟨g, _, k_bitsOf hW _, fun r2 w3 hP => ?_⟩⟩))
  obtain ⟨rfl, hr⟩ := hP
  obtain rfl : r2 = bitsR w3 (j / 8) := by simpa using hr
  have eb : bitsR w3 (j / 8) = w3 42 (j / 8) := if_pos ⟨by omega, by omega⟩
  rw [eb]
  obtain ⟨b1, b2⟩ := hM (j / 8) (by omega) (by omega)
  have b3 := b2 (j % 8) (by omega) (by omega)
  rw [show 8 * (j / 8) + j % 8 = j by omega] at b3
  refine ⟨g, fun z5 e5 h5 z6 e6 h6 => ?_⟩
  have k := bits_has (w3 42 (j / 8)).toNat (by omega) (j % 8).toNat (by omega)
  rw [Int.toNat_of_nonneg b1.1, Int.toNat_of_nonneg (show 0 ≤ j % 8 by omega), e5, e6] at k
  have h9 : ((w3 42 (j / 8)).toNat / 2 ^ (j % 8).toNat % 2 : Nat) < 2 := Nat.mod_lt _ (by decide)
  have k2 := (i32_eq h6 ⟨by omega, by omega⟩).mp k
  have k3 := bt_nat (w3 42 (j / 8)).toNat (j % 8).toNat
  rw [Int.toNat_of_nonneg b1.1, Int.toNat_of_nonneg (show 0 ≤ j % 8 by omega)] at k3
  unfold btN at k3
  rw [k3] at b3
  refine ⟨fun g2 => ⟨rfl, rfl, ?_⟩, fun g2 => ⟨rfl, rfl, ?_⟩⟩
  · rw [bI_f (fun z => by have := b3.mpr z.2; omega)]
  · rw [bI_t ⟨g, b3.mp (by omega)⟩]
set_option maxRecDepth 100000 in
set_option maxHeartbeats 4000000 in
theorem k_madd {X : XX} {v : VV} {M : Int → Prop} (hW : SW X) (hM : MKc M v) (j : Int) : CX mX2_add 0 [(2, 41), (0, j)] X v (fun o1 v1 => Fr S42 v v1 ∧ MKc (fun i => M i ∨ i = j) v1) := by
  refine CX.of (by decide +kernel) rfl rfl rfl (bX2_add_0 j (Nat.le_refl _) hW (fun _ => ⟨fun g => ⟨rfl, Fr.rf, hM.cg (fun i i0 i1 => ⟨Or.inl, fun q => q.elim id (fun z => by omega)⟩)⟩, fun g => ⟨fun g2 => ⟨rfl, Fr.rf, hM.cg (fun i i0 i1 => ⟨Or.inl, fun q => q.elim id (fun z => by omega)⟩)⟩, fun g2 => ⟨g, ⟨by omega, by omega⟩, g, fun z1 e1 h1 z2 e2 h2 => ⟨⟨by omega, by omega⟩, rfl, Fr.rf.up rfl, ?_⟩⟩⟩⟩))
  obtain ⟨b1, b2⟩ := hM (j / 8) (by omega) (by omega)
  have k := bits_add (v 42 (j / 8)).toNat (by omega) (j % 8).toNat (by omega)
  rw [Int.toNat_of_nonneg b1.1, Int.toNat_of_nonneg (show 0 ≤ j % 8 by omega), e1, e2] at k
  obtain ⟨s1, s2⟩ := setN_bt (v 42 (j / 8)).toNat (by omega) (j % 8).toNat (by omega)
  have k2 := (i32_eq h2 ⟨by omega, by omega⟩).mp k
  intro t t0 t1
  by_cases ht : t = j / 8
  · rw [ht, upd2_s, k2]
    refine ⟨⟨by omega, by omega⟩, fun c c0 c1 => ?_⟩
    have k3 := bt_nat (setN (v 42 (j / 8)).toNat (j % 8).toNat) c.toNat
    rw [Int.toNat_of_nonneg c0] at k3
    rw [k3]
    unfold btN
    rw [s2 c.toNat (by omega)]
    have k4 := bt_nat (v 42 (j / 8)).toNat c.toNat
    rw [Int.toNat_of_nonneg b1.1, Int.toNat_of_nonneg c0] at k4
    unfold btN at k4
    rw [← k4, b2 c c0 c1]
    exact ⟨fun q => q.imp id (fun z => by omega), fun q => q.imp id (fun z => by omega)⟩
  · rw [upd2_n _ (fun q => ht q.2)]
    exact ⟨(hM t t0 t1).1, fun c c0 c1 => ((hM t t0 t1).2 c c0 c1).trans ⟨Or.inl, fun q => q.elim id (fun z => by omega)⟩⟩
set_option maxRecDepth 100000 in
set_option maxHeartbeats 4000000 in
theorem k_mrem {X : XX} {v : VV} {M : Int → Prop} (hW : SW X) (hM : MKc M v) (j : Int) (hj : 0 ≤ j ∧ j < 128) : CX mX2_remove 0 [(2, 41), (0, j)] X v (fun o1 v1 => Fr S42 v v1 ∧ MKc (fun i => M i ∧ ¬ i = j) v1) := by
  refine CX.of (by decide +kernel) rfl rfl rfl (bX2_remove_0 j (Nat.le_refl _) hW (fun _ => ⟨fun g => by omega, fun g => ⟨fun g2 => by omega, fun g2 => ⟨g, ⟨by omega, by omega⟩, g, fun z1 e1 h1 z2 e2 h2 z3 e3 h3 => ⟨⟨by omega, by omega⟩, rfl, Fr.rf.up rfl, ?_⟩⟩⟩⟩))
  obtain ⟨b1, b2⟩ := hM (j / 8) (by omega) (by omega)
  have k := bits_rem (v 42 (j / 8)).toNat (by omega) (j % 8).toNat (by omega)
  rw [Int.toNat_of_nonneg b1.1, Int.toNat_of_nonneg (show 0 ≤ j % 8 by omega), e1, e2, e3] at k
  obtain ⟨s1, s2⟩ := clrN_bt (v 42 (j / 8)).toNat (by omega) (j % 8).toNat (by omega)
  have k2 := (i32_eq h3 ⟨by omega, by omega⟩).mp k
  intro t t0 t1
  by_cases ht : t = j / 8
  · rw [ht, upd2_s, k2]
    refine ⟨⟨by omega, by omega⟩, fun c c0 c1 => ?_⟩
    have k3 := bt_nat (clrN (v 42 (j / 8)).toNat (j % 8).toNat) c.toNat
    rw [Int.toNat_of_nonneg c0] at k3
    rw [k3]
    unfold btN
    rw [s2 c.toNat (by omega)]
    have k4 := bt_nat (v 42 (j / 8)).toNat c.toNat
    rw [Int.toNat_of_nonneg b1.1, Int.toNat_of_nonneg c0] at k4
    unfold btN at k4
    rw [← k4, b2 c c0 c1]
    exact ⟨fun q => ⟨q.1, fun z => q.2 (by omega)⟩, fun q => ⟨q.1, fun z => q.2 (by omega)⟩⟩
  · rw [upd2_n _ (fun q => ht q.2)]
    exact ⟨(hM t t0 t1).1, fun c c0 c1 => ((hM t t0 t1).2 c c0 c1).trans ⟨fun q => ⟨q, fun z => by omega⟩, fun q => q.1⟩⟩
