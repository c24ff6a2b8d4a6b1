/-! ===== the class: looking names up, noting faults ===== -/
theorem First.of {p : Int → Prop} {n r : Int} (h0 : 0 ≤ n) (h : First p n r) : fst1 p n.toNat = r := (First.eq h0 h).symm
/-- the table objects -/
def TObj (X : XX) : Prop := ∀ t, 0 ≤ t → t < 16 → X.2 37 t = -1 ∨ (X.1.2 (X.2 37 t) = (7, 0) ∧ (87 ≤ X.2 37 t ∧ X.2 37 t < X.1.1))
def isN (X : XX) (v : VV) (w t : Int) : Prop := ¬ X.2 37 t = -1 ∧ v (X.2 37 t) 0 = w
noncomputable def tC (X : XX) (v : VV) (w : Int) : Int := fst1 (isN X v w) 16
set_option maxRecDepth 100000 in
set_option maxHeartbeats 4000000 in
theorem k_index {X : XX} {v : VV} (hW : SW X) (hT : TObj X) (w : Int) : CX mX10_indexOfName 0 [(2, 37), (1, w)] X v (fun o v1 => v1 = v ∧ o = some (0, tC X v w)) := by
  have key : ∀ t : Int, (0 ≤ t ∧ t ≤ 16) → (∀ k, 0 ≤ k → k < t → ¬ isN X v w k) → Ex mX10_indexOfName 0 2 [(2, 37), (1, w), (3, 0), (0, t), (3, 0)] [] X v 0 0 (fun o X1 v1 => X1 = X ∧ v1 = v ∧ o = some (0, tC X v w)) := by
    refine loop1 (fun t : Int => (16 - t).toNat) (fun t : Int => (0 ≤ t ∧ t ≤ 16) → (∀ k, 0 ≤ k → k < t → ¬ isN X v w k) → Ex mX10_indexOfName 0 2 [(2, 37), (1, w), (3, 0), (0, t), (3, 0)] [] X v 0 0 (fun o X1 v1 => X1 = X ∧ v1 = v ∧ o = some (0, tC X v w))) (fun t ih => ?_)
    intro ht hp
    have nx : ¬ isN X v w t → t < 16 → i32 (t + 1) ∧ Ex mX10_indexOfName 0 2 [(2, 37), (1, w), (3, 0), (0, t + 1), (3, 0)] [] X v 0 0 (fun o X1 v1 => X1 = X ∧ v1 = v ∧ o = some (0, tC X v w)) := fun hn h16 => ⟨⟨by omega, by omega⟩, ih (t + 1) (by omega) ⟨by omega, by omega⟩ (fun k k0 k1 => by
      by_cases h : k = t
      · subst h; exact hn
      · exact hp k k0 (by omega))⟩
    refine bX10_indexOfName_2 w t (Nat.le_refl _) hW (fun _ => ⟨fun g => ⟨rfl, rfl, ?_⟩, fun g => ⟨⟨by omega, by omega⟩, fun g2 => nx (fun z => z.1 g2) g, fun g2 => ?_⟩⟩)
    · have e : tC X v w = -1 := First.of (n := 16) (by decide) (Or.inl ⟨rfl, fun k k0 k1 => hp k k0 (by omega)⟩)
      rw [e]
    · rcases hT t ht.1 g with z | ⟨z1, z2⟩
      · exact absurd z g2
      · refine ⟨z1, ⟨by omega, z2.2⟩, fun g3 => nx (fun z => g3 z.2) g, fun g3 => ⟨rfl, rfl, ?_⟩⟩
        have e : tC X v w = t := First.of (n := 16) (by decide) (Or.inr ⟨ht.1, g, ⟨g2, g3⟩, fun k k0 k1 => hp k k0 k1⟩)
        rw [e]
  exact CX.of (by decide +kernel) rfl rfl rfl (bX10_indexOfName_0 w (Nat.le_refl _) hW (key 0 ⟨Int.le_refl _, by decide⟩ (fun k k0 k1 => by omega)))
set_option maxRecDepth 100000 in
set_option maxHeartbeats 4000000 in
theorem k_column {X : XX} {v : VV} {o cn : Int} {C : Nat} (hW : SW X) (h7 : X.1.2 o = (7, 0) ∧ (0 ≤ o ∧ o < X.1.1)) (hc : X.2 o 1 = cn ∧ X.1.2 cn = (101, C) ∧ (0 ≤ cn ∧ cn < X.1.1)) (hC : C ≤ 6) (w : Int) : CX mX7_columnOfName 0 [(2, o), (1, w)] X v (fun o1 v1 => v1 = v ∧ o1 = some (0, fst1 (fun c => v cn c = w) C)) := by
  obtain ⟨rfl, c2, c3⟩ := hc
  have eC : C = ((C : Nat) : Int).toNat := by omega
  have key : ∀ t : Int, (0 ≤ t ∧ t ≤ C) → (∀ k, 0 ≤ k → k < t → ¬ v (X.2 o 1) k = w) → Ex mX7_columnOfName 0 2 [(2, o), (1, w), (3, 0), (0, t)] [] X v 0 0 (fun o1 X1 v1 => X1 = X ∧ v1 = v ∧ o1 = some (0, fst1 (fun c => v (X.2 o 1) c = w) C)) := by
    refine loop1 (fun t : Int => ((C : Int) - t).toNat) (fun t : Int => (0 ≤ t ∧ t ≤ C) → (∀ k, 0 ≤ k → k < t → ¬ v (X.2 o 1) k = w) → Ex mX7_columnOfName 0 2 [(2, o), (1, w), (3, 0), (0, t)] [] X v 0 0 (fun o1 X1 v1 => X1 = X ∧ v1 = v ∧ o1 = some (0, fst1 (fun c => v (X.2 o 1) c = w) C))) (fun t ih => ?_)
    intro ht hp
    refine bX7_columnOfName_2 o w t (Nat.le_refl _) hW (fun _ => ⟨h7.1, h7.2, C, c2, c3, fun g => ⟨rfl, rfl, ?_⟩, fun g => ⟨⟨by omega, by omega⟩, fun g2 => ⟨⟨by omega, by omega⟩, ih (t + 1) (by omega) ⟨by omega, by omega⟩ (fun k k0 k1 => ?_)⟩, fun g2 => ⟨rfl, rfl, ?_⟩⟩⟩)
    · have e : fst1 (fun c => v (X.2 o 1) c = w) C = -1 := by
        rw [eC]; exact First.of (by omega) (Or.inl ⟨rfl, fun k k0 k1 => hp k k0 (by omega)⟩)
      rw [e]
    · by_cases h : k = t
      · subst h; exact g2
      · exact hp k k0 (by omega)
    · have e : fst1 (fun c => v (X.2 o 1) c = w) C = t := by
        rw [eC]; exact First.of (by omega) (Or.inr ⟨ht.1, g, g2, fun k k0 k1 => hp k k0 k1⟩)
      rw [e]
  exact CX.of (by decide +kernel) rfl rfl rfl (bX7_columnOfName_0 o w (Nat.le_refl _) hW (key 0 ⟨Int.le_refl _, by omega⟩ (fun k k0 k1 => by omega)))
/-- the checker's fault is the least of N -/
def FC (N : Int → Int → Prop) (v : VV) : Prop := (v 32 1 = 0 ∧ v 32 2 = -1 ∧ ∀ k p, ¬ N k p) ∨ (¬ v 32 1 = 0 ∧ 0 ≤ v 32 2 ∧ N (v 32 1) (v 32 2) ∧ ∀ k p, N k p → v 32 2 ≤ p)
theorem FC.cg {N N' : Int → Int → Prop} {v : VV} (h : FC N v) (e : ∀ k p, N k p ↔ N' k p) : FC N' v := by
  rcases h with ⟨a, b, c⟩ | ⟨a, a0, b, c⟩
  · exact Or.inl ⟨a, b, fun k p q => c k p ((e k p).mpr q)⟩
  · exact Or.inr ⟨a, a0, (e _ _).mp b, fun k p q => c k p ((e k p).mpr q)⟩
def S32 (r j : Int) : Prop := r = 32 ∧ (j = 1 ∨ j = 2)
theorem FC.fr {N : Int → Int → Prop} {S : Int → Int → Prop} {v v1 : VV} (h : FC N v) (hf : Fr S v v1) (h1 : ¬ S 32 1) (h2 : ¬ S 32 2) : FC N v1 := by
  unfold FC; rw [hf 32 1 h1, hf 32 2 h2]; exact h
set_option maxRecDepth 100000 in
set_option maxHeartbeats 4000000 in
theorem k_note {X : XX} {v : VV} {N : Int → Int → Prop} (hW : SW X) (h : FC N v) {k p : Int} (hk : ¬ k = 0) (hp : 0 ≤ p) : CX mX1_note 0 [(2, 32), (0, k), (0, p)] X v (fun _ v1 => FC (fun k' p' => N k' p' ∨ (k' = k ∧ p' = p)) v1 ∧ Fr S32 v v1) := by
  have l16 : (v 32 2 = -1 ∨ p < v 32 2) → Ex mX1_note 0 16 [(2, 32), (0, k), (0, p)] [] X v 0 0 (fun _ X1 v1 => X1 = X ∧ FC (fun k' p' => N k' p' ∨ (k' = k ∧ p' = p)) v1 ∧ Fr S32 v v1) := fun g => by
    refine bX1_note_16 k p (Nat.le_refl _) hW (fun _ _ => ⟨rfl, ?_, (Fr.rf.up ⟨rfl, Or.inl rfl⟩).up ⟨rfl, Or.inr rfl⟩⟩)
    have e1 : upd2 (upd2 v 32 1 k) 32 2 p 32 1 = k := by rw [upd2_n _ (by omega), upd2_s]
    have e2 : upd2 (upd2 v 32 1 k) 32 2 p 32 2 = p := upd2_s _ _ _ _
    unfold FC
    rw [e1, e2]
    refine Or.inr ⟨hk, hp, Or.inr ⟨rfl, rfl⟩, fun k' p' q => ?_⟩
    rcases q with q | q
    · rcases h with ⟨a, b, c⟩ | ⟨a, a0, b, c⟩
      · exact absurd q (c k' p')
      · have := c k' p' q; omega
    · omega
  refine CX.of (by decide +kernel) rfl rfl rfl (bX1_note_0 k p (Nat.le_refl _) hW (fun _ _ => ⟨fun g => l16 (Or.inl g), fun g => ⟨fun g2 => ⟨rfl, ?_, Fr.rf⟩, fun g2 => l16 (Or.inr g2)⟩⟩))
  rcases h with ⟨a, b, c⟩ | ⟨a, a0, b, c⟩
  · exact absurd b g
  · refine Or.inr ⟨a, a0, Or.inl b, fun k' p' q => ?_⟩
    rcases q with q | q
    · exact c k' p' q
    · omega
/-- the name of a token, read -/
theorem k_name {X : XX} {v : VV} {b : Int → Int} {n N i : Int} (hW : SW X) (h : TOK b n N v) (h0 : 0 ≤ i) (h1 : i < N) (hl : 97 ≤ b (tS b n i) ∧ b (tS b n i) ≤ 122) : CX mX8_nameOf 0 [(2, 5), (0, i)] X v (fun o v1 => v1 = v ∧ o = some (1, nm32 b n i)) :=
  (k_nameOf hW i ⟨h0, by have := h.2.1; omega⟩).mono (fun o v1 q => ⟨q.1, by rw [q.2, h.2.2.2.2.1 i h0 h1 hl.1 hl.2]⟩)
/-- a row of tokens that are names -/
def NmR (b : Int → Int) (n N : Int) (ct : Int → Int) (c : Int) : Prop := ∀ i, 0 ≤ i → i < c → (0 ≤ ct i ∧ ct i < N) ∧ 97 ≤ b (tS b n (ct i)) ∧ b (tS b n (ct i)) ≤ 122
/-- the repeats among the first -/
def NRi (b : Int → Int) (n : Int) (ct : Int → Int) (c i k p : Int) : Prop := k = 4 ∧ ∃ c' i', 0 ≤ i' ∧ i' < c' ∧ (c' < c ∨ (c' = c ∧ i' < i)) ∧ nm32 b n (ct i') = nm32 b n (ct c') ∧ p = tS b n (ct c')
theorem S32_TO {r j : Int} (h : TOs r j) : ¬ S32 r j := by unfold TOs at h; unfold S32; omega
set_option maxRecDepth 100000 in
set_option maxHeartbeats 4000000 in
theorem k_repeats {X : XX} {v : VV} {b : Int → Int} {n N o c : Int} {R : Nat} {ca : Int} {ct : Int → Int} {N0 : Int → Int → Prop} (hW : SW X) (hT : TOK b n N v) (hR : RowS X o ca R) (hR6 : R ≤ 60) (ho : ¬ o = 32 ∧ ¬ ca = 32) (hc : v o 1 = c) (hc0 : 0 ≤ c ∧ c ≤ R) (hct : ∀ i, 0 ≤ i → i < c → v ca i = ct i) (hN : NmR b n N ct c) (hF : FC N0 v) : CX mX1_noteRepeats 1 [(2, 32), (2, o), (2, 5)] X v (fun _ v1 => FC (fun k p => N0 k p ∨ NRi b n ct c 0 k p) v1 ∧ Fr S32 v v1) := by
  have key : ∀ (x3 x5 : Int) (V : VV), (1 ≤ x3 ∧ x3 < c) → (0 ≤ x5 ∧ x5 ≤ x3) → FC (fun k p => N0 k p ∨ NRi b n ct x3 x5 k p) V → Fr S32 v V → (∀ V2, FC (fun k p => N0 k p ∨ NRi b n ct (x3 + 1) 0 k p) V2 → Fr S32 v V2 → Ex mX1_noteRepeats 1 2 [(2, 32), (2, o), (2, 5), (0, x3 + 1), (3, 0), (3, 0)] [] X V2 0 0 (fun _ X1 v1 => X1 = X ∧ FC (fun k p => N0 k p ∨ NRi b n ct c 0 k p) v1 ∧ Fr S32 v v1)) → Ex mX1_noteRepeats 1 20 [(2, 32), (2, o), (2, 5), (0, x3), (0, ct x3), (0, x5)] [] X V 0 0 (fun _ X1 v1 => X1 = X ∧ FC (fun k p => N0 k p ∨ NRi b n ct c 0 k p) v1 ∧ Fr S32 v v1) := fun x3 => by
    refine loop2 (fun (x5 : Int) (_ : VV) => (x3 - x5).toNat) (fun (x5 : Int) (V : VV) => (1 ≤ x3 ∧ x3 < c) → (0 ≤ x5 ∧ x5 ≤ x3) → FC (fun k p => N0 k p ∨ NRi b n ct x3 x5 k p) V → Fr S32 v V → (∀ V2, FC (fun k p => N0 k p ∨ NRi b n ct (x3 + 1) 0 k p) V2 → Fr S32 v V2 → Ex mX1_noteRepeats 1 2 [(2, 32), (2, o), (2, 5), (0, x3 + 1), (3, 0), (3, 0)] [] X V2 0 0 (fun _ X1 v1 => X1 = X ∧ FC (fun k p => N0 k p ∨ NRi b n ct c 0 k p) v1 ∧ Fr S32 v v1)) → Ex mX1_noteRepeats 1 20 [(2, 32), (2, o), (2, 5), (0, x3), (0, ct x3), (0, x5)] [] X V 0 0 (fun _ X1 v1 => X1 = X ∧ FC (fun k p => N0 k p ∨ NRi b n ct c 0 k p) v1 ∧ Fr S32 v v1)) (fun x5 V ih => ?_)
    intro h3 h5 hFV hf next
    have hTV := hT.fr hf (fun r j q => S32_TO q)
    have eo : V o 1 = c := (hf o 1 (fun q => ho.1 q.1)).trans hc
    refine bX1_noteRepeats_20 o x3 (ct x3) x5 (Nat.le_refl _) hW (fun _ _ _ => ⟨fun g => ⟨⟨by omega, by omega⟩, next V (hFV.cg (fun k p => ?_)) hf⟩, fun g => ⟨hR.1, hR.2.1, _, k_get hW hR (by omega) x5, fun r12 w13 hP => ?_⟩⟩)
    · refine or_congr Iff.rfl ?_
      unfold NRi
      refine and_congr Iff.rfl ⟨fun ⟨c', i', q0, q1, q2, q3⟩ => ⟨c', i', q0, q1, by omega, q3⟩, fun ⟨c', i', q0, q1, q2, q3⟩ => ⟨c', i', q0, q1, by omega, q3⟩⟩
    · obtain ⟨rfl, hr⟩ := hP
      obtain rfl : r12 = ct x5 := by
        rw [rGet_in ⟨h5.1, by omega⟩, hf ca x5 (fun q => ho.2 q.1), hct x5 h5.1 (by omega)] at hr
        simpa using hr
      obtain ⟨a1, a2⟩ := hN x5 h5.1 (by omega)
      obtain ⟨a3, a4⟩ := hN x3 (by omega) h3.2
      refine ⟨_, k_name hW hTV a1.1 a1.2 a2, fun r16 w17 hP => ?_⟩
      obtain ⟨rfl, hr16⟩ := hP
      obtain rfl : r16 = nm32 b n (ct x5) := by simpa using hr16
      refine ⟨_, k_name hW hTV a3.1 a3.2 a4, fun r20 w21 hP => ?_⟩
      obtain ⟨rfl, hr20⟩ := hP
      obtain rfl : r20 = nm32 b n (ct x3) := by simpa using hr20
      refine ⟨fun g2 => ⟨⟨by omega, by omega⟩, ih (x5 + 1) w21 (by omega) h3 ⟨by omega, by omega⟩ (hFV.cg (fun k p => ?_)) hf next⟩, fun g2 => ?_⟩
      · refine or_congr Iff.rfl ?_
        unfold NRi
        refine and_congr Iff.rfl ⟨fun ⟨c', i', q0, q1, q2, q3⟩ => ⟨c', i', q0, q1, by omega, q3⟩, fun ⟨c', i', q0, q1, q2, q3, q4⟩ => ⟨c', i', q0, q1, ?_, q3, q4⟩⟩
        by_cases hh : c' = x3 ∧ i' = x5
        · exfalso; rw [hh.1, hh.2] at q3; exact g2 q3
        · omega
      · refine ⟨_, k_start hW hTV a3.1 (by omega), fun r25 w26 hP => ?_⟩
        obtain ⟨rfl, hr25⟩ := hP
        obtain rfl : r25 = tS b n (ct x3) := by simpa using hr25
        refine ⟨_, k_note hW hFV (k := 4) (by decide) (tS_bd b hT.1.1.1 _).1, fun w30 hP => ?_⟩
        obtain ⟨n1, n2⟩ := hP
        refine ⟨⟨by omega, by omega⟩, ih (x5 + 1) w30 (by omega) h3 ⟨by omega, by omega⟩ (n1.cg (fun k p => ?_)) (hf.via n2 (fun _ _ q => q) (fun _ _ q => q)) next⟩
        rw [or_assoc]
        refine or_congr Iff.rfl ?_
        unfold NRi
        constructor
        · rintro (⟨q, c', i', q0, q1, q2, q3⟩ | ⟨q, q'⟩)
          · exact ⟨q, c', i', q0, q1, by omega, q3⟩
          · exact ⟨q, x3, x5, h5.1, g, by omega, g2, q'⟩
        · rintro ⟨q, c', i', q0, q1, q2, q3, q4⟩
          by_cases hh : c' = x3 ∧ i' = x5
          · right; rw [hh.1] at q4; exact ⟨q, q4⟩
          · left; exact ⟨q, c', i', q0, q1, by omega, q3, q4⟩
  have out : ∀ (x3 : Int) (V : VV), (1 ≤ x3 ∧ (x3 ≤ c ∨ x3 = 1)) → FC (fun k p => N0 k p ∨ NRi b n ct x3 0 k p) V → Fr S32 v V → Ex mX1_noteRepeats 1 2 [(2, 32), (2, o), (2, 5), (0, x3), (3, 0), (3, 0)] [] X V 0 0 (fun _ X1 v1 => X1 = X ∧ FC (fun k p => N0 k p ∨ NRi b n ct c 0 k p) v1 ∧ Fr S32 v v1) := by
    refine loop2 (fun (x3 : Int) (_ : VV) => (c - x3).toNat) (fun (x3 : Int) (V : VV) => (1 ≤ x3 ∧ (x3 ≤ c ∨ x3 = 1)) → FC (fun k p => N0 k p ∨ NRi b n ct x3 0 k p) V → Fr S32 v V → Ex mX1_noteRepeats 1 2 [(2, 32), (2, o), (2, 5), (0, x3), (3, 0), (3, 0)] [] X V 0 0 (fun _ X1 v1 => X1 = X ∧ FC (fun k p => N0 k p ∨ NRi b n ct c 0 k p) v1 ∧ Fr S32 v v1)) (fun x3 V ih => ?_)
    intro h1 hFV hf
    have eo : V o 1 = c := (hf o 1 (fun q => ho.1 q.1)).trans hc
    refine bX1_noteRepeats_2 o x3 (Nat.le_refl _) hW (fun _ => ⟨hR.1, hR.2.1, _, k_size hW hR, fun r3 w4 hP => ?_⟩)
    obtain ⟨rfl, hr⟩ := hP
    obtain rfl : c = r3 := by rw [eo] at hr; exact (by simpa using hr : r3 = c).symm
    refine ⟨fun g => ⟨rfl, hFV.cg (fun k p => ?_), hf⟩, fun g => ⟨_, k_get hW hR (by omega) x3, fun r7 w8 hP => ?_⟩⟩
    · refine or_congr Iff.rfl ?_
      unfold NRi
      refine and_congr Iff.rfl ⟨fun ⟨c', i', q0, q1, q2, q3⟩ => ⟨c', i', q0, q1, by omega, q3⟩, fun ⟨c', i', q0, q1, q2, q3⟩ => ⟨c', i', q0, q1, by omega, q3⟩⟩
    · obtain ⟨rfl, hr7⟩ := hP
      obtain rfl : r7 = ct x3 := by
        rw [rGet_in ⟨by omega, by omega⟩, hf ca x3 (fun q => ho.2 q.1), hct x3 (by omega) g] at hr7
        simpa using hr7
      exact key x3 0 w8 ⟨h1.1, g⟩ ⟨Int.le_refl _, by omega⟩ hFV hf (fun V2 z1 z2 => ih (x3 + 1) V2 (by omega) ⟨by omega, by omega⟩ z1 z2)
  exact CX.of (by decide +kernel) rfl rfl rfl (bX1_noteRepeats_0 o (Nat.le_refl _) hW (out 1 v ⟨by decide, Or.inr rfl⟩ (hF.cg (fun k p => ⟨Or.inl, fun q => q.elim id (fun ⟨_, c', i', q0, q1, q2, _⟩ => by omega)⟩)) Fr.rf))
