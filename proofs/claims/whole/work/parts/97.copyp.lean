/-! ===== the class: a program copied ===== -/
def CpP (X : XX) (v : VV) (st en it ic pl pc : Int) (o1 : Option AV) (Y : XX) (w : VV) : Prop := o1 = some (2, (X.1.1 : Int)) ∧ ExtX X Y ∧ Y.1.1 = X.1.1 + 7 ∧ PrgS Y X.1.1 ((X.1.1 : Int) + 1) ((X.1.1 : Int) + 2) ((X.1.1 : Int) + 3) ((X.1.1 : Int) + 4) ((X.1.1 : Int) + 5) ((X.1.1 : Int) + 6) (v it 1).toNat ∧ (w ((X.1.1 : Int) + 3) 1 = v it 1 ∧ w ((X.1.1 : Int) + 5) 1 = v it 1) ∧ (∀ i, 0 ≤ i → i < v it 1 → w ((X.1.1 : Int) + 4) i = v ic i ∧ w ((X.1.1 : Int) + 6) i = v pc i) ∧ (∀ f, 0 ≤ f → f ≤ 6 → w ((X.1.1 : Int) + 1) f = v st f ∧ w ((X.1.1 : Int) + 2) f = v en f) ∧ Fr (fun r _ => (X.1.1 : Int) ≤ r) v w
set_option maxRecDepth 100000 in
set_option maxHeartbeats 4000000 in
theorem k_prgCopy {X : XX} {v : VV} {p st en it ic pl pc : Int} {R : Nat} (hW : SW X) (hP : PrgS X p st en it ic pl pc R) (hR : R ≤ 60000000) (hs : 0 ≤ v it 1 ∧ v it 1 ≤ R) (hpl : v pl 1 = v it 1) : Con mX5_copy 3 7 (23 + 2 * (v it 1).toNat) [(2, p)] X v (fun o1 Y w => CpP X v st en it ic pl pc o1 Y w) := by
  obtain ⟨p1, p2, ⟨q2, p3, p4⟩, ⟨q3, p5, p6⟩, ⟨q0, hI⟩, q1, hL⟩ := hP
  have en0 : ((v it 1).toNat : Int) = v it 1 := Int.toNat_of_nonneg hs.1
  have hE1 := ExtX.new X 5 0
  have hIr := hI.2.1
  have hLr := hL.2.1
  have hIc := hI.2.2.2.2
  have hLc := hL.2.2.2.2
  have e0 : (nX X 5 0).2 p 0 = it := ((hE1.2 p p2.1 p2.2).2 0).trans q0
  have hI1 : RowS (nX X 5 0) it ic R := hE1.row hI
  have eV : ∀ r j : Int, r < X.1.1 → nV X v r j = v r j := fun r j hr => nV_n X v (by omega) j
  refine Con.of (by decide +kernel) (fun a ha => ?_) (Nat.le_of_ble_eq_true rfl) ?_
  · rw [List.mem_singleton.mp ha]; exact Nat.le_of_ble_eq_true rfl
  show Ex mX5_copy 3 0 [(2, p), (3, 0)] [] X v 7 (23 + 2 * (v it 1).toNat) _
  refine bX5_copy_0 p (by decide) hW ?_
  rw [e0]
  refine ⟨⟨by omega, by omega⟩, (hE1.2 p p2.1 p2.2).1.trans p1, ⟨p2.1, by show p < ((X.1.1 + 1 : Nat) : Int); omega⟩, hI1.1, hI1.2.1, _, k_size hW.new hI1, fun r6 w7 hP => ?_⟩
  obtain ⟨rfl, hr⟩ := hP
  obtain rfl : r6 = v it 1 := by rw [eV it 1 hIr.2] at hr; simpa using hr
  have hini := k_prgInit (X := nX X 5 0) (v := nV X v) (o := (X.1.1 : Int)) (n := (v it 1).toNat) (nX_me X 5 0) ⟨by omega, by show (X.1.1 : Int) + 1 = ((X.1.1 + 1 : Nat) : Int); omega⟩ (by omega)
  rw [en0] at hini
  refine ⟨6, 18 + 2 * (v it 1).toNat, by omega, by omega, _, hini, fun Y w hP => ?_⟩
  obtain ⟨y1, y2, ⟨z1, z2, ⟨z3, z4, z5⟩, ⟨z6, z7, z8⟩, ⟨z9, z10⟩, z11, z12⟩, ⟨y4, y5⟩, y6⟩ := hP
  have y1' : Y.1.1 = X.1.1 + 7 := by rw [y1]; rfl
  have hE : ExtX X Y := ⟨by omega, fun k k0 k1 => by
    have a := hE1.2 k k0 k1
    have b := y2.2 k k0 (by show k < ((X.1.1 + 1 : Nat) : Int); omega)
    exact ⟨b.1.trans a.1, fun j => (b.2 j (fun q => by omega)).trans (a.2 j)⟩⟩
  have hWY : SW Y := hW.ext hE
  have r0 : Y.2 p 0 = it := ((hE.2 p p2.1 p2.2).2 0).trans q0
  have r1 : Y.2 p 1 = pl := ((hE.2 p p2.1 p2.2).2 1).trans q1
  have r2 : Y.2 p 2 = st := ((hE.2 p p2.1 p2.2).2 2).trans q2
  have r3 : Y.2 p 3 = en := ((hE.2 p p2.1 p2.2).2 3).trans q3
  have wv : ∀ r j : Int, r < X.1.1 → w r j = v r j := fun r j hr => (y6 r j (by omega)).trans (eV r j hr)
  rw [r0, r1, r2, r3, z3, z6, z9, z11]
  have hIY := hE.row hI
  have hLY := hE.row hL
  refine ⟨hWY, z1, z2, (hE.2 p p2.1 p2.2).1.trans p1, ⟨p2.1, by omega⟩, z10.1, z10.2.1, _, k_addAll hWY z10 hIY (by omega) (by omega) (by rw [wv it 1 hIr.2]; exact hs) (by rw [y4, wv it 1 hIr.2]; omega), fun w21 hP => ?_⟩
  obtain ⟨a1, a2, a3⟩ := hP
  rw [y4, wv it 1 hIr.2] at a1 a2 a3
  have w21o : ∀ r j : Int, r < X.1.1 → w21 r j = v r j := fun r j hr => (a3 r j (by omega)).trans (wv r j hr)
  have w215 : w21 ((X.1.1 : Int) + 5) 1 = 0 := (a3 _ 1 (by omega)).trans y5
  refine ⟨z12.1, z12.2.1, _, k_addAll hWY z12 hLY (by omega) (by omega) (by rw [w21o pl 1 hLr.2, hpl]; exact hs) (by rw [w215, w21o pl 1 hLr.2, hpl]; omega), fun w26 hP => ?_⟩
  obtain ⟨b1, b2, b3⟩ := hP
  rw [w215, w21o pl 1 hLr.2, hpl] at b1 b2 b3
  have w26o : ∀ r j : Int, r < X.1.1 → w26 r j = v r j := fun r j hr => (b3 r j (by omega)).trans (w21o r j hr)
  refine ⟨7, (hE.2 st p4.1 p4.2).1.trans p3, ⟨p4.1, by omega⟩, 7, z4, z5, ⟨by decide, by decide, by decide, by decide, by decide⟩, 7, (hE.2 en p6.1 p6.2).1.trans p5, ⟨p6.1, by omega⟩, 7, z7, z8, ⟨by decide, by decide, by decide, by decide, by decide⟩, ?_⟩
  -- what the last picture says
  have fin : ∀ r j : Int, ¬ (r = X.1.1 ∧ j = 4) → upd2 (cpy2 (cpy2 w26 st 0 ((X.1.1 : Int) + 1) 0 7) en 0 ((X.1.1 : Int) + 2) 0 7) (X.1.1 : Int) 4 (cpy2 (cpy2 w26 st 0 ((X.1.1 : Int) + 1) 0 7) en 0 ((X.1.1 : Int) + 2) 0 7 p 4) r j = if r = (X.1.1 : Int) + 2 ∧ 0 ≤ j ∧ j < 0 + 7 then w26 en (0 + (j - 0)) else if r = (X.1.1 : Int) + 1 ∧ 0 ≤ j ∧ j < 0 + 7 then w26 st (0 + (j - 0)) else w26 r j := fun r j h => by
    rw [upd2_n _ h]
    unfold cpy2
    by_cases h2 : r = (X.1.1 : Int) + 2 ∧ 0 ≤ j ∧ j < 0 + 7
    · rw [if_pos h2, if_pos h2, if_neg (fun q => by omega)]
    · rw [if_neg h2, if_neg h2]
  have fin2 : ∀ r j : Int, ¬ (r = X.1.1 ∧ j = 4) → ¬ r = (X.1.1 : Int) + 1 → ¬ r = (X.1.1 : Int) + 2 → upd2 (cpy2 (cpy2 w26 st 0 ((X.1.1 : Int) + 1) 0 7) en 0 ((X.1.1 : Int) + 2) 0 7) (X.1.1 : Int) 4 (cpy2 (cpy2 w26 st 0 ((X.1.1 : Int) + 1) 0 7) en 0 ((X.1.1 : Int) + 2) 0 7 p 4) r j = w26 r j := fun r j h h1 h2 => by
    rw [fin r j h, if_neg (fun q => h2 q.1), if_neg (fun q => h1 q.1)]
  refine ⟨rfl, hE, y1', ⟨z1, z2, ⟨z3, z4, z5⟩, ⟨z6, z7, z8⟩, ⟨z9, z10⟩, z11, z12⟩, ⟨?_, ?_⟩, fun i i0 i1 => ⟨?_, ?_⟩, fun f f0 f1 => ⟨?_, ?_⟩, fun r j hn => ?_⟩
  · rw [fin2 _ _ (by omega) (by omega) (by omega), b3 _ _ (by omega), a1]; omega
  · rw [fin2 _ _ (by omega) (by omega) (by omega), b1]; omega
  · have h := a2 i i0 i1
    rw [show (0 : Int) + i = i by omega, wv ic i hIc.2] at h
    rw [fin2 _ _ (by omega) (by omega) (by omega), b3 _ _ (by omega)]
    exact h
  · have h := b2 i i0 i1
    rw [show (0 : Int) + i = i by omega, w21o pc i hLc.2] at h
    rw [fin2 _ _ (by omega) (by omega) (by omega)]
    exact h
  · rw [fin _ _ (by omega), if_neg (by omega), if_pos (by omega), show (0 : Int) + (f - 0) = f by omega]; exact w26o st f p4.2
  · rw [fin _ _ (by omega), if_pos (by omega), show (0 : Int) + (f - 0) = f by omega]; exact w26o en f p6.2
  · have hn' : ¬ (X.1.1 : Int) ≤ r := hn
    rw [fin2 _ _ (by omega) (by omega) (by omega)]; exact w26o r j (by omega)
