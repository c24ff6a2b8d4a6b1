/-! ===== the class: a new table ===== -/
theorem gExtPut {X Y : XX} (h : ExtX X Y) (o k x : Int) (hr : 0 ≤ o ∧ o < X.1.1) : GrX X (Y.1, upd2 Y.2 o k x) o (fun j => j = k) ∧ ((Y.1, upd2 Y.2 o k x) : XX).2 o k = x := by
  refine ⟨⟨h.1, fun c c0 c1 => ⟨(h.2 c c0 c1).1, fun j hj => ?_⟩⟩, upd2_s _ _ _ _⟩
  show upd2 _ _ _ _ c j = _
  rw [upd2_n _ hj]
  exact (h.2 c c0 c1).2 j
theorem RowS.put {X : XX} {a c : Int} {R : Nat} (h : RowS X a c R) {o k x : Int} (hne : ¬ a = o) : RowS (X.1, upd2 X.2 o k x) a c R := by
  obtain ⟨s1, s2, s3, s4, s5⟩ := h
  refine ⟨s1, s2, ?_, s4, s5⟩
  show upd2 _ _ _ _ a 0 = _
  rw [upd2_n _ (fun q => hne q.1)]
  exact s3
theorem PrgS.put {X : XX} {p st en it ic pl pc : Int} {R : Nat} (h : PrgS X p st en it ic pl pc R) {o k x : Int} (h1 : ¬ p = o) (h2 : ¬ it = o) (h3 : ¬ pl = o) : PrgS (X.1, upd2 X.2 o k x) p st en it ic pl pc R := by
  obtain ⟨s1, s2, ⟨s3, s4⟩, ⟨s5, s6⟩, ⟨s7, s8⟩, s9, s10⟩ := h
  have e : ∀ j, upd2 X.2 o k x p j = X.2 p j := fun j => upd2_n _ (fun q => h1 q.1)
  exact ⟨s1, s2, ⟨(e 2).trans s3, s4⟩, ⟨(e 3).trans s5, s6⟩, ⟨(e 0).trans s7, s8.put h2⟩, (e 1).trans s9, s10.put h3⟩
theorem GrX.prg {X Y : XX} {o : Int} {K : Int → Prop} {p st en it ic pl pc : Int} {R : Nat} (h : GrX X Y o K) (hp : PrgS X p st en it ic pl pc R) (h1 : ¬ p = o) (h2 : ¬ it = o) (h3 : ¬ pl = o) : PrgS Y p st en it ic pl pc R := by
  obtain ⟨s1, s2, ⟨s3, s4, s4'⟩, ⟨s5, s6, s6'⟩, ⟨s7, s8⟩, s9, s10⟩ := hp
  have hz := h.1
  obtain ⟨a1, a2⟩ := h.2 p s2.1 s2.2
  have e : ∀ j, Y.2 p j = X.2 p j := fun j => a2 j (fun q => h1 q.1)
  exact ⟨a1.trans s1, by omega, ⟨(e 2).trans s3, (h.2 st s4'.1 s4'.2).1.trans s4, by omega⟩, ⟨(e 3).trans s5, (h.2 en s6'.1 s6'.2).1.trans s6, by omega⟩, ⟨(e 0).trans s7, h.row s8 h2⟩, (e 1).trans s9, h.row s10 h3⟩
/-- the cells of a table object at o -/
def TabS (X : XX) (o : Int) (C B I W : Nat) : Prop := (87 ≤ o ∧ o + 13 ≤ X.1.1) ∧ X.1.2 o = (7, 0) ∧ (X.2 o 1 = o + 1 ∧ X.1.2 (o + 1) = (101, C)) ∧ (X.2 o 2 = o + 2 ∧ RowS X (o + 2) (o + 3) B) ∧ (X.2 o 3 = o + 4 ∧ PrgS X (o + 4) (o + 5) (o + 6) (o + 7) (o + 8) (o + 9) (o + 10) I) ∧ (X.2 o 4 = o + 11 ∧ RowS X (o + 11) (o + 12) W)
def TbI (X : XX) (v : VV) (b : Int → Int) (n N : Int) (ct : Int → Int) (o : Int) (C B I : Nat) (Y : XX) (w : VV) : Prop := (Y.1.1 = X.1.1 + 12 ∧ GrX X Y o (fun j => 0 ≤ j ∧ j ≤ 4)) ∧ (w o 0 = nm32 b n 1 ∧ w o 5 = v 4 6 ∧ w o 6 = -1 ∧ w o 7 = -1 ∧ w o 8 = -1 ∧ w o 9 = -1) ∧ (∀ i : Int, 0 ≤ i → i < C → w (o + 1) i = nm32 b n (ct i)) ∧ (w (o + 2) 1 = B ∧ ∀ i : Int, 0 ≤ i → i < B → w (o + 3) i = v 24 i) ∧ ((w (o + 7) 1 = I ∧ w (o + 9) 1 = I) ∧ (∀ i : Int, 0 ≤ i → i < I → w (o + 8) i = v 29 i ∧ w (o + 10) i = v 31 i) ∧ ∀ f, 0 ≤ f → f ≤ 6 → w (o + 5) f = v 26 f ∧ w (o + 6) f = v 27 f) ∧ (∃ Wl : List Int, (v 4 6 = 0 → Wl = []) ∧ (¬ v 4 6 = 0 → Wl = wdN b n 2 (N + 1 - 2).toNat) ∧ (Wl.length ≤ 400 ∧ 0 ≤ w 15 1) ∧ TabS Y o C B I Wl.length ∧ RowL w (o + 11) (o + 12) Wl) ∧ Fr (fun r _ => o ≤ r ∨ r = 15 ∨ r = 16) v w
set_option maxRecDepth 100000 in
set_option maxHeartbeats 4000000 in
theorem k_tblInit {X : XX} {v : VV} {b : Int → Int} {n N o : Int} {ct : Int → Int} {C B I : Nat} (hW : SW X) (hs : X.1.2 o = (7, 0)) (hr : 87 ≤ o ∧ o + 1 = X.1.1) (hT : TOK b n N v) (hN2 : 2 ≤ N) (h7 : v 4 7 = 1) (h8 : v 4 8 = 2) (hnm : 97 ≤ b (tS b n 1) ∧ b (tS b n 1) ≤ 122) (h17 : v 17 1 = C) (hC : C ≤ 6) (hct : ∀ i : Int, 0 ≤ i → i < C → v 18 i = ct i) (hNm : NmR b n N ct C) (h23 : v 23 1 = B) (hB : B ≤ 3) (h28 : v 28 1 = I) (h30 : v 30 1 = I) (hI : I ≤ 400) (h15 : 0 ≤ v 15 1) : Con mX7_init 6 12 1236 [(2, o), (2, 4)] X v (fun _ Y w => TbI X v b n N ct o C B I Y w) := by
  have eX : ((X.1.1 : Nat) : Int) = o + 1 := by omega
  refine Con.of (by decide +kernel) (fun a ha => ?_) (Nat.le_of_ble_eq_true rfl) ?_
  · rcases List.mem_cons.mp ha with rfl | ha
    · exact Nat.le_of_ble_eq_true rfl
    · rw [List.mem_singleton.mp ha]; exact Nat.le_of_ble_eq_true rfl
  show Ex mX7_init 6 0 [(2, o), (2, 4)] [] X v 12 1236 _
  refine bX7_init_0 o hr.1 (Nat.le_refl _) hW ?_
  rw [h7]
  refine ⟨by omega, _, k_name hW hT (by decide) (by omega) hnm, fun r2 w3 hP => ?_⟩
  obtain ⟨rfl, hr2⟩ := hP
  obtain rfl : r2 = nm32 b n 1 := by simpa using hr2
  refine ⟨hs, ⟨by omega, by omega⟩, ?_⟩
  -- the names of the columns
  have fu : Fr (fun r _ => r = o) w3 (upd2 (upd2 w3 o 0 (nm32 b n 1)) o 5 (upd2 w3 o 0 (nm32 b n 1) 4 6)) := Fr.up (S := fun r _ => r = o) (r := o) (j := 5) (Fr.up (S := fun r _ => r = o) (r := o) (j := 0) Fr.rf rfl) rfl
  have u0 : upd2 (upd2 w3 o 0 (nm32 b n 1)) o 5 (upd2 w3 o 0 (nm32 b n 1) 4 6) o 0 = nm32 b n 1 := by rw [upd2_n _ (by omega), upd2_s]
  have u5 : upd2 (upd2 w3 o 0 (nm32 b n 1)) o 5 (upd2 w3 o 0 (nm32 b n 1) 4 6) o 5 = w3 4 6 := by rw [upd2_s, upd2_n _ (by omega)]
  generalize upd2 (upd2 w3 o 0 (nm32 b n 1)) o 5 (upd2 w3 o 0 (nm32 b n 1) 4 6) = u at *
  have hTu : TOK b n N u := hT.fr fu (fun r j q => by unfold TOs at q; omega)
  have gu : ∀ r j : Int, r < o → u r j = w3 r j := fun r j h => fu r j (by omega)
  refine ⟨1, C, by decide, by omega, _, k_columnNames hW hTu (by rw [gu 17 1 (by omega)]; exact h17) hC (fun i i0 i1 => by rw [gu 18 i (by omega)]; exact hct i i0 i1) hNm, fun r7 Y9 w8 hP => ?_⟩
  obtain ⟨hr7, rfl, hcol, f8⟩ := hP
  obtain rfl : r7 = (X.1.1 : Int) := by simpa using hr7
  obtain ⟨G1, z1, z1r, z1s⟩ := gNewArr X o 1 101 C ⟨by omega, by omega⟩
  refine ⟨hW.new, (ExtX.new X 101 C).2 o (by omega) (by omega) |>.1.trans hs, ⟨by omega, by show o < ((X.1.1 + 1 : Nat) : Int); omega⟩, ?_⟩
  have hWZ1 : SW ((nX X 101 C).1, upd2 (nX X 101 C).2 o ((1 : Nat) : Int) X.1.1) := hW.new.refd hr.1
  change ∃ c19 s20 : Nat, c19 ≤ (12 - 1) ∧ s20 ≤ (1236 - C) ∧ ∃ P15 : QQ, Con mX6_copy 3 c19 s20 [(2, 23)] ((nX X 101 C).1, upd2 (nX X 101 C).2 o ((1 : Nat) : Int) X.1.1) w8 P15 ∧ _
  generalize ((nX X 101 C).1, upd2 (nX X 101 C).2 o ((1 : Nat) : Int) (X.1.1 : Int)) = Z1 at *
  have eZ1 : ((Z1.1.1 : Nat) : Int) = o + 2 := by omega
  rw [eX] at z1r z1s hcol f8
  have g8 : ∀ r j : Int, r < o + 1 → w8 r j = u r j := fun r j h => f8 r j (by omega)
  have e23 : w8 23 1 = B := by rw [g8 23 1 (by omega), gu 23 1 (by omega)]; exact h23
  refine ⟨2, 2 + (w8 23 1).toNat, by decide, by omega, _, k_copy hWZ1 (rowS23 hWZ1) (by decide) ⟨by omega, by show w8 23 1 ≤ ((3 : Nat) : Int); omega⟩, fun r16 Y18 w17 hP => ?_⟩
  obtain ⟨hr16, E2, y2, R2, b1, b2, f17⟩ := hP
  obtain rfl : r16 = (Z1.1.1 : Int) := by simpa using hr16
  rw [e23] at R2 b1 b2
  rw [eZ1] at R2 b1 b2 f17
  rw [show o + 2 + 1 = o + 3 by omega] at R2 b2
  rw [show ((B : Nat) : Int).toNat = B by omega] at R2
  obtain ⟨G2, z2r⟩ := gExtPut E2 o 2 (Z1.1.1 : Int) ⟨by omega, by omega⟩
  have hWY18 : SW Y18 := hWZ1.ext E2
  have hWZ2 : SW (Y18.1, upd2 Y18.2 o 2 (Z1.1.1 : Int)) := hWY18.refd hr.1
  have R2' := R2.put (o := o) (k := 2) (x := (Z1.1.1 : Int)) (by omega)
  have hs1 : Z1.1.2 o = (7, 0) := (G1.2 o (by omega) (by omega)).1.trans hs
  refine ⟨hWY18, (E2.2 o (by omega) (by omega)).1.trans hs1, ⟨by omega, by omega⟩, ?_⟩
  have yz2 : ((Y18.1, upd2 Y18.2 o 2 (Z1.1.1 : Int)) : XX).1.1 = Z1.1.1 + 2 := y2
  generalize (Y18.1, upd2 Y18.2 o 2 (Z1.1.1 : Int)) = Z2 at *
  have eZ2 : ((Z2.1.1 : Nat) : Int) = o + 4 := by omega
  have g17 : ∀ r j : Int, r < o + 2 → w17 r j = w8 r j := fun r j h => f17 r j (by omega)
  have gl : ∀ r j : Int, r < o → w17 r j = w3 r j := fun r j h => by rw [g17 r j (by omega), g8 r j (by omega), gu r j h]
  -- the program
  refine ⟨7, 23 + 2 * (w17 28 1).toNat, by omega, by rw [gl 28 1 (by omega), h28]; omega, _, k_prgCopy hWZ2 (prgS25 hWZ2) (by decide) ⟨by rw [gl 28 1 (by omega), h28]; omega, by rw [gl 28 1 (by omega), h28]; show (I : Int) ≤ ((400 : Nat) : Int); omega⟩ (by rw [gl 28 1 (by omega), gl 30 1 (by omega), h28, h30]), fun r25 Y27 w26 hP => ?_⟩
  obtain ⟨hr25, E3, y3, R3, ⟨c1, c2⟩, c3, c4, f26⟩ := hP
  obtain rfl : r25 = (Z2.1.1 : Int) := by simpa using hr25
  have e28 : w17 28 1 = I := by rw [gl 28 1 (by omega)]; exact h28
  rw [e28] at R3 c1 c2 c3
  rw [show ((I : Nat) : Int).toNat = I by omega] at R3
  rw [eZ2] at R3 c1 c2 c3 c4 f26
  rw [show o + 4 + 1 = o + 5 by omega, show o + 4 + 2 = o + 6 by omega, show o + 4 + 3 = o + 7 by omega, show o + 4 + 4 = o + 8 by omega, show o + 4 + 5 = o + 9 by omega, show o + 4 + 6 = o + 10 by omega] at R3
  rw [show o + 4 + 3 = o + 7 by omega] at c1
  rw [show o + 4 + 5 = o + 9 by omega] at c2
  rw [show o + 4 + 4 = o + 8 by omega, show o + 4 + 6 = o + 10 by omega] at c3
  rw [show o + 4 + 1 = o + 5 by omega, show o + 4 + 2 = o + 6 by omega] at c4
  obtain ⟨G3, z3r⟩ := gExtPut E3 o 3 (Z2.1.1 : Int) ⟨by omega, by omega⟩
  have hWY27 : SW Y27 := hWZ2.ext E3
  have hWZ3 : SW (Y27.1, upd2 Y27.2 o 3 (Z2.1.1 : Int)) := hWY27.refd hr.1
  have R3' := R3.put (o := o) (k := 3) (x := (Z2.1.1 : Int)) (by omega) (by omega) (by omega)
  have hs2 : Z2.1.2 o = (7, 0) := (G2.2 o (by omega) (by omega)).1.trans hs1
  refine ⟨hWY27, (E3.2 o (by omega) (by omega)).1.trans hs2, ⟨by omega, by omega⟩, ?_⟩
  have yz3 : ((Y27.1, upd2 Y27.2 o 3 (Z2.1.1 : Int)) : XX).1.1 = Z2.1.1 + 7 := y3
  generalize (Y27.1, upd2 Y27.2 o 3 (Z2.1.1 : Int)) = Z3 at *
  have eZ3 : ((Z3.1.1 : Nat) : Int) = o + 11 := by omega
  have g26 : ∀ r j : Int, r < o + 4 → w26 r j = w17 r j := fun r j h => f26 r j (by omega)
  have gl2 : ∀ r j : Int, r < o → w26 r j = w3 r j := fun r j h => by rw [g26 r j (by omega), gl r j h]
  have hT26 : TOK b n N w26 := hT.fr (S := fun r _ => o ≤ r) (fun r j h => gl2 r j (by omega)) (fun r j q => by unfold TOs at q; omega)
  -- the wording
  refine ⟨2, 402, by omega, by rw [gl 28 1 (by omega), h28]; omega, _, k_wording hWZ3 hT26 (a := 2) ((gl2 4 8 (by omega)).trans h8) ⟨by decide, hN2⟩ (by rw [gl2 15 1 (by omega)]; exact h15), fun r34 Y36 w35 hP => ?_⟩
  have e46 : w26 4 6 = w3 4 6 := gl2 4 6 (by omega)
  rw [e46] at hP
  obtain ⟨Wl, hWl0, hWl1, hWd⟩ : ∃ Wl : List Int, (w3 4 6 = 0 → Wl = []) ∧ (¬ w3 4 6 = 0 → Wl = wdN b n 2 (N + 1 - 2).toNat) ∧ WdP Z3 w26 Wl (some (2, r34)) Y36 w35 := by
    by_cases z : w3 4 6 = 0
    · exact ⟨[], fun _ => rfl, fun y => absurd z y, hP.1 z⟩
    · exact ⟨_, fun y => absurd y z, fun _ => rfl, hP.2 z⟩
  obtain ⟨hr34, E4, y4, R4, d1, d2, f35⟩ := hWd
  obtain rfl : r34 = (Z3.1.1 : Int) := by simpa using hr34
  rw [eZ3] at R4 d1 f35
  rw [show o + 11 + 1 = o + 12 by omega] at R4 d1
  obtain ⟨G4, z4r⟩ := gExtPut E4 o 4 (Z3.1.1 : Int) ⟨by omega, by omega⟩
  have hs3 : Z3.1.2 o = (7, 0) := (G3.2 o (by omega) (by omega)).1.trans hs2
  have R4' := R4.put (o := o) (k := 4) (x := (Z3.1.1 : Int)) (by omega)
  refine ⟨hWZ3.ext E4, (E4.2 o (by omega) (by omega)).1.trans hs3, ⟨by omega, by omega⟩, ?_⟩
  have yz4 : ((Y36.1, upd2 Y36.2 o 4 (Z3.1.1 : Int)) : XX).1.1 = Z3.1.1 + 2 := y4
  generalize (Y36.1, upd2 Y36.2 o 4 (Z3.1.1 : Int)) = Z4 at *
  have hs4 : Z4.1.2 o = (7, 0) := (G4.2 o (by omega) (by omega)).1.trans hs3
  have g35 : ∀ r j : Int, r < o + 11 → ¬ r = 15 → ¬ r = 16 → w35 r j = w26 r j := fun r j h h1 h2 => f35 r j (by omega)
  -- the last picture
  have fin : ∀ r j : Int, ¬ (r = o ∧ 6 ≤ j ∧ j ≤ 9) → upd2 (upd2 (upd2 (upd2 w35 o 6 (-1)) o 7 (-1)) o 8 (-1)) o 9 (-1) r j = w35 r j := fun r j h => by
    rw [upd2_n _ (by omega), upd2_n _ (by omega), upd2_n _ (by omega), upd2_n _ (by omega)]
  have GA : GrX Z3 Z4 o (fun j => 0 ≤ j ∧ j ≤ 4) := G4.mono (fun j h => by omega)
  have GB : GrX Z2 Z4 o (fun j => 3 ≤ j ∧ j ≤ 4) := (G3.trans G4).mono (fun j h => by omega)
  have GC : GrX Z1 Z4 o (fun j => 2 ≤ j ∧ j ≤ 4) := (G2.trans GB).mono (fun j h => by omega)
  have GD : GrX X Z4 o (fun j => 0 ≤ j ∧ j ≤ 4) := (G1.trans GC).mono (fun j h => by omega)
  rw [eZ1] at z2r
  rw [eZ2] at z3r
  rw [eZ3] at z4r
  refine ⟨⟨by omega, GD⟩, ⟨?_, ?_, ?_, ?_, ?_, ?_⟩, fun i i0 i1 => ?_, ⟨?_, fun i i0 i1 => ?_⟩, ⟨⟨?_, ?_⟩, fun i i0 i1 => ⟨?_, ?_⟩, fun f f0 f1 => ⟨?_, ?_⟩⟩, ⟨Wl, hWl0, hWl1, ⟨d2.1, by rw [fin 15 1 (by omega)]; exact d2.2⟩, ?_, ?_, fun i x hx => ?_⟩, fun r j hn => ?_⟩
  · rw [fin _ _ (by omega), g35 _ _ (by omega) (by omega) (by omega), g26 _ _ (by omega), g17 _ _ (by omega), g8 _ _ (by omega)]; exact u0
  · rw [fin _ _ (by omega), g35 _ _ (by omega) (by omega) (by omega), g26 _ _ (by omega), g17 _ _ (by omega), g8 _ _ (by omega)]; exact u5
  · rw [upd2_n _ (by omega), upd2_n _ (by omega), upd2_n _ (by omega), upd2_s]
  · rw [upd2_n _ (by omega), upd2_n _ (by omega), upd2_s]
  · rw [upd2_n _ (by omega), upd2_s]
  · rw [upd2_s]
  · rw [fin _ _ (by omega), g35 _ _ (by omega) (by omega) (by omega), g26 _ _ (by omega), g17 _ _ (by omega)]; exact hcol i i0 i1
  · rw [fin _ _ (by omega), g35 _ _ (by omega) (by omega) (by omega), g26 _ _ (by omega)]; exact b1
  · rw [fin _ _ (by omega), g35 _ _ (by omega) (by omega) (by omega), g26 _ _ (by omega), b2 i i0 i1, g8 _ _ (by omega), gu _ _ (by omega)]
  · rw [fin _ _ (by omega), g35 _ _ (by omega) (by omega) (by omega)]; exact c1
  · rw [fin _ _ (by omega), g35 _ _ (by omega) (by omega) (by omega)]; exact c2
  · rw [fin _ _ (by omega), g35 _ _ (by omega) (by omega) (by omega), (c3 i i0 i1).1, gl _ _ (by omega)]
  · rw [fin _ _ (by omega), g35 _ _ (by omega) (by omega) (by omega), (c3 i i0 i1).2, gl _ _ (by omega)]
  · rw [fin _ _ (by omega), g35 _ _ (by omega) (by omega) (by omega), (c4 f f0 f1).1, gl _ _ (by omega)]
  · rw [fin _ _ (by omega), g35 _ _ (by omega) (by omega) (by omega), (c4 f f0 f1).2, gl _ _ (by omega)]
  · refine ⟨⟨hr.1, by omega⟩, hs4, ⟨?_, ?_⟩, ⟨?_, GB.row R2' (by omega)⟩, ⟨?_, GA.prg R3' (by omega) (by omega) (by omega)⟩, z4r, R4'⟩
    · exact ((GC.2 o (by omega) (by omega)).2 1 (fun q => by have := q.2.1; omega)).trans z1r
    · exact ((GC.2 (o + 1) (by omega) (by omega)).1).trans z1s
    · exact ((GB.2 o (by omega) (by omega)).2 2 (fun q => by have := q.2.1; omega)).trans z2r
    · exact ((G4.2 o (by omega) (by omega)).2 3 (fun q => absurd q.2 (by decide))).trans z3r
  · rw [fin _ _ (by omega)]; exact d1.1
  · rw [fin _ _ (by omega)]; exact d1.2 i x hx
  · have hn' : ¬ (o ≤ r ∨ r = 15 ∨ r = 16) := hn
    rw [fin _ _ (by omega), g35 _ _ (by omega) (by omega) (by omega), gl2 _ _ (by omega)]
