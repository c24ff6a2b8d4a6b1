/-! ===== the class: the body of a select ===== -/
theorem k_formula0 {X : XX} {b : Int → Int} {n N a s : Int} {v : VV} (hW : SW X) (hA : PA b n N a v) (hI : ITs v s) (hs : s ≤ a) : CX mX4_readFormula 9 [(2, 3), (0, 0)] X v (fun o v1 => PT b n N s v (rForm b n 3 a) (emF b n 3 a) o v1 ∧ ((rForm b n 3 a).1 = true → ¬ isOp (tK b n (rForm b n 3 a).2))) := by
  have h := k_formula hW a s v hA hI hs
  rwa [show (3 : Int) - ((3 : Nat) : Int) = 0 by decide] at h
set_option maxRecDepth 100000 in
set_option maxHeartbeats 4000000 in
theorem k_close {X : XX} {v : VV} (hW : SW X) {p : Int} (hp : 0 ≤ p ∧ p ≤ 6) : CX mX5_closePart 1 [(2, 25), (0, p)] X v (fun _ v1 => v1 = upd2 (upd2 (upd2 v 26 p (v 25 4)) 27 p (v 28 1)) 25 4 (v 28 1)) := by
  refine CX.of (by decide +kernel) rfl rfl rfl (bX5_closePart_0 25 p (Nat.le_refl _) hW (fun _ => ⟨fun g => by omega, fun _ => ⟨fun g => by omega, fun _ => ⟨sW25 hW, gW25 hW, ?_⟩⟩⟩))
  rw [rW25_0 hW, rW25_2 hW, rW25_3 hW]
  refine ⟨7, sW26 hW, gW26 hW, ⟨by omega, by omega⟩, sW28 hW, gW28 hW, _, k_size hW (rowS28 hW), fun r17 w18 hP => ?_⟩
  obtain ⟨rfl, hr⟩ := hP
  rw [upd2_n _ (by omega)] at hr
  obtain rfl : r17 = v 28 1 := by simpa using hr
  refine ⟨7, sW27 hW, gW27 hW, ⟨by omega, by omega⟩, _, k_size hW (rowS28 hW), fun r22 w23 hP => ?_⟩
  obtain ⟨rfl, hr22⟩ := hP
  rw [upd2_n _ (by omega), upd2_n _ (by omega)] at hr22
  obtain rfl : r22 = v 28 1 := by simpa using hr22
  exact ⟨rfl, rfl⟩
/-- the items of the first c results -/
noncomputable def emA (b : Int → Int) (n : Int) : Nat → List (Int × Int)
  | 0 => []
  | c + 1 => emA b n c ++ emF b n 3 (qN b n 3 c + 2)
noncomputable def off (b : Int → Int) (n : Int) (c : Nat) : Int := ((emA b n c).length : Int)
theorem off_0 (b : Int → Int) (n : Int) : off b n 0 = 0 := rfl
theorem off_s (b : Int → Int) (n : Int) (c : Nat) : off b n (c + 1) = off b n c + ((emF b n 3 (qN b n 3 c + 2)).length : Int) := by
  unfold off
  show ((emA b n c ++ emF b n 3 (qN b n 3 c + 2)).length : Int) = _
  rw [List.length_append]; omega
/-- the results in the draft: c of them -/
def ResC (b : Int → Int) (n : Int) (c : Nat) (v : VV) : Prop := v 17 1 = c ∧ (∀ k : Nat, k < c → v 18 k = qN b n 3 k ∧ v 26 k = off b n k ∧ v 27 k = off b n (k + 1)) ∧ ITL v 0 (emA b n c) ∧ v 25 4 = off b n c ∧ ∀ f : Int, (c : Int) ≤ f → f < 6 → v 26 f = 0 ∧ v 27 f = 0
def SPq (r j : Int) : Prop := SPf 0 r j ∨ (r = 17 ∧ j = 1) ∨ r = 18 ∨ ((r = 26 ∨ r = 27) ∧ 0 ≤ j ∧ j < 6) ∨ (r = 25 ∧ j = 4)
theorem dzq {t : Int} {v w : VV} (hf : Fr SPq v w) (h1 : 0 ≤ w 17 1) (hI : ITs w t) : DSz v → DSz w := fun h => h.of (fun r hr => by
  obtain ⟨i1, i2, i3⟩ := hI
  by_cases z : r = 17 ∨ r = 28 ∨ r = 30
  · refine Or.inr ?_
    rcases z with z | z | z
    · rw [z]; exact h1
    · rw [z]; omega
    · rw [z]; omega
  · exact Or.inl (hf r 1 (by unfold SPq SPf SPa; omega)))
theorem SPq_TO {r j : Int} (h : TOs r j) : ¬ SPq r j := by unfold TOs at h; unfold SPq SPf SPa; omega
theorem SPa_q {r j : Int} (h : SPa r j) : SPq r j := Or.inl (Or.inl h)
theorem SPq_z {r j : Int} (h : SPq r j) : SPz r j := by
  rcases h with h | h
  · exact SPf_z h
  · unfold SPz; omega
theorem ResC.fr {b : Int → Int} {n : Int} {c : Nat} {v V : VV} (h : ResC b n c v) (hf : Fr SPa v V) : ResC b n c V := ⟨(hf 17 1 (by unfold SPa; omega)).trans h.1, fun k hk => by rw [hf 18 k (by unfold SPa; omega), hf 26 k (by unfold SPa; omega), hf 27 k (by unfold SPa; omega)]; exact h.2.1 k hk, h.2.2.1.fr hf, (hf 25 4 (by unfold SPa; omega)).trans h.2.2.2.1, fun f f0 f1 => by rw [hf 26 f (by unfold SPa; omega), hf 27 f (by unfold SPa; omega)]; exact h.2.2.2.2 f f0 f1⟩
def ReR (b : Int → Int) (n N : Int) (v : VV) (r : Bool × Int) (o : Option AV) (v1 : VV) : Prop := PP b n N SPq v r o v1 ∧ (r.1 = true → ∃ C : Nat, (1 ≤ C ∧ C ≤ 6) ∧ ResP b n 3 C ∧ ResC b n C v1 ∧ tK b n (qN b n 3 C - 1) = 264 ∧ r.2 = qN b n 3 C)
theorem ReR.bad {b : Int → Int} {n N : Int} {v v1 : VV} {r : Bool × Int} {o : Option AV} (h : PP b n N SPq v r o v1) (hr : r.1 = false) : ReR b n N v r o v1 := ⟨h, fun q => by rw [hr] at q; exact Bool.noConfusion q⟩
set_option maxRecDepth 100000 in
set_option maxHeartbeats 4000000 in
theorem k_res {X : XX} {b : Int → Int} {n N : Int} {v0 : VV} (hW : SW X) : ∀ (m c : Nat) (a : Int) (w : VV), m + c = 6 → a = qN b n 3 c → PA b n N a w → Fr SPq v0 w → ResP b n 3 c → (0 < c → tK b n (qN b n 3 c - 1) = 44) → ResC b n c w → off b n c ≤ a → Ex mX4_readResults 11 2 [(2, 3), (0, (c : Int))] [] X w 0 0 (fun o X1 v1 => X1 = X ∧ ReR b n N v0 (rRes b n m a) o v1)
  | 0, c, a, w, hm, ha, hA, hf, hP, h44, hS, ho => by
    exact bX4_readResults_2 c (Nat.le_refl _) hW (fun _ => ⟨fun g => ⟨rfl, ReR.bad (PP.no hA hf (dzq hf (by have := hS.1; omega) hS.2.2.1.1)) rfl⟩, fun g => by omega⟩)
  | m + 1, c, a, w, hm, ha, hA, hf, hP, h44, hS, ho => by
    obtain ⟨s1, s2, s3, s4, s5⟩ := id hS
    rw [rRes_s]
    refine bX4_readResults_2 c (Nat.le_refl _) hW (fun _ => ⟨fun g => by omega, fun _ => ⟨_, k_add hW (rowS17 hW) (by decide) ⟨by omega, by omega⟩ _, fun w3 hP3 => ?_⟩⟩)
    have e3 : w3 = rAdd w 17 18 (w 3 1) := hP3
    rw [hA.2.1] at e3
    have f3 : Fr (fun r j => (r = 17 ∧ j = 1) ∨ r = 18) w w3 := by
      rw [e3]; unfold rAdd
      exact (Fr.rf.up (Or.inr rfl)).up (Or.inl ⟨rfl, rfl⟩)
    have hA3 : PA b n N a w3 := ⟨hA.1.fr f3 (fun r j q => by unfold TOs at q; omega), (f3 3 1 (by omega)).trans hA.2.1, hA.2.2.1, (f3 3 2 (by omega)).trans hA.2.2.2⟩
    have g1 : w3 17 1 = (c : Int) + 1 := by rw [e3, rAdd_1, s1]
    have g2 : ∀ i, w3 18 i = if i = (c : Int) then a else w 18 i := fun i => by rw [e3, rAdd_c (by decide), s1]
    have fs3 : Fr SPq v0 w3 := hf.via f3 (fun _ _ q => q) (fun r j q => by unfold SPq; omega)
    have i3 : ITs w3 (0 + ((emA b n c).length : Int)) := ⟨(f3 28 1 (by omega)).trans s3.1.1, (f3 30 1 (by omega)).trans s3.1.2.1, s3.1.2.2⟩
    refine ⟨_, k_takeName hW hA3, fun r6 w7 hP1 => ?_⟩
    have b1 := PP_bool hP1
    have f7 := fs3.via hP1.1 (fun _ _ q => q) (fun _ _ q => SPa_q q)
    refine ⟨fun g => ?_, fun g => ?_⟩
    · have hno := nob b1.2 g
      have e0 : r6 = 0 := g
      subst e0
      rw [rThen_f hno]
      exact ⟨rfl, ReR.bad (hP1.mono fs3 (fun _ _ q => SPa_q q) (dzq fs3 (by rw [g1]; omega) i3)) hno⟩
    have y1 := b1.2.mpr g
    obtain ⟨e1, t1, t2⟩ := rName_t y1
    have hA7 := hP1.at hA3.1 (fun r j q => SPa_TO q) y1
    rw [rThen_t y1]
    rw [e1] at hA7 ⊢
    replace hA7 : PA b n N (a + 1) w7 := hA7
    refine ⟨_, k_take hW hA7 58 (by decide), fun r10 w11 hP2 => ?_⟩
    have b2 := PP_bool hP2
    have f11 := f7.via hP2.1 (fun _ _ q => q) (fun _ _ q => SPa_q q)
    refine ⟨fun g => ?_, fun g => ?_⟩
    · have hno := nob b2.2 g
      have e0 : r10 = 0 := g
      subst e0
      rw [show rR3 b n m (true, a + 1).2 = rTake b n 58 (a + 1) from rThen_f hno]
      exact ⟨rfl, ReR.bad (hP2.mono f7 (fun _ _ q => SPa_q q) (dzq f7 (by rw [hP1.1 17 1 (by unfold SPa; omega), g1]; omega) (i3.fr hP1.1))) hno⟩
    have y2 := b2.2.mpr g
    obtain ⟨e2, t3⟩ := rTake_t y2
    have hA11 := hP2.at hA7.1 (fun r j q => SPa_TO q) y2
    rw [show rR3 b n m (true, a + 1).2 = rR2 b n m (rTake b n 58 (a + 1)).2 from rThen_t y2]
    rw [e2] at hA11 ⊢
    replace hA11 : PA b n N (a + 1 + 1) w11 := hA11
    have ea : a + 1 + 1 = qN b n 3 c + 2 := by omega
    show ∃ e17 : Nat, _
    have k17 : w11 17 1 = (c : Int) + 1 := (hP2.1 17 1 (by unfold SPa; omega)).trans ((hP1.1 17 1 (by unfold SPa; omega)).trans g1)
    have k18 : ∀ i, w11 18 i = if i = (c : Int) then a else w 18 i := fun i => (hP2.1 18 i (by unfold SPa; omega)).trans ((hP1.1 18 i (by unfold SPa; omega)).trans (g2 i))
    have kf : Fr (fun r j => SPa r j ∨ (r = 17 ∧ j = 1) ∨ r = 18) w w11 := ((f3.mono (fun r j h q => h (Or.inr q))).via hP1.1 (fun _ _ q => q) (fun _ _ q => Or.inl q)).via hP2.1 (fun _ _ q => q) (fun _ _ q => Or.inl q)
    have hI11 : ITL w11 0 (emA b n c) := by
      obtain ⟨⟨z1, z2, z3⟩, z4⟩ := s3
      exact ⟨⟨(kf 28 1 (by unfold SPa; omega)).trans z1, (kf 30 1 (by unfold SPa; omega)).trans z2, z3⟩, z4.fr _ _ (fun j _ _ => ⟨kf 29 j (by unfold SPa; omega), kf 31 j (by unfold SPa; omega)⟩)⟩
    have hI11' : ITs w11 (off b n c) := by
      have z := hI11.1
      rw [show (0 : Int) + ((emA b n c).length : Int) = off b n c by unfold off; omega] at z
      exact z
    refine ⟨9, by omega, _, k_formula0 hW hA11 hI11' (by omega), fun r14 w15 hP3 => ?_⟩
    obtain ⟨⟨hP3, hL3⟩, -⟩ := hP3
    have b3 := PP_bool hP3
    have sfq : ∀ r j, SPf (off b n c) r j → SPq r j := fun r j q => by
      have h0 : 0 ≤ off b n c := by unfold off; omega
      rcases q with q | q
      · exact SPa_q q
      · refine Or.inl ?_
        unfold SPf; omega
    have f15 := f11.via hP3.1 (fun _ _ q => q) sfq
    refine ⟨fun g => ?_, fun g => ?_⟩
    · have y3 := b3.2.mpr g
      have hA15 := hP3.at hA11.1 (fun r j q => SPf_TO q) y3
      have hlt := rForm_lt y3
      have hln := emF_len y3
      have hI15 := hL3 y3
      rw [show rR2 b n m (true, a + 1 + 1).2 = rR1 b n m (rForm b n 3 (a + 1 + 1)).2 from rThen_t y3]
      rw [ea] at hlt hln hI15 y3 hA15
      have hnew : ITL w15 0 (emA b n (c + 1)) := by
        refine ⟨?_, (AtL.app _ _ _).mpr ⟨hI11.2.fr _ _ (fun j j0 j1 => ?_), ?_⟩⟩
        · have z := hI15.1
          rw [show (0 : Int) + ((emA b n (c + 1)).length : Int) = off b n c + ((emF b n 3 (qN b n 3 c + 2)).length : Int) by rw [← off_s]; unfold off; omega]
          exact z
        · have h1 : j < off b n c := by unfold off; omega
          exact ⟨hP3.1 29 j (by unfold SPf SPa; omega), hP3.1 31 j (by unfold SPf SPa; omega)⟩
        · rw [show (0 : Int) + ((emA b n c).length : Int) = off b n c by unfold off; omega]
          exact hI15.2
      have e28 : w15 28 1 = off b n (c + 1) := by
        have z := hnew.1.1
        rw [z]; unfold off; omega
      have e254 : w15 25 4 = off b n c := by
        rw [hP3.1 25 4 (by unfold SPf SPa; omega), kf 25 4 (by unfold SPa; omega)]; exact s4
      refine ⟨_, k_close hW (p := (c : Int)) ⟨by omega, by omega⟩, fun w20 hP4 => ?_⟩
      have e20 : w20 = upd2 (upd2 (upd2 w15 26 c (w15 25 4)) 27 c (w15 28 1)) 25 4 (w15 28 1) := hP4
      rw [e28, e254] at e20
      have f20 : Fr (fun r j => (r = 26 ∧ j = c) ∨ (r = 27 ∧ j = c) ∨ (r = 25 ∧ j = 4)) w15 w20 := by
        rw [e20]
        exact ((Fr.rf.up (Or.inl ⟨rfl, rfl⟩)).up (Or.inr (Or.inl ⟨rfl, rfl⟩))).up (Or.inr (Or.inr ⟨rfl, rfl⟩))
      have hA20 : PA b n N (rForm b n 3 (qN b n 3 c + 2)).2 w20 := ⟨hA15.1.fr f20 (fun r j q => by unfold TOs at q; omega), (f20 3 1 (by omega)).trans hA15.2.1, hA15.2.2.1, (f20 3 2 (by omega)).trans hA15.2.2.2⟩
      have fz20 := f15.via f20 (fun _ _ q => q) (fun r j q => by unfold SPq; omega)
      have hS20 : ResC b n (c + 1) w20 := by
        refine ⟨?_, fun k hk => ?_, ?_, ?_, fun f f0 f1 => ?_⟩
        · rw [f20 17 1 (by omega), hP3.1 17 1 (by unfold SPf SPa; omega), k17]; omega
        · by_cases hkc : k = c
          · subst hkc
            refine ⟨?_, ?_, ?_⟩
            · rw [f20 18 k (by omega), hP3.1 18 k (by unfold SPf SPa; omega), k18, if_pos rfl]; exact ha
            · rw [e20, upd2_n _ (by omega), upd2_n _ (by omega), upd2_s]
            · rw [e20, upd2_n _ (by omega), upd2_s]
          · obtain ⟨z1, z2, z3⟩ := s2 k (by omega)
            refine ⟨?_, ?_, ?_⟩
            · rw [f20 18 k (by omega), hP3.1 18 k (by unfold SPf SPa; omega), k18, if_neg (by omega)]; exact z1
            · rw [f20 26 k (by omega), hP3.1 26 k (by unfold SPf SPa; omega), kf 26 k (by unfold SPa; omega)]; exact z2
            · rw [f20 27 k (by omega), hP3.1 27 k (by unfold SPf SPa; omega), kf 27 k (by unfold SPa; omega)]; exact z3
        · obtain ⟨⟨z1, z2, z3⟩, z4⟩ := hnew
          exact ⟨⟨(f20 28 1 (by omega)).trans z1, (f20 30 1 (by omega)).trans z2, z3⟩, z4.fr _ _ (fun j _ _ => ⟨f20 29 j (by omega), f20 31 j (by omega)⟩)⟩
        · rw [e20, upd2_s]
        · rw [f20 26 f (by omega), hP3.1 26 f (by unfold SPf SPa; omega), kf 26 f (by unfold SPa; omega), f20 27 f (by omega), hP3.1 27 f (by unfold SPf SPa; omega), kf 27 f (by unfold SPa; omega)]
          exact s5 f (by omega) f1
      have hqs : qN b n 3 (c + 1) = (rForm b n 3 (qN b n 3 c + 2)).2 + 1 := rfl
      have hP' : ResP b n 3 (c + 1) := fun k hk => by
        by_cases hkc : k = c
        · subst hkc
          rw [← ha]
          refine ⟨t1, t2, t3, ?_, fun z => by omega⟩
          rw [ha]; exact y3
        · obtain ⟨z1, z2, z3, z4, z5⟩ := hP k (by omega)
          refine ⟨z1, z2, z3, z4, fun _ => ?_⟩
          by_cases hk2 : k + 1 = c
          · rw [hk2]; exact h44 (by omega)
          · exact z5 (by omega)
      have hoff : off b n (c + 1) ≤ qN b n 3 (c + 1) := by rw [off_s, hqs]; omega
      rw [ea]
      refine ⟨_, k_take2 hW hA20 44 (by decide), fun r23 w24 hP5 => ?_⟩
      obtain ⟨hP5, hsame⟩ := hP5
      have b5 := PP_bool hP5
      have f24 := fz20.via hP5.1 (fun _ _ q => q) (fun _ _ q => SPa_q q)
      refine ⟨fun g2 => ?_, fun g2 => ?_⟩
      · have y5 := b5.2.mpr g2
        obtain ⟨e5, t5⟩ := rTake_t y5
        have hA24 := hP5.at hA20.1 (fun r j q => SPa_TO q) y5
        rw [e5] at hA24
        replace hA24 : PA b n N (qN b n 3 (c + 1)) w24 := hA24
        rw [show rR1 b n m (rForm b n 3 (qN b n 3 c + 2)).2 = rRes b n m (qN b n 3 (c + 1)) from if_pos t5]
        refine ⟨⟨by omega, by omega⟩, ?_⟩
        have h := k_res hW m (c + 1) (qN b n 3 (c + 1)) w24 (by omega) rfl hA24 f24 hP' (fun _ => by rw [hqs, show (rForm b n 3 (qN b n 3 c + 2)).2 + 1 - 1 = (rForm b n 3 (qN b n 3 c + 2)).2 by omega]; exact t5) (hS20.fr hP5.1) hoff
        rw [show ((c + 1 : Nat) : Int) = (c : Int) + 1 by omega] at h
        exact h
      · have hno := nob b5.2 g2
        have ew := hsame hno
        subst ew
        have t5 : ¬ tK b n (rForm b n 3 (qN b n 3 c + 2)).2 = 44 := fun z => by
          unfold rTake at hno
          rw [if_pos z] at hno
          exact Bool.noConfusion hno
        rw [show rR1 b n m (rForm b n 3 (qN b n 3 c + 2)).2 = rTake b n 264 (rForm b n 3 (qN b n 3 c + 2)).2 from if_neg t5]
        refine ⟨_, k_take hW hA20 264 (by decide), fun r27 w28 hP6 => ⟨(PP_bool hP6).1, rfl, hP6.mono fz20 (fun _ _ q => SPa_q q) (dzq fz20 (by have := hS20.1; omega) hS20.2.2.1.1), fun y6 => ⟨c + 1, ⟨by omega, by omega⟩, hP', hS20.fr hP6.1, ?_, ?_⟩⟩⟩
        · rw [hqs, show (rForm b n 3 (qN b n 3 c + 2)).2 + 1 - 1 = (rForm b n 3 (qN b n 3 c + 2)).2 by omega]
          exact (rTake_t y6).2
        · rw [(rTake_t y6).1]; rfl
    · have hno := nob b3.2 g
      have e0 : r14 = 0 := g
      subst e0
      rw [show rR2 b n m (true, a + 1 + 1).2 = rForm b n 3 (a + 1 + 1) from rThen_f hno]
      exact ⟨rfl, ReR.bad (hP3.mono f11 sfq (dzq f11 (by rw [k17]; omega) hI11.1)) hno⟩
/-- the tables behind in the draft -/
def BehC (a1 : Int) (B : Nat) (v : VV) : Prop := v 21 1 = B ∧ ∀ k : Nat, k < B → v 22 k = a1 + 2 * k
theorem BehC.fr {a1 : Int} {B : Nat} {v V : VV} (h : BehC a1 B v) (hf : Fr SPa v V) : BehC a1 B V := ⟨(hf 21 1 (by unfold SPa; omega)).trans h.1, fun k hk => (hf 22 k (by unfold SPa; omega)).trans (h.2 k hk)⟩
def SPb (r j : Int) : Prop := SPa r j ∨ (r = 21 ∧ j = 1) ∨ r = 22
theorem dzb {v w : VV} (hf : Fr SPb v w) (h1 : 0 ≤ w 21 1) : DSz v → DSz w := fun h => h.of (fun r hr => by
  by_cases z : r = 21
  · exact Or.inr (by rw [z]; exact h1)
  · exact Or.inl (hf r 1 (by unfold SPb SPa; omega)))
theorem SPb_TO {r j : Int} (h : TOs r j) : ¬ SPb r j := by unfold TOs at h; unfold SPb SPa; omega
theorem SPa_b {r j : Int} (h : SPa r j) : SPb r j := Or.inl h
theorem SPb_z {r j : Int} (h : SPb r j) : SPz r j := by
  rcases h with h | h
  · exact SPa_z h
  · unfold SPz; omega
def BeR (b : Int → Int) (n N a1 : Int) (v : VV) (r : Bool × Int) (o : Option AV) (v1 : VV) : Prop := PP b n N SPb v r o v1 ∧ (r.1 = true → ∃ B : Nat, (1 ≤ B ∧ B ≤ 3) ∧ BehP b n a1 B ∧ BehC a1 B v1 ∧ r.2 = a1 + 2 * B - 1 ∧ ¬ tK b n r.2 = 44)
theorem BeR.bad {b : Int → Int} {n N a1 : Int} {v v1 : VV} {r : Bool × Int} {o : Option AV} (h : PP b n N SPb v r o v1) (hr : r.1 = false) : BeR b n N a1 v r o v1 := ⟨h, fun q => by rw [hr] at q; exact Bool.noConfusion q⟩
set_option maxRecDepth 100000 in
set_option maxHeartbeats 4000000 in
theorem k_beh {X : XX} {b : Int → Int} {n N a1 : Int} {v0 : VV} (hW : SW X) : ∀ (m k : Nat) (a : Int) (w : VV), m + k = 3 → a = a1 + 2 * k → PA b n N a w → Fr SPb v0 w → BehP b n a1 k → (0 < k → tK b n (a - 1) = 44) → BehC a1 k w → Ex mX4_readBehind 2 2 [(2, 3), (0, (k : Int))] [] X w 0 0 (fun o X1 v1 => X1 = X ∧ BeR b n N a1 v0 (rBeh b n m a) o v1)
  | 0, k, a, w, hm, ha, hA, hf, hP, h44, hS => by
    exact bX4_readBehind_2 k (Nat.le_refl _) hW (fun _ => ⟨fun g => ⟨rfl, BeR.bad (PP.no hA hf (dzb hf (by have := hS.1; omega))) rfl⟩, fun g => by omega⟩)
  | m + 1, k, a, w, hm, ha, hA, hf, hP, h44, hS => by
    obtain ⟨s1, s2⟩ := id hS
    rw [rBeh_s]
    refine bX4_readBehind_2 k (Nat.le_refl _) hW (fun _ => ⟨fun g => by omega, fun _ => ⟨_, k_add hW (rowS21 hW) (by decide) ⟨by omega, by omega⟩ _, fun w3 hP3 => ?_⟩⟩)
    have e3 : w3 = rAdd w 21 22 (w 3 1) := hP3
    rw [hA.2.1] at e3
    have f3 : Fr (fun r j => (r = 21 ∧ j = 1) ∨ r = 22) w w3 := by
      rw [e3]; unfold rAdd
      exact (Fr.rf.up (Or.inr rfl)).up (Or.inl ⟨rfl, rfl⟩)
    have hA3 : PA b n N a w3 := ⟨hA.1.fr f3 (fun r j q => by unfold TOs at q; omega), (f3 3 1 (by omega)).trans hA.2.1, hA.2.2.1, (f3 3 2 (by omega)).trans hA.2.2.2⟩
    have g1 : w3 21 1 = (k : Int) + 1 := by rw [e3, rAdd_1, s1]
    have g2 : ∀ i, w3 22 i = if i = (k : Int) then a else w 22 i := fun i => by rw [e3, rAdd_c (by decide), s1]
    have fs3 : Fr SPb v0 w3 := hf.via f3 (fun _ _ q => q) (fun r j q => by unfold SPb; omega)
    refine ⟨_, k_takeName hW hA3, fun r6 w7 hP1 => ?_⟩
    have b1 := PP_bool hP1
    have f7 := fs3.via hP1.1 (fun _ _ q => q) (fun _ _ q => SPa_b q)
    refine ⟨fun g => ?_, fun g => ?_⟩
    · have y1 := b1.2.mpr g
      obtain ⟨e1, t1, t2⟩ := rName_t y1
      have hA7 := hP1.at hA3.1 (fun r j q => SPa_TO q) y1
      rw [rThen_t y1]
      rw [e1] at hA7 ⊢
      replace hA7 : PA b n N (a + 1) w7 := hA7
      have hS7 : BehC a1 (k + 1) w7 := by
        refine ⟨?_, fun i hi => ?_⟩
        · rw [hP1.1 21 1 (by unfold SPa; omega), g1]; omega
        · rw [hP1.1 22 i (by unfold SPa; omega), g2]
          by_cases h : i = k
          · subst h; rw [if_pos rfl]; exact ha
          · rw [if_neg (by omega)]; exact s2 i (by omega)
      have hP' : ∀ z44 : tK b n (a + 1) = 44 ∨ True, BehP b n a1 (k + 1) := fun _ i hi => by
        by_cases h : i = k
        · subst h; rw [← ha]; exact ⟨t1, t2, fun z => by omega⟩
        · obtain ⟨z1, z2, z3⟩ := hP i (by omega)
          refine ⟨z1, z2, fun _ => ?_⟩
          by_cases h2 : i + 1 = k
          · have e := h44 (by omega)
            rw [show a1 + 2 * (i : Int) + 1 = a - 1 by omega]; exact e
          · exact z3 (by omega)
      refine ⟨_, k_take2 hW hA7 44 (by decide), fun r10 w11 hP5 => ?_⟩
      obtain ⟨hP5, hsame⟩ := hP5
      have b5 := PP_bool hP5
      have f11 := f7.via hP5.1 (fun _ _ q => q) (fun _ _ q => SPa_b q)
      refine ⟨fun g2 => ?_, fun g2 => ?_⟩
      · have y5 := b5.2.mpr g2
        obtain ⟨e5, t5⟩ := rTake_t y5
        have hA11 := hP5.at hA7.1 (fun r j q => SPa_TO q) y5
        rw [e5] at hA11
        replace hA11 : PA b n N (a + 1 + 1) w11 := hA11
        rw [show rB1 b n m (true, a + 1).2 = rBeh b n m (a + 1 + 1) from if_pos t5]
        refine ⟨⟨by omega, by omega⟩, ?_⟩
        have h := k_beh hW m (k + 1) (a + 1 + 1) w11 (by omega) (by omega) hA11 f11 (hP' (Or.inr trivial)) (fun _ => by rw [show a + 1 + 1 - 1 = a + 1 by omega]; exact t5) (hS7.fr hP5.1)
        rw [show ((k + 1 : Nat) : Int) = (k : Int) + 1 by omega] at h
        exact h
      · have hno := nob b5.2 g2
        have ew := hsame hno
        subst ew
        have t5 : ¬ tK b n (a + 1) = 44 := fun z => by
          unfold rTake at hno
          rw [if_pos z] at hno
          exact Bool.noConfusion hno
        rw [show rB1 b n m (true, a + 1).2 = (true, a + 1) from if_neg t5]
        refine ⟨rfl, PP.ok hA7 f7, fun _ => ⟨k + 1, ⟨by omega, by omega⟩, hP' (Or.inr trivial), hS7, ?_, t5⟩⟩
        show a + 1 = _
        omega
    · have hno := nob b1.2 g
      have e0 : r6 = 0 := g
      subst e0
      rw [rThen_f hno]
      exact ⟨rfl, BeR.bad (hP1.mono fs3 (fun _ _ q => SPa_b q) (dzb fs3 (by rw [g1]; omega))) hno⟩
