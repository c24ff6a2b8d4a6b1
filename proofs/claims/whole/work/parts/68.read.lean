/-! ===== the class: head, source, select ===== -/
def SPz (r _j : Int) : Prop := r = 3 ∨ r = 4 ∨ (17 ≤ r ∧ r ≤ 31)
theorem SPz_TO {r j : Int} (h : TOs r j) : ¬ SPz r j := by unfold TOs at h; unfold SPz; omega
theorem SPa_z {r j : Int} (h : SPa r j) : SPz r j := by unfold SPa at h; unfold SPz; omega
theorem SPs_z {r j : Int} (h : SPs r j) : SPz r j := by
  rcases h with h | h
  · exact SPa_z h
  · unfold SPz; omega
theorem SPf_z {s r j : Int} (h : SPf s r j) : SPz r j := by
  rcases h with h | h
  · exact SPa_z h
  · unfold SPz; omega
noncomputable def rHd (b : Int → Int) (n : Int) : Bool × Int := if tK b n 0 = 261 ∨ tK b n 0 = 262 ∨ tK b n 0 = 263 then rName b n 1 else (false, tS b n 0)
def SPh (r j : Int) : Prop := SPa r j ∨ (r = 4 ∧ (j = 6 ∨ j = 7 ∨ j = 8))
theorem SPh_TO {r j : Int} (h : TOs r j) : ¬ SPh r j := by unfold TOs at h; unfold SPh SPa; omega
set_option maxRecDepth 100000 in
set_option maxHeartbeats 4000000 in
theorem k_readHead {X : XX} {v : VV} {b : Int → Int} {n N : Int} (hW : SW X) (h : PA b n N 0 v) : CX mX4_readHead 2 [(2, 3)] X v (fun o v1 => PP b n N SPh v (rHd b n) o v1 ∧ ((rHd b n).1 = true → v1 4 6 = sK b n ∧ v1 4 7 = 1 ∧ v1 4 8 = 2)) := by
  obtain ⟨h1, h2, h3, h4⟩ := id h
  have hN := h1.2.1
  have l41 : ∀ x, x = tK b n 0 → (tK b n 0 = 261 ∨ tK b n 0 = 262 ∨ tK b n 0 = 263) → Ex mX4_readHead 2 41 [(2, 3), (0, x)] [] X v 0 0 (fun o X1 v1 => X1 = X ∧ PP b n N SPh v (rHd b n) o v1 ∧ ((rHd b n).1 = true → v1 4 6 = sK b n ∧ v1 4 7 = 1 ∧ v1 4 8 = 2)) := fun x hx hk => by
    subst hx
    have e : rHd b n = rName b n 1 := if_pos hk
    have hal := h.lt (by omega)
    have one : ∀ k : Int, k = sK b n → ∀ w, w = upd2 (upd2 (upd2 (upd2 v 4 6 k) 3 1 (0 + 1)) 4 7 (0 + 1)) 4 8 (0 + 1 + 1) → CX mX4_takeName 1 [(2, 3)] X w (fun o v1 => PP b n N SPh v (rHd b n) o v1 ∧ ((rHd b n).1 = true → v1 4 6 = sK b n ∧ v1 4 7 = 1 ∧ v1 4 8 = 2)) := fun k hk2 w hw => by
      have f0 : Fr SPh v w := by
        rw [hw]
        exact (((Fr.rf.up (Or.inr ⟨rfl, Or.inl rfl⟩)).up (Or.inl ⟨rfl, Or.inl rfl⟩)).up (Or.inr ⟨rfl, Or.inr (Or.inl rfl)⟩)).up (Or.inr ⟨rfl, Or.inr (Or.inr rfl)⟩)
      have e31 : w 3 1 = 1 := by rw [hw, upd2_n _ (by omega), upd2_n _ (by omega), upd2_s]; rfl
      have e32 : w 3 2 = 0 := by rw [hw, upd2_n _ (by omega), upd2_n _ (by omega), upd2_n _ (by omega), upd2_n _ (by omega)]; exact h4
      have e46 : w 4 6 = k := by rw [hw, upd2_n _ (by omega), upd2_n _ (by omega), upd2_n _ (by omega), upd2_s]
      have e47 : w 4 7 = 1 := by rw [hw, upd2_n _ (by omega), upd2_s]; rfl
      have e48 : w 4 8 = 2 := by rw [hw, upd2_s]; rfl
      have hA : PA b n N 1 w := ⟨h1.fr f0 (fun r j q => SPh_TO q), e31, ⟨by omega, by omega⟩, e32⟩
      refine (k_takeName hW hA).mono (fun o v1 hP => ?_)
      rw [e]
      refine ⟨hP.mono f0 (fun _ _ q => Or.inl q) (dzi f0 (fun r r0 r1 => by unfold SPh SPa; omega)), fun _ => ⟨?_, ?_, ?_⟩⟩
      · rw [hP.1 4 6 (by unfold SPa; omega), e46, hk2]
      · rw [hP.1 4 7 (by unfold SPa; omega), e47]
      · rw [hP.1 4 8 (by unfold SPa; omega), e48]
    refine bX4_readHead_41 _ (Nat.le_refl _) hW (fun _ => ?_)
    rw [h2]
    refine ⟨fun g => ⟨fun g2 => ⟨fun _ => ⟨by omega, by omega⟩, fun _ => ⟨by omega, by omega⟩, _, one 2 (by unfold sK; omega) _ rfl, fun r6 w7 hP => ⟨(PP_bool hP.1).1, rfl, hP⟩⟩, fun g2 => ⟨fun _ => ⟨by omega, by omega⟩, fun _ => ⟨by omega, by omega⟩, _, one 1 (by unfold sK; omega) _ rfl, fun r6 w7 hP => ⟨(PP_bool hP.1).1, rfl, hP⟩⟩⟩, fun g => ⟨fun _ => ⟨by omega, by omega⟩, fun _ => ⟨by omega, by omega⟩, _, one 0 (by unfold sK; omega) _ rfl, fun r6 w7 hP => ⟨(PP_bool hP.1).1, rfl, hP⟩⟩⟩
  refine CX.of (by decide +kernel) rfl rfl rfl (bX4_readHead_0 (Nat.le_refl _) hW ?_)
  rw [h2]
  refine ⟨_, k_kind hW h1 h3.1 h3.2, fun r2 w3 hP => ?_⟩
  obtain ⟨rfl, hr⟩ := hP
  obtain rfl : r2 = tK b n 0 := by simpa using hr
  refine ⟨fun g => l41 _ rfl (Or.inl g), fun g => ⟨fun g2 => l41 _ rfl (Or.inr (Or.inl g2)), fun g2 => ⟨fun g3 => l41 _ rfl (Or.inr (Or.inr g3)), fun g3 => ?_⟩⟩⟩
  have e : rHd b n = (false, tS b n 0) := if_neg (by omega)
  rw [e]
  exact ⟨rfl, PP.no h Fr.rf id, fun q => Bool.noConfusion q⟩
/-- behind the columns of a source -/
def SrR (b : Int → Int) (n N : Int) (v : VV) (r : Bool × Int) (o : Option AV) (v1 : VV) : Prop := PP b n N SPs v r o v1 ∧ (r.1 = true → ∃ C : Int, (1 ≤ C ∧ C ≤ 6) ∧ SrC b n v1 C ∧ r.2 = 3 + 3 * C)
theorem SrR.bad {b : Int → Int} {n N : Int} {v v1 : VV} {r : Bool × Int} {o : Option AV} (h : PP b n N SPs v r o v1) (hr : r.1 = false) : SrR b n N v r o v1 := ⟨h, fun q => by rw [hr] at q; exact Bool.noConfusion q⟩
theorem rType_t {b : Int → Int} {n a : Int} (h : (rType b n a).1 = true) : rType b n a = (true, a + 1) := by
  unfold rType at h ⊢
  by_cases q : tK b n a = 256 ∧ (tW b n a = 14 ∨ tW b n a = 20 ∨ tW b n a = 4)
  · rw [if_pos q]
  · rw [if_neg q] at h; exact Bool.noConfusion h
set_option maxRecDepth 100000 in
set_option maxHeartbeats 4000000 in
theorem k_cols {X : XX} {b : Int → Int} {n N : Int} {v0 : VV} (hW : SW X) : ∀ (m : Nat) (c a : Int) (w : VV), m + c = 6 → 0 ≤ c → a = 3 + 3 * c → PA b n N a w → Fr SPs v0 w → SrC b n w c → Ex mX4_readSource 2 13 [(2, 3), (0, c)] [] X w 0 0 (fun o X1 v1 => X1 = X ∧ SrR b n N v0 (rCols b n m a) o v1)
  | 0, c, a, w, hm, h0, ha, hA, hf, hS => by
    refine bX4_readSource_13 c (Nat.le_refl _) hW (fun _ => ⟨fun g => ⟨rfl, SrR.bad (PP.no hA hf (dzs hf (by have := hS.1; omega) (by have := hS.2.1; omega))) rfl⟩, fun g => by omega⟩)
  | m + 1, c, a, w, hm, h0, ha, hA, hf, hS => by
    obtain ⟨s1, s2, s3⟩ := id hS
    have eR : rCols b n (m + 1) a = rThen (rName b n a) (fun a => rThen (rType b n a) (fun a => if tK b n a = 44 then rCols b n m (a + 1) else rTake b n 41 a)) := rfl
    refine bX4_readSource_13 c (Nat.le_refl _) hW (fun _ => ⟨fun g => by omega, fun _ => ⟨_, k_add hW (rowS17 hW) (by decide) ⟨by omega, by omega⟩ _, fun w7 hP => ?_⟩⟩)
    have e7 : w7 = rAdd w 17 18 (w 3 1) := hP
    rw [hA.2.1] at e7
    have f7 : Fr (fun r j => (r = 17 ∧ j = 1) ∨ r = 18) w w7 := by
      rw [e7]; unfold rAdd
      exact (Fr.rf.up (Or.inr rfl)).up (Or.inl ⟨rfl, rfl⟩)
    have hA7 : PA b n N a w7 := ⟨hA.1.fr f7 (fun r j q => by unfold TOs at q; omega), (f7 3 1 (by omega)).trans hA.2.1, hA.2.2.1, (f7 3 2 (by omega)).trans hA.2.2.2⟩
    have g1 : w7 17 1 = c + 1 := by rw [e7, rAdd_1, s1]
    have g2 : ∀ i, w7 18 i = if i = c then a else w 18 i := fun i => by rw [e7, rAdd_c (by decide), s1]
    have fs7 : Fr SPs v0 w7 := hf.via f7 (fun _ _ q => q) (fun r j q => by unfold SPs; omega)
    refine ⟨_, k_takeName hW hA7, fun r10 w11 hP1 => ?_⟩
    have b1 := PP_bool hP1
    have f11 := fs7.via hP1.1 (fun _ _ q => q) (fun _ _ q => SPa_s q)
    refine ⟨fun g => ?_, fun g => ?_⟩
    · have hno := nob b1.2 g
      have e0 : r10 = 0 := g
      subst e0
      rw [eR, rThen_f hno]
      exact ⟨rfl, SrR.bad (hP1.mono fs7 (fun _ _ q => SPa_s q) (dzs fs7 (by rw [g1]; omega) (by rw [f7 19 1 (by omega), s2]; exact h0))) hno⟩
    have y1 := b1.2.mpr g
    obtain ⟨e1, t1, t2⟩ := rName_t y1
    have hA11 := hP1.at hA7.1 (fun r j q => SPa_TO q) y1
    rw [eR, rThen_t y1]
    rw [e1] at hA11 ⊢
    replace hA11 : PA b n N (a + 1) w11 := hA11
    have k1 : w11 17 1 = c + 1 := (hP1.1 17 1 (by unfold SPa; omega)).trans g1
    have k2 : ∀ i, w11 18 i = if i = c then a else w 18 i := fun i => (hP1.1 18 i (by unfold SPa; omega)).trans (g2 i)
    have k3 : w11 19 1 = c := (hP1.1 19 1 (by unfold SPa; omega)).trans ((f7 19 1 (by omega)).trans s2)
    have k4 : ∀ i, w11 20 i = w 20 i := fun i => (hP1.1 20 i (by unfold SPa; omega)).trans (f7 20 i (by omega))
    refine ⟨_, k_takeType hW hA11 k3 ⟨h0, by omega⟩, fun r14 w15 hP2 => ?_⟩
    obtain ⟨hP2, hty⟩ := hP2
    have b2 := PP_bool hP2
    have s20 : ∀ r j, (SPa r j ∨ (r = 19 ∧ j = 1) ∨ (r = 20 ∧ j = c)) → SPs r j := fun r j q => by
      rcases q with q | q
      · exact SPa_s q
      · unfold SPs; omega
    have f15 := f11.via hP2.1 (fun _ _ q => q) s20
    refine ⟨fun g => ?_, fun g => ?_⟩
    · have y2 := b2.2.mpr g
      have e2 := rType_t y2
      obtain ⟨z1, z2⟩ := hty y2
      have hA15 := hP2.at hA11.1 (fun r j q => by unfold TOs at q; unfold SPa; omega) y2
      show _
      rw [show rThen (rType b n (true, a + 1).2) (fun a => if tK b n a = 44 then rCols b n m (a + 1) else rTake b n 41 a) = (fun a => if tK b n a = 44 then rCols b n m (a + 1) else rTake b n 41 a) (rType b n (a + 1)).2 from rThen_t y2]
      rw [e2] at hA15 ⊢
      replace hA15 : PA b n N (a + 1 + 1) w15 := hA15
      have hS15 : SrC b n w15 (c + 1) := by
        refine ⟨(hP2.1 17 1 (by unfold SPa; omega)).trans k1, z1, fun i i0 i1 => ?_⟩
        rw [hP2.1 18 i (by unfold SPa; omega), k2 i]
        by_cases hi : i = c
        · subst hi
          rw [if_pos rfl, z2, ← ha]
          exact ⟨rfl, rfl, t1, t2⟩
        · rw [if_neg hi, hP2.1 20 i (by unfold SPa; omega), k4 i]
          exact s3 i i0 (by omega)
      refine ⟨_, k_take2 hW hA15 44 (by decide), fun r18 w19 hP3 => ?_⟩
      obtain ⟨hP3, hsame⟩ := hP3
      have b3 := PP_bool hP3
      have f19 := f15.via hP3.1 (fun _ _ q => q) (fun _ _ q => SPa_s q)
      refine ⟨fun g2 => ?_, fun g2 => ?_⟩
      · have y3 := b3.2.mpr g2
        obtain ⟨e3, t3⟩ := rTake_t y3
        have hA19 := hP3.at hA15.1 (fun r j q => SPa_TO q) y3
        rw [e3] at hA19
        replace hA19 : PA b n N (a + 1 + 1 + 1) w19 := hA19
        show _ ∧ _
        rw [show (fun a => if tK b n a = 44 then rCols b n m (a + 1) else rTake b n 41 a) (true, a + 1 + 1).2 = rCols b n m (a + 1 + 1 + 1) from if_pos t3]
        exact ⟨⟨by omega, by omega⟩, k_cols hW m (c + 1) (a + 1 + 1 + 1) w19 (by omega) (by omega) (by omega) hA19 f19 (hS15.fr hP3.1)⟩
      · have hno := nob b3.2 g2
        have ew := hsame hno
        subst ew
        have t3 : ¬ tK b n (a + 1 + 1) = 44 := fun z => by
          unfold rTake at hno
          rw [if_pos z] at hno
          exact Bool.noConfusion hno
        rw [show (fun a => if tK b n a = 44 then rCols b n m (a + 1) else rTake b n 41 a) (true, a + 1 + 1).2 = rTake b n 41 (a + 1 + 1) from if_neg t3]
        refine ⟨_, k_take hW hA15 41 (by decide), fun r22 w23 hP4 => ⟨(PP_bool hP4).1, rfl, hP4.mono f15 (fun _ _ q => SPa_s q) (dzs f15 (by have := hS15.1; omega) (by have := hS15.2.1; omega)), fun y4 => ⟨c + 1, ⟨by omega, by omega⟩, hS15.fr hP4.1, ?_⟩⟩⟩
        rw [(rTake_t y4).1]
        show a + 1 + 1 + 1 = _
        omega
    · have hno := nob b2.2 g
      have e0 : r14 = 0 := g
      subst e0
      rw [show rThen (rType b n (true, a + 1).2) (fun a => if tK b n a = 44 then rCols b n m (a + 1) else rTake b n 41 a) = rType b n (a + 1) from rThen_f hno]
      exact ⟨rfl, SrR.bad (hP2.mono f11 s20 (dzs f11 (by rw [k1]; omega) (by rw [k3]; exact h0))) hno⟩
set_option maxRecDepth 100000 in
set_option maxHeartbeats 4000000 in
theorem k_readSource {X : XX} {v : VV} {b : Int → Int} {n N : Int} (hW : SW X) (hA : PA b n N 2 v) (h17 : v 17 1 = 0) (h19 : v 19 1 = 0) : CX mX4_readSource 2 [(2, 3)] X v (fun o v1 => SrR b n N v (rSource b n 2) o v1) := by
  refine CX.of (by decide +kernel) rfl rfl rfl (bX4_readSource_0 (Nat.le_refl _) hW ⟨_, k_take hW hA 40 (by decide), fun r2 w3 hP => ?_⟩)
  have b1 := PP_bool hP
  refine ⟨fun g => ?_, fun g => ?_⟩
  · have y1 := b1.2.mpr g
    have e1 := (rTake_t y1).1
    have hA1 := hP.at hA.1 (fun r j q => SPa_TO q) y1
    have eR : rSource b n 2 = rCols b n 6 (rTake b n 40 2).2 := by unfold rSource; rw [rThen_t y1]
    rw [eR]
    rw [e1] at hA1 ⊢
    exact k_cols hW 6 0 (2 + 1) w3 (by omega) (by omega) (by omega) hA1 (hP.1.mono (fun r j h q => h (SPa_s q))) ⟨(hP.1 17 1 (by unfold SPa; omega)).trans h17, (hP.1 19 1 (by unfold SPa; omega)).trans h19, fun i i0 i1 => by omega⟩
  · have hno := nob b1.2 g
    have e0 : r2 = 0 := g
    subst e0
    have eR : rSource b n 2 = rTake b n 40 2 := by unfold rSource; rw [rThen_f hno]
    rw [eR]
    exact ⟨rfl, SrR.bad (hP.mono Fr.rf (fun _ _ q => SPa_s q) id) hno⟩
