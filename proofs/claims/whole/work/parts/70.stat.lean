/-! ===== the class: where, a whole statement ===== -/
noncomputable def emW (b : Int → Int) (n a : Int) : List (Int × Int) := emF b n 3 (a + 1) ++ (emF b n 3 ((rForm b n 3 (a + 1)).2 + 1) ++ [(tK b n (rForm b n 3 (a + 1)).2, tS b n (rForm b n 3 (a + 1)).2)])
def WhC (b : Int → Int) (n s a : Int) (v : VV) : Prop := (¬ tK b n a = 265 → v 26 6 = 0 ∧ v 27 6 = 0 ∧ ITs v s) ∧ (tK b n a = 265 → v 26 6 = s ∧ v 27 6 = s + ((emW b n a).length : Int) ∧ AtL v 29 31 s (emW b n a) ∧ ITs v (s + ((emW b n a).length : Int)))
def SPw (s r j : Int) : Prop := SPf s r j ∨ ((r = 26 ∨ r = 27) ∧ j = 6) ∨ (r = 25 ∧ j = 4)
theorem SPw_TO {s r j : Int} (h : TOs r j) : ¬ SPw s r j := by unfold TOs at h; unfold SPw SPf SPa; omega
theorem SPw_z {s r j : Int} (h : SPw s r j) : SPz r j := by
  rcases h with h | h
  · exact SPf_z h
  · unfold SPz; omega
theorem SPf_w {s r j : Int} (h : SPf s r j) : SPw s r j := Or.inl h
theorem SPa_w {s r j : Int} (h : SPa r j) : SPw s r j := Or.inl (Or.inl h)
theorem SPf_ge {s t r j : Int} (hst : s ≤ t) (h : SPf t r j) : SPf s r j := by
  rcases h with h | h
  · exact Or.inl h
  · unfold SPf; omega
def WhR (b : Int → Int) (n N s a : Int) (v : VV) (o : Option AV) (v1 : VV) : Prop := PP b n N (SPw s) v (rWhere b n a) o v1 ∧ ((rWhere b n a).1 = true → WhC b n s a v1)
theorem WhR.bad {b : Int → Int} {n N s a : Int} {v v1 : VV} {r : Bool × Int} {o : Option AV} (h : PP b n N (SPw s) v r o v1) (e : rWhere b n a = r) (hr : r.1 = false) : WhR b n N s a v o v1 := ⟨by rw [e]; exact h, fun q => by rw [e, hr] at q; exact Bool.noConfusion q⟩
set_option maxRecDepth 100000 in
set_option maxHeartbeats 4000000 in
theorem k_where {X : XX} {v : VV} {b : Int → Int} {n N a s : Int} (hW : SW X) (hA : PA b n N a v) (hI : ITs v s) (hs : s ≤ a) (h4 : v 25 4 = s) (h6 : v 26 6 = 0 ∧ v 27 6 = 0) : CX mX4_readWhere 11 [(2, 3)] X v (fun o v1 => WhR b n N s a v o v1) := by
  have hN := hA.1.2.1
  have h3 := hA.2.2.1
  -- behind the sign
  have l78 : tK b n a = 265 → (rForm b n 3 (a + 1)).1 = true → (tK b n (rForm b n 3 (a + 1)).2 = 60 ∨ tK b n (rForm b n 3 (a + 1)).2 = 61) → ∀ w, PA b n N ((rForm b n 3 (a + 1)).2 + 1) w → ITL w s (emF b n 3 (a + 1)) → Fr (SPf s) v w → Ex mX4_readWhere 11 78 [(2, 3), (0, tK b n (rForm b n 3 (a + 1)).2), (0, tS b n (rForm b n 3 (a + 1)).2)] [] X w 0 0 (fun o X1 v1 => X1 = X ∧ WhR b n N s a v o v1) := fun k0 y1 k1 w hAw hIw hf => by
    have eW : rWhere b n a = rForm b n 3 ((rForm b n 3 (a + 1)).2 + 1) := by
      rw [rWhere_y k0, rThen_t y1]; exact if_pos k1
    have hlt := rForm_lt y1
    have hln := emF_len y1
    refine bX4_readWhere_78 _ _ (Nat.le_refl _) hW (fun _ _ => ⟨9, by omega, _, k_formula0 hW hAw hIw.1 (by omega), fun r27 w28 hP => ?_⟩)
    obtain ⟨⟨hP, hL⟩, -⟩ := hP
    have b1 := PP_bool hP
    have sfs : ∀ r j, SPf (s + ((emF b n 3 (a + 1)).length : Int)) r j → SPf s r j := fun r j q => SPf_ge (by omega) q
    have f28 := hf.via hP.1 (fun _ _ q => q) sfs
    refine ⟨fun g => ?_, fun g => ?_⟩
    · have y2 := b1.2.mpr g
      have hA28 := hP.at hAw.1 (fun r j q => SPf_TO q) y2
      have hI28 := hL y2
      have hlt2 := rForm_lt y2
      have hln2 := emF_len y2
      have hup := hA28.2.2.1
      refine ⟨_, k_padd hW hI28.1 (by omega) _ _, fun w33 hP2 => ?_⟩
      obtain ⟨-, p1, p2, p3, p4⟩ := hP2
      have e33 : w33 28 1 = s + ((emW b n a).length : Int) := by
        rw [p1.1]; unfold emW
        rw [List.length_append, List.length_append, List.length_singleton]; omega
      have e254 : w33 25 4 = s := by rw [p4 25 4 (by omega), f28 25 4 (by unfold SPf SPa; omega)]; exact h4
      refine ⟨_, k_close hW (p := 6) ⟨by decide, by decide⟩, fun w37 hP3 => ?_⟩
      have e37 : w37 = upd2 (upd2 (upd2 w33 26 6 (w33 25 4)) 27 6 (w33 28 1)) 25 4 (w33 28 1) := hP3
      rw [e33, e254] at e37
      have f37 : Fr (fun r j => ((r = 26 ∨ r = 27) ∧ j = 6) ∨ (r = 25 ∧ j = 4)) w33 w37 := by
        rw [e37]
        exact ((Fr.rf.up (Or.inl ⟨Or.inl rfl, rfl⟩)).up (Or.inl ⟨Or.inr rfl, rfl⟩)).up (Or.inr ⟨rfl, rfl⟩)
      have fz : Fr (SPw s) v w37 := ((f28.mono (fun r j h q => h (SPf_w q))).via p4 (fun _ _ q => q) (fun r j q => SPf_w (by unfold SPf; omega))).via f37 (fun _ _ q => q) (fun r j q => Or.inr q)
      have hA37 : PA b n N (rForm b n 3 ((rForm b n 3 (a + 1)).2 + 1)).2 w37 := ⟨(hA28.1.fr p4 (fun r j q => by unfold TOs at q; omega)).fr f37 (fun r j q => by unfold TOs at q; omega), (f37 3 1 (by omega)).trans ((p4 3 1 (by omega)).trans hA28.2.1), hA28.2.2.1, (f37 3 2 (by omega)).trans ((p4 3 2 (by omega)).trans hA28.2.2.2)⟩
      have er : rForm b n 3 ((rForm b n 3 (a + 1)).2 + 1) = (true, (rForm b n 3 ((rForm b n 3 (a + 1)).2 + 1)).2) := Prod.ext y2 rfl
      refine ⟨rfl, ?_, fun _ => ⟨fun z => absurd k0 z, fun _ => ⟨?_, ?_, ?_, ?_, ?_, ?_⟩⟩⟩
      · rw [eW, er]; exact PP.ok hA37 fz
      · rw [e37, upd2_n _ (by omega), upd2_n _ (by omega), upd2_s]
      · rw [e37, upd2_n _ (by omega), upd2_s]
      · have q1 : AtL w33 29 31 s (emW b n a) := by
          refine (AtL.app _ _ _).mpr ⟨hIw.2.fr _ _ (fun j j0 j1 => ?_), (AtL.app _ _ _).mpr ⟨hI28.2.fr _ _ (fun j j0 j1 => ⟨p4 29 j (by omega), p4 31 j (by omega)⟩), p2, p3, trivial⟩⟩
          have h28 := hP.1
          exact ⟨by rw [p4 29 j (by omega), h28 29 j (by unfold SPf SPa; omega)], by rw [p4 31 j (by omega), h28 31 j (by unfold SPf SPa; omega)]⟩
        exact q1.fr _ _ (fun j _ _ => ⟨f37 29 j (by omega), f37 31 j (by omega)⟩)
      · rw [f37 28 1 (by omega)]; exact e33
      · rw [f37 30 1 (by omega), p1.2.1, ← p1.1]; exact e33
      · have := p1.2.2; have := p1.1; omega
    · have hno := nob b1.2 g
      have e0 : r27 = 0 := g
      subst e0
      exact ⟨rfl, WhR.bad (hP.mono (hf.mono (fun r j h q => h (SPf_w q))) (fun r j q => SPf_w (sfs r j q)) (dzf hf hIw.1)) eW hno⟩
  refine CX.of (by decide +kernel) rfl rfl rfl (bX4_readWhere_0 (Nat.le_refl _) hW ⟨_, k_take2 hW hA 265 (by decide), fun r2 w3 hP => ?_⟩)
  obtain ⟨hP, hsame⟩ := hP
  have b1 := PP_bool hP
  refine ⟨fun g => ?_, fun g => ?_⟩
  · have y1 := b1.2.mpr g
    obtain ⟨e1, k0⟩ := rTake_t y1
    have hA3 := hP.at hA.1 (fun r j q => SPa_TO q) y1
    rw [e1] at hA3
    replace hA3 : PA b n N (a + 1) w3 := hA3
    have f3 : Fr (SPf s) v w3 := hP.1.mono (fun r j h q => h (SPa_f q))
    refine ⟨9, by omega, _, k_formula0 hW hA3 (hI.fr hP.1) (by omega), fun r6 w7 hP2 => ?_⟩
    obtain ⟨⟨hP2, hL⟩, -⟩ := hP2
    have b2 := PP_bool hP2
    have f7 := f3.via hP2.1 (fun _ _ q => q) (fun _ _ q => q)
    refine ⟨fun g2 => ?_, fun g2 => ?_⟩
    · have y2 := b2.2.mpr g2
      have hA7 := hP2.at hA3.1 (fun r j q => SPf_TO q) y2
      have hI7 := hL y2
      have eW : rWhere b n a = rW1 b n (rForm b n 3 (a + 1)).2 := by rw [rWhere_y k0, rThen_t y2]
      rw [hA7.2.1]
      refine ⟨_, k_kind hW hA7.1 hA7.2.2.1.1 hA7.2.2.1.2, fun r11 w12 hP3 => ?_⟩
      obtain ⟨rfl, hr⟩ := hP3
      obtain rfl : r11 = tK b n (rForm b n 3 (a + 1)).2 := by simpa using hr
      rw [hA7.2.1]
      refine ⟨_, k_start hW hA7.1 hA7.2.2.1.1 hA7.2.2.1.2, fun r15 w16 hP4 => ?_⟩
      obtain ⟨rfl, hr15⟩ := hP4
      obtain rfl : r15 = tS b n (rForm b n 3 (a + 1)).2 := by simpa using hr15
      refine ⟨_, k_take2 hW hA7 60 (by decide), fun r19 w20 hP5 => ?_⟩
      obtain ⟨hP5, hs5⟩ := hP5
      have b5 := PP_bool hP5
      refine ⟨fun g3 => ?_, fun g3 => ?_⟩
      · have y5 := b5.2.mpr g3
        obtain ⟨e5, t5⟩ := rTake_t y5
        have hA20 := hP5.at hA7.1 (fun r j q => SPa_TO q) y5
        rw [e5] at hA20
        exact l78 k0 y2 (Or.inl t5) w20 hA20 (hI7.fr hP5.1) (f7.via hP5.1 (fun _ _ q => q) (fun _ _ q => SPa_f q))
      · have n5 := nob b5.2 g3
        have ew := hs5 n5
        subst ew
        refine ⟨_, k_take2 hW hA7 61 (by decide), fun r23 w24 hP6 => ?_⟩
        obtain ⟨hP6, hs6⟩ := hP6
        have b6 := PP_bool hP6
        refine ⟨fun g4 => ?_, fun g4 => ?_⟩
        · have y6 := b6.2.mpr g4
          obtain ⟨e6, t6⟩ := rTake_t y6
          have hA24 := hP6.at hA7.1 (fun r j q => SPa_TO q) y6
          rw [e6] at hA24
          exact l78 k0 y2 (Or.inr t6) w24 hA24 (hI7.fr hP6.1) (f7.via hP6.1 (fun _ _ q => q) (fun _ _ q => SPa_f q))
        · have n6 := nob b6.2 g4
          have ew := hs6 n6
          subst ew
          have t5 : ¬ tK b n (rForm b n 3 (a + 1)).2 = 60 := fun z => by
            unfold rTake at n5; rw [if_pos z] at n5; exact Bool.noConfusion n5
          have t6 : ¬ tK b n (rForm b n 3 (a + 1)).2 = 61 := fun z => by
            unfold rTake at n6; rw [if_pos z] at n6; exact Bool.noConfusion n6
          have eW2 : rWhere b n a = (false, tS b n (rForm b n 3 (a + 1)).2) := by rw [eW]; exact if_neg (fun z => z.elim t5 t6)
          exact ⟨rfl, WhR.bad (PP.no hA7 (f7.mono (fun r j h q => h (SPf_w q))) (dzf f7 hI7.1)) eW2 rfl⟩
    · have hno := nob b2.2 g2
      have e0 : r6 = 0 := g2
      subst e0
      have eW : rWhere b n a = rForm b n 3 (a + 1) := by rw [rWhere_y k0, rThen_f hno]
      exact ⟨rfl, WhR.bad (hP2.mono (f3.mono (fun r j h q => h (SPf_w q))) (fun r j q => SPf_w q) (dzf f3 (hI.fr hP.1))) eW hno⟩
  · have hno := nob b1.2 g
    have ew := hsame hno
    subst ew
    have k0 : ¬ tK b n a = 265 := fun z => by unfold rTake at hno; rw [if_pos z] at hno; exact Bool.noConfusion hno
    have eW : rWhere b n a = (true, a) := if_neg k0
    refine ⟨rfl, ?_, fun _ => ⟨fun _ => ⟨h6.1, h6.2, hI⟩, fun z => absurd z k0⟩⟩
    rw [eW]; exact PP.ok hA Fr.rf
def DCl (v : VV) : Prop := (v 17 1 = 0 ∧ v 19 1 = 0 ∧ v 21 1 = 0 ∧ v 23 1 = 0) ∧ ITs v 0 ∧ v 25 4 = 0 ∧ ∀ p, 0 ≤ p → p ≤ 6 → v 26 p = 0 ∧ v 27 p = 0
theorem rCut_0 {v : VV} {o : Int} (h : 0 ≤ v o 1) : rCut v o 0 o 1 = 0 := rCut_1 (Int.le_refl _) h
set_option maxRecDepth 100000 in
set_option maxHeartbeats 4000000 in
theorem k_pclear {X : XX} {v : VV} (hW : SW X) (h28 : 0 ≤ v 28 1) (h30 : 0 ≤ v 30 1) : CX mX5_clear 1 [(2, 25)] X v (fun _ v1 => (ITs v1 0 ∧ v1 25 4 = 0 ∧ ∀ p, 0 ≤ p → p ≤ 6 → v1 26 p = 0 ∧ v1 27 p = 0) ∧ Fr (fun r _ => 25 ≤ r ∧ r ≤ 31) v v1) := by
  have key : ∀ (p : Int) (V : VV), (0 ≤ p ∧ p ≤ 7) → Fr (fun r _ => 25 ≤ r ∧ r ≤ 31) v V → ITs V 0 ∧ V 25 4 = 0 → (∀ q, 0 ≤ q → q < p → V 26 q = 0 ∧ V 27 q = 0) → Ex mX5_clear 1 23 [(2, 25), (0, p)] [] X V 0 0 (fun o X1 v1 => X1 = X ∧ (ITs v1 0 ∧ v1 25 4 = 0 ∧ ∀ p, 0 ≤ p → p ≤ 6 → v1 26 p = 0 ∧ v1 27 p = 0) ∧ Fr (fun r _ => 25 ≤ r ∧ r ≤ 31) v v1) := by
    refine loop2 (fun (p : Int) (_ : VV) => (7 - p).toNat) (fun (p : Int) (V : VV) => (0 ≤ p ∧ p ≤ 7) → Fr (fun r _ => 25 ≤ r ∧ r ≤ 31) v V → ITs V 0 ∧ V 25 4 = 0 → (∀ q, 0 ≤ q → q < p → V 26 q = 0 ∧ V 27 q = 0) → Ex mX5_clear 1 23 [(2, 25), (0, p)] [] X V 0 0 (fun o X1 v1 => X1 = X ∧ (ITs v1 0 ∧ v1 25 4 = 0 ∧ ∀ p, 0 ≤ p → p ≤ 6 → v1 26 p = 0 ∧ v1 27 p = 0) ∧ Fr (fun r _ => 25 ≤ r ∧ r ≤ 31) v v1)) (fun p V ih => ?_)
    intro hp hf hI hz
    refine bX5_clear_23 25 p (Nat.le_refl _) hW (fun _ => ⟨fun g => ⟨rfl, ⟨hI.1, hI.2, fun q q0 q1 => hz q q0 (by omega)⟩, hf⟩, fun g => ⟨sW25 hW, gW25 hW, ?_⟩⟩)
    rw [rW25_2 hW, rW25_3 hW]
    refine ⟨7, sW26 hW, gW26 hW, ⟨by omega, by omega⟩, 7, sW27 hW, gW27 hW, ⟨by omega, by omega⟩, ⟨by omega, by omega⟩, ih (p + 1) _ (by omega) ⟨by omega, by omega⟩ ((hf.up (by omega)).up (by omega)) ⟨⟨?_, ?_, hI.1.2.2⟩, ?_⟩ (fun q q0 q1 => ?_)⟩
    · rw [upd2_n _ (by omega), upd2_n _ (by omega)]; exact hI.1.1
    · rw [upd2_n _ (by omega), upd2_n _ (by omega)]; exact hI.1.2.1
    · rw [upd2_n _ (by omega), upd2_n _ (by omega)]; exact hI.2
    · by_cases h : q = p
      · subst h
        exact ⟨by rw [upd2_n _ (by omega), upd2_s], upd2_s _ _ _ _⟩
      · rw [upd2_n _ (by omega), upd2_n _ (by omega), upd2_n _ (by omega), upd2_n _ (by omega)]
        exact hz q q0 (by omega)
  refine CX.of (by decide +kernel) rfl rfl rfl (bX5_clear_0 25 (Nat.le_refl _) hW ⟨sW25 hW, gW25 hW, ?_⟩)
  rw [rW25_0 hW, rW25_1 hW]
  refine ⟨sW28 hW, gW28 hW, _, k_cut hW (rowS28 hW) 0, fun w5 hP => ⟨sW30 hW, gW30 hW, _, k_cut hW (rowS30 hW) 0, fun w10 hP2 => ?_⟩⟩
  have e5 : w5 = rCut v 28 0 := hP
  have e10 : w10 = rCut w5 30 0 := hP2
  have f5 : Fr (fun r _ => 25 ≤ r ∧ r ≤ 31) v w5 := fun r j hn => by rw [e5]; exact rCut_n (fun q => hn (by omega))
  have f10 : Fr (fun r _ => 25 ≤ r ∧ r ≤ 31) w5 w10 := fun r j hn => by rw [e10]; exact rCut_n (fun q => hn (by omega))
  have a1 : w10 28 1 = 0 := by rw [e10, rCut_n (by omega), e5]; exact rCut_0 h28
  have a2 : w10 30 1 = 0 := by
    have : w5 30 1 = v 30 1 := by rw [e5]; exact rCut_n (by omega)
    rw [e10]; exact rCut_0 (by omega)
  refine key 0 _ ⟨by omega, by omega⟩ ((f5.via f10 (fun _ _ q => q) (fun _ _ q => q)).up (by omega)) ⟨⟨?_, ?_, Int.le_refl _⟩, upd2_s _ _ _ _⟩ (fun q q0 q1 => by omega)
  · rw [upd2_n _ (by omega)]; exact a1
  · rw [upd2_n _ (by omega)]; exact a2
set_option maxRecDepth 100000 in
set_option maxHeartbeats 4000000 in
theorem k_dclear {X : XX} {v : VV} (hW : SW X) (h : DSz v) : CX mX3_clear 2 [(2, 4)] X v (fun _ v1 => DCl v1 ∧ Fr (fun r j => (r = 4 ∧ (j = 6 ∨ j = 7 ∨ j = 8)) ∨ (17 ≤ r ∧ r ≤ 31)) v v1) := by
  obtain ⟨d1, d2, d3, d4, d5, d6⟩ := h
  refine CX.of (by decide +kernel) rfl rfl rfl (bX3_clear_0 (Nat.le_refl _) hW ⟨_, k_cut hW (rowS17 hW) 0, fun w3 hP => ⟨_, k_cut hW (rowS19 hW) 0, fun w7 hP2 => ⟨_, k_cut hW (rowS21 hW) 0, fun w11 hP3 => ⟨_, k_cut hW (rowS23 hW) 0, fun w15 hP4 => ?_⟩⟩⟩⟩)
  have e3 : w3 = rCut v 17 0 := hP
  have e7 : w7 = rCut w3 19 0 := hP2
  have e11 : w11 = rCut w7 21 0 := hP3
  have e15 : w15 = rCut w11 23 0 := hP4
  have f3 : Fr (fun r j => r = 17 ∧ j = 1) v w3 := fun r j hn => by rw [e3]; exact rCut_n hn
  have f7 : Fr (fun r j => r = 19 ∧ j = 1) w3 w7 := fun r j hn => by rw [e7]; exact rCut_n hn
  have f11 : Fr (fun r j => r = 21 ∧ j = 1) w7 w11 := fun r j hn => by rw [e11]; exact rCut_n hn
  have f15 : Fr (fun r j => r = 23 ∧ j = 1) w11 w15 := fun r j hn => by rw [e15]; exact rCut_n hn
  have a1 : w15 17 1 = 0 := by rw [f15 17 1 (by omega), f11 17 1 (by omega), f7 17 1 (by omega), e3]; exact rCut_0 d1
  have a2 : w15 19 1 = 0 := by
    rw [f15 19 1 (by omega), f11 19 1 (by omega), e7]; exact rCut_0 (by rw [f3 19 1 (by omega)]; exact d2)
  have a3 : w15 21 1 = 0 := by
    rw [f15 21 1 (by omega), e11]; exact rCut_0 (by rw [f7 21 1 (by omega), f3 21 1 (by omega)]; exact d3)
  have a4 : w15 23 1 = 0 := by
    rw [e15]; exact rCut_0 (by rw [f11 23 1 (by omega), f7 23 1 (by omega), f3 23 1 (by omega)]; exact d4)
  have g : ∀ r j, ¬ ((17 ≤ r ∧ r ≤ 23) ∧ j = 1) → w15 r j = v r j := fun r j hn => by
    rw [f15 r j (by omega), f11 r j (by omega), f7 r j (by omega), f3 r j (by omega)]
  refine ⟨_, k_pclear hW (by rw [g 28 1 (by omega)]; exact d5) (by rw [g 30 1 (by omega)]; exact d6), fun w19 hP5 => ?_⟩
  obtain ⟨⟨p1, p2, p3⟩, p4⟩ := hP5
  refine ⟨rfl, ⟨⟨?_, ?_, ?_, ?_⟩, ⟨?_, ?_, Int.le_refl _⟩, ?_, fun p q0 q1 => ?_⟩, ?_⟩
  · rw [upd2_n _ (by omega), upd2_n _ (by omega), upd2_n _ (by omega), p4 17 1 (by omega)]; exact a1
  · rw [upd2_n _ (by omega), upd2_n _ (by omega), upd2_n _ (by omega), p4 19 1 (by omega)]; exact a2
  · rw [upd2_n _ (by omega), upd2_n _ (by omega), upd2_n _ (by omega), p4 21 1 (by omega)]; exact a3
  · rw [upd2_n _ (by omega), upd2_n _ (by omega), upd2_n _ (by omega), p4 23 1 (by omega)]; exact a4
  · rw [upd2_n _ (by omega), upd2_n _ (by omega), upd2_n _ (by omega)]; exact p1.1
  · rw [upd2_n _ (by omega), upd2_n _ (by omega), upd2_n _ (by omega)]; exact p1.2.1
  · rw [upd2_n _ (by omega), upd2_n _ (by omega), upd2_n _ (by omega)]; exact p2
  · rw [upd2_n _ (by omega), upd2_n _ (by omega), upd2_n _ (by omega), upd2_n _ (by omega), upd2_n _ (by omega), upd2_n _ (by omega)]; exact p3 p q0 q1
  · intro r j hn
    rw [upd2_n _ (by omega), upd2_n _ (by omega), upd2_n _ (by omega), p4 r j (by omega), g r j (by omega)]
/-- what a statement read leaves in the draft -/
def RdC (b : Int → Int) (n : Int) (v : VV) : Prop := (v 4 6 = sK b n ∧ v 4 7 = 1 ∧ v 4 8 = 2) ∧ v 23 1 = 0 ∧ ((sK b n = 0 ∧ v 21 1 = 0 ∧ ∃ C : Int, (1 ≤ C ∧ C ≤ 6) ∧ SrC b n v C ∧ rSource b n 2 = (true, 3 + 3 * C) ∧ ITs v 0 ∧ ∀ p, 0 ≤ p → p ≤ 6 → v 26 p = 0 ∧ v 27 p = 0) ∨ (¬ sK b n = 0 ∧ v 19 1 = 0 ∧ ∃ C B : Nat, SelP b n C B ∧ v 17 1 = C ∧ (∀ k : Nat, k < C → v 18 k = qN b n 3 k ∧ v 26 k = off b n k ∧ v 27 k = off b n (k + 1)) ∧ (∀ f : Int, (C : Int) ≤ f → f < 6 → v 26 f = 0 ∧ v 27 f = 0) ∧ AtL v 29 31 0 (emA b n C) ∧ BehC (qN b n 3 C) B v ∧ WhC b n (off b n C) (qN b n 3 C + 2 * B - 1) v))
theorem SelP_u {b : Int → Int} {n : Int} {C B C' B' : Nat} (h : SelP b n C B) (h' : SelP b n C' B') : C = C' ∧ B = B' := by
  obtain ⟨⟨⟨c1, c2⟩, b1, b2⟩, hR, hF, hB, hE, -⟩ := h
  obtain ⟨⟨⟨c3, c4⟩, b3, b4⟩, hR', hF', hB', hE', -⟩ := h'
  have eC : C = C' := by
    rcases Nat.lt_trichotomy C C' with q | q | q
    · have z := (hR' (C - 1) (by omega)).2.2.2.2 (by omega)
      rw [show C - 1 + 1 = C by omega, hF] at z
      exact absurd z (by decide)
    · exact q
    · have z := (hR (C' - 1) (by omega)).2.2.2.2 (by omega)
      rw [show C' - 1 + 1 = C' by omega, hF'] at z
      exact absurd z (by decide)
  subst eC
  refine ⟨rfl, ?_⟩
  rcases Nat.lt_trichotomy B B' with q | q | q
  · have z := (hB' (B - 1) (by omega)).2.2 (by omega)
    rw [show qN b n 3 C + 2 * ((B - 1 : Nat) : Int) + 1 = qN b n 3 C + 2 * (B : Int) - 1 by omega] at z
    exact absurd z hE
  · exact q
  · have z := (hB (B' - 1) (by omega)).2.2 (by omega)
    rw [show qN b n 3 C + 2 * ((B' - 1 : Nat) : Int) + 1 = qN b n 3 C + 2 * (B' : Int) - 1 by omega] at z
    exact absurd z hE'
