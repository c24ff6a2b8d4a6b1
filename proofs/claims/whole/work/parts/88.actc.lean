/-! ===== the class: act as far as the new table ===== -/
set_option maxHeartbeats 1000000 in
theorem k_check_src {X : XX} {v : VV} {b : Int → Int} {n N C : Int} {cC : Int → Nat} (hW : SW X) (hTO : TObj X) (hTC : TCol X cC) (hT : TOK b n N v) (hs : (rStmt b n).1 = true) (e46 : v 4 6 = 0) (e47 : v 4 7 = 1) (h23 : v 23 1 = 0) (h21 : v 21 1 = 0) (hC : 1 ≤ C ∧ C ≤ 6) (hS : SrC b n v C) (hI : ITs v 0) : CX mX1_check 5 [(2, 32), (2, 4), (2, 37), (2, 38)] X v (fun _ v1 => CkR X v cC b n C 0 (fun c => 3 + 3 * c) (fun _ => 0) [] (fun _ => []) v1) := by
  obtain ⟨⟨n1, n2⟩, -⟩ := rStmt_t hs
  obtain ⟨s1, s2, s3⟩ := hS
  refine k_check (N := N) hW hTO hTC hT e47 (fun i i0 i1 => name_ok hT (show (0 : Int) ≤ 1 by decide) n1 n2) s1 ⟨by omega, hC.2⟩ (fun i i0 i1 => (s3 i i0 i1).1) (fun i i0 i1 => ?_) h21 (by decide) (fun i i0 i1 => by omega) (fun i i0 i1 => by omega) h23 ⟨hI.1, by decide⟩ (by rw [hI.2.1]; decide) trivial (fun q hq => absurd hq List.not_mem_nil) (fun z => absurd e46 z) (fun z => absurd e46 z)
  obtain ⟨-, -, k1, k2⟩ := s3 i i0 i1
  exact name_ok hT (show 0 ≤ 3 + 3 * i by omega) k1 k2
/-- what is checked -/
def CkO (X : XX) (v : VV) (cC : Int → Nat) (b : Int → Int) (n : Int) (v1 : VV) : Prop := RdC b n v ∧ ((sK b n = 0 ∧ ∃ C : Int, (1 ≤ C ∧ C ≤ 6) ∧ SrC b n v C ∧ rSource b n 2 = (true, 3 + 3 * C) ∧ CkR X v cC b n C 0 (fun c => 3 + 3 * c) (fun _ => 0) [] (fun _ => []) v1) ∨ (¬ sK b n = 0 ∧ ∃ C B : Nat, SelP b n C B ∧ CkR X v cC b n C B (fun c => qN b n 3 c.toNat) (fun i => qN b n 3 C + 2 * i) (Ls b n C (qN b n 3 C + 2 * B - 1)) (LLs b n C (qN b n 3 C + 2 * B - 1) (refC X v cC b n (fun i => qN b n 3 C + 2 * i) B)) v1))
theorem CkO.fr {X : XX} {v v1 : VV} {cC : Int → Nat} {b : Int → Int} {n : Int} (h : CkO X v cC b n v1) : Fr SCk v v1 := by
  rcases h.2 with ⟨-, C, -, -, -, z⟩ | ⟨-, C, B, -, z⟩
  · exact z.2.2.2.2.2.2
  · exact z.2.2.2.2.2.2
theorem CkO.dz {X : XX} {v v1 : VV} {cC : Int → Nat} {b : Int → Int} {n : Int} (h : CkO X v cC b n v1) : DSz v1 := by
  have hd := h.1.dz
  refine hd.of (fun r hr => ?_)
  rcases h.2 with ⟨k0, C, hC, -, -, z⟩ | ⟨k0, C, B, -, z⟩
  · obtain ⟨-, e23, -, -, -, e19, hf⟩ := z
    have e19' := (e19 (h.1.1.1.trans k0) 1).1
    by_cases q : r = 23
    · rw [q]; omega
    · by_cases q2 : r = 19
      · rw [q2]; exact Or.inl e19'
      · exact Or.inl (hf r 1 (by unfold SCk S32 STy; omega))
  · obtain ⟨-, e23, -, -, e19, -, hf⟩ := z
    have e19' := (e19 (fun y => k0 (h.1.1.1.symm.trans y))).1
    by_cases q : r = 23
    · rw [q]; omega
    · by_cases q2 : r = 19
      · rw [q2]; omega
      · exact Or.inl (hf r 1 (by unfold SCk S32 STy; omega))
theorem k_checkO {X : XX} {v : VV} {b : Int → Int} {n N : Int} {cC : Int → Nat} (hW : SW X) (hTO : TObj X) (hTC : TCol X cC) (hτ : ∀ j, 0 ≤ j → j < 128 → okT (v 38 j)) (hT : TOK b n N v) (hs : (rStmt b n).1 = true) (hR : RdC b n v) : CX mX1_check 5 [(2, 32), (2, 4), (2, 37), (2, 38)] X v (fun _ v1 => CkO X v cC b n v1) := by
  obtain ⟨⟨h1, h2, h3⟩, h4, h5⟩ := id hR
  rcases h5 with ⟨k0, k1, C, k2, k3, k4, k5, k6⟩ | ⟨k0, k1, C, B, k2, k3, k4, k9, k5, k6, k7⟩
  · exact (k_check_src hW hTO hTC hT hs (h1.trans k0) h2 h4 k1 k2 k3 k5).mono (fun o v1 q => ⟨hR, Or.inl ⟨k0, C, k2, k3, k4, q⟩⟩)
  · exact (k_check_sel hW hTO hTC hτ hT hs k0 h1 h2 h4 k1 k2 k3 k4 k9 k5 k6 k7).mono (fun o v1 q => ⟨hR, Or.inr ⟨k0, C, B, k2, q⟩⟩)
def SAc (r _j : Int) : Prop := 1 ≤ r ∧ r ≤ 34
theorem SLx_a {r j : Int} (h : SLx r j) : SAc r j := by unfold SLx SLt at h; unfold SAc; omega
theorem SPz_a {r j : Int} (h : SPz r j) : SAc r j := by unfold SPz at h; unfold SAc; omega
theorem SCk_a {r j : Int} (h : SCk r j) : SAc r j := by unfold SCk S32 STy at h; unfold SAc; omega
/-- the class refuses with kind k at p -/
def RfC (X : XX) (v : VV) (cC : Int → Nat) (b : Int → Int) (n k p : Int) : Prop := ((rStmt b n).1 = false ∧ k = 1 ∧ p = (rStmt b n).2) ∨ ((rStmt b n).1 = true ∧ ∃ w w1, Fr SAc v w ∧ CkO X w cC b n w1 ∧ ((¬ w1 32 1 = 0 ∧ k = w1 32 1 ∧ p = w1 32 2) ∨ (w1 32 1 = 0 ∧ 16 ≤ v 0 11 ∧ k = 5 ∧ p = 0)))
set_option maxRecDepth 100000 in
set_option maxHeartbeats 4000000 in
theorem k_act {X : XX} {v : VV} {Q : QQ} {mc ms : Nat} {b : Int → Int} {n : Int} {cC : Int → Nat} (hW : SW X) (hX : TX b n) (h11 : v 1 1 = n) (h2 : ∀ i, 0 ≤ i → i < n → v 2 i = b i) (hz : 0 ≤ v 6 1 ∧ 0 ≤ v 8 1 ∧ 0 ≤ v 10 1 ∧ 0 ≤ v 13 1) (hd : DSz v) (hTO : TObj X) (hTC : TCol X cC) (hτ : ∀ j, 0 ≤ j → j < 128 → okT (v 38 j))
    (hR : ∀ (V : VV) (k p : Int), Fr SAc v V → V 1 1 = 0 → (∃ N, TOK b n N V) → DSz V → V 15 1 = v 15 1 → RfC X v cC b n k p → Q (some (0, -1)) X (upd2 (upd2 V 0 14 k) 0 15 p))
    (hA : ∀ (N : Int) (w w1 : VV), (rStmt b n).1 = true → Fr SAc v w → Fr SAc v w1 → w1 1 1 = 0 → TOK b n N w1 → DSz w1 → w1 15 1 = v 15 1 → CkO X w cC b n w1 → w1 32 1 = 0 → v 0 11 < 16 → ∃ c21 s22 : Nat, c21 ≤ mc ∧ s22 ≤ ms ∧ ∃ P17 : QQ, Con mX10_addTable 7 c21 s22 [(2, 0), (2, 4)] X (upd2 (upd2 w1 0 14 0) 0 15 (-1)) P17 ∧ ∀ (r18 : Int) (Y20 : XX) (w19 : VV), P17 (some (0, r18)) Y20 w19 → SW Y20 ∧ Q (some (0, r18)) Y20 w19) : Ex mX10_act 13 0 [(2, 0), (3, 0)] [] X v mc ms Q := by
  have hn4 := hX.1
  refine bX10_act_0 (by decide) hW ⟨_, k_readAll hW (k_KW hW) hX h11 h2 hz, fun w3 hP => ?_⟩
  obtain ⟨⟨N, hT3⟩, f3⟩ := hP
  refine ⟨_, k_cut hW (rowS1 hW) 0, fun w7 hP => ?_⟩
  have e7 : w7 = rCut w3 1 0 := hP
  have f7 : Fr (fun r j => r = 1 ∧ j = 1) w3 w7 := fun r j hh => by rw [e7]; exact rCut_n hh
  have t7 : w7 1 1 = 0 := by rw [e7]; exact rCut_0 (by rw [f3 1 1 (by unfold SLx SLt; omega), h11]; omega)
  have hT7 : TOK b n N w7 := hT3.fr f7 (fun r j q => by unfold TOs at q; omega)
  have fa7 : Fr SAc v w7 := (f3.mono (fun r j h q => h (SLx_a q))).via f7 (fun _ _ q => q) (fun r j q => by unfold SAc; omega)
  have hd7 : DSz w7 := by
    obtain ⟨d1, d2, d3, d4, d5, d6⟩ := hd
    have g : ∀ r, 17 ≤ r → w7 r 1 = v r 1 := fun r hr => by rw [f7 r 1 (by omega), f3 r 1 (by unfold SLx SLt; omega)]
    exact ⟨by rw [g 17 (by omega)]; exact d1, by rw [g 19 (by omega)]; exact d2, by rw [g 21 (by omega)]; exact d3, by rw [g 23 (by omega)]; exact d4, by rw [g 28 (by omega)]; exact d5, by rw [g 30 (by omega)]; exact d6⟩
  have o7 : w7 15 1 = v 15 1 := by rw [f7 15 1 (by omega), f3 15 1 (by unfold SLx SLt; omega)]
  refine ⟨_, k_readStatement hW hT7 hd7, fun r10 w11 hP => ?_⟩
  obtain ⟨hP1, hRd⟩ := hP
  have b1 := PP_bool hP1
  have fa11 : Fr SAc v w11 := fa7.via hP1.1 (fun _ _ q => q) (fun _ _ q => SPz_a q)
  have t11 : w11 1 1 = 0 := (hP1.1 1 1 (by unfold SPz; omega)).trans t7
  have hT11 : TOK b n N w11 := hT7.fr hP1.1 (fun r j q => SPz_TO q)
  have o11 : w11 15 1 = v 15 1 := (hP1.1 15 1 (by unfold SPz; omega)).trans o7
  have e011 : ∀ V : VV, Fr SAc v V → V 0 11 = v 0 11 := fun V hV => hV 0 11 (by unfold SAc; omega)
  refine ⟨fun g => ?_, fun g => ?_⟩
  · have y1 := b1.2.mpr g
    have hτ11 : ∀ j, 0 ≤ j → j < 128 → okT (w11 38 j) := fun j j0 j1 => by rw [fa11 38 j (by unfold SAc; omega)]; exact hτ j j0 j1
    refine ⟨_, k_checkO (cC := cC) hW hTO hTC hτ11 hT11 y1 (hRd y1), fun w15 hP => ?_⟩
    have hCk : CkO X w11 cC b n w15 := hP
    have fck := hCk.fr
    have fa15 : Fr SAc v w15 := fa11.via fck (fun _ _ q => q) (fun _ _ q => SCk_a q)
    have t15 : w15 1 1 = 0 := (fck 1 1 (by unfold SCk S32 STy; omega)).trans t11
    have hT15 := hT11.fr fck (fun r j q => SCk_TO q)
    have o15 : w15 15 1 = v 15 1 := (fck 15 1 (by unfold SCk S32 STy; omega)).trans o11
    refine ⟨fun g2 => ⟨fun g3 => ?_, fun g3 => ?_⟩, fun g2 => ?_⟩
    · rw [e011 w15 fa15] at g3
      exact hA N w11 w15 y1 fa11 fa15 t15 hT15 hCk.dz o15 hCk g2 g3
    · rw [e011 w15 fa15] at g3
      refine ⟨_, (CX.of (P := fun o v1 => o = some (0, -1) ∧ v1 = upd2 (upd2 w15 0 14 5) 0 15 0) (by decide +kernel) rfl rfl rfl (bX10_refuse_0 5 0 (Nat.le_refl _) hW (fun _ _ => ⟨rfl, rfl, rfl⟩)) : CX mX10_refuse 0 [(2, 0), (0, 5), (0, 0)] X w15 _), fun r25 w26 hP => ?_⟩
      obtain ⟨hr, rfl⟩ := hP
      obtain rfl : r25 = -1 := by simpa using hr
      exact hR w15 5 0 fa15 t15 ⟨N, hT15⟩ hCk.dz o15 (Or.inr ⟨y1, w11, w15, fa11, hCk, Or.inr ⟨g2, g3, rfl, rfl⟩⟩)
    · refine ⟨_, (CX.of (P := fun o v1 => o = some (0, -1) ∧ v1 = upd2 (upd2 w15 0 14 (w15 32 1)) 0 15 (w15 32 2)) (by decide +kernel) rfl rfl rfl (bX10_refuse_0 _ _ (Nat.le_refl _) hW (fun _ _ => ⟨rfl, rfl, rfl⟩)) : CX mX10_refuse 0 [(2, 0), (0, w15 32 1), (0, w15 32 2)] X w15 _), fun r29 w30 hP => ?_⟩
      obtain ⟨hr, rfl⟩ := hP
      obtain rfl : r29 = -1 := by simpa using hr
      exact hR w15 _ _ fa15 t15 ⟨N, hT15⟩ hCk.dz o15 (Or.inr ⟨y1, w11, w15, fa11, hCk, Or.inl ⟨g2, rfl, rfl⟩⟩)
  · have hno := nob b1.2 g
    obtain ⟨-, ⟨z, -⟩ | ⟨-, -, p1, p2, p3, p4⟩⟩ := hP1
    · rw [hno] at z; exact Bool.noConfusion z
    refine ⟨_, k_stopPlace hW hT11 p1 p3, fun r33 w34 hP => ?_⟩
    obtain ⟨rfl, hr⟩ := hP
    obtain rfl : r33 = (rStmt b n).2 := by rw [p2] at hr; simpa using hr
    refine ⟨_, (CX.of (P := fun o v1 => o = some (0, -1) ∧ v1 = upd2 (upd2 w34 0 14 1) 0 15 (rStmt b n).2) (by decide +kernel) rfl rfl rfl (bX10_refuse_0 _ _ (Nat.le_refl _) hW (fun _ _ => ⟨rfl, rfl, rfl⟩)) : CX mX10_refuse 0 [(2, 0), (0, 1), (0, (rStmt b n).2)] X w34 _), fun r37 w38 hP => ?_⟩
    obtain ⟨hr2, rfl⟩ := hP
    obtain rfl : r37 = -1 := by simpa using hr2
    exact hR w34 1 _ fa11 t11 ⟨N, hT11⟩ (p4 hd7) o11 (Or.inl ⟨hno, rfl, rfl⟩)
