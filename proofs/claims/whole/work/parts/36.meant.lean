/-! ===== meant() whole ===== -/
theorem tN_bd (v : VV) (w : Int) (h : 0 ≤ v 47 0) : tN v w = -1 ∨ (0 ≤ tN v w ∧ tN v w < v 47 0) := by
  have hs := fst1_spec (thereNamed v w) (v 47 0).toNat
  rw [Int.toNat_of_nonneg h] at hs
  unfold tN
  rcases hs with ⟨h1, -⟩ | ⟨h1, h2, -, -⟩
  · exact Or.inl h1
  · exact Or.inr ⟨h1, h2⟩
def NTn (v : VV) (T k p : Int) : Prop := k = 4 ∧ ¬ tN v (v 49 T) = -1 ∧ p = v 62 (400 * T + 1)
/-- what meant touches -/
def MeS (T r j : Int) : Prop := (r = 47 ∧ j = 52) ∨ MBs T r j ∨ MTs T r j
/-- the notes of a statement that is well read -/
def NAct (b : Int → Int) (n : Int) (v vM : VV) (T C B : Int) (ct fa : Int → Int) (a6 a7 k p : Int) : Prop := ((((NTn v T k p ∨ NCo v T ct (tS b n) C 0 k p) ∨ NB2 v B k p) ∨ NB4 v B 0 k p) ∨ (0 < v 50 T ∧ NFc b n vM T fa C k p)) ∨ (0 < v 66 (8 * T + 7) ∧ NWh b n vM T a6 a7 k p)
def MeR (b : Int → Int) (n : Int) (v : VV) (T C B : Int) (ct fa : Int → Int) (a6 a7 : Int) (v1 : VV) : Prop := ∃ vM : VV, Fr (fun r j => MBs T r j ∨ (r = 47 ∧ j = 52)) v vM ∧ CB v T B vM ∧ vM 47 52 = 1 ∧ Fr (MeS T) v v1 ∧ CB v T B v1 ∧ v1 47 52 = 0 ∧ FM (NAct b n v vM T C B ct fa a6 a7) v1 ∧ (0 < v 50 T → ∀ c, 0 ≤ c → c < C → v1 53 (8 * T + c) = tyF b n (RT b n vM T) 3 (fa c)) ∧ (v 47 50 ≤ v1 47 50 ∧ v1 47 50 ≤ v 47 50 + 8000)
theorem TKt.fr {S : Int → Int → Prop} {b : Int → Int} {n t A : Int} {v V : VV} (h : TKt b n t A v) (hf : Fr S v V) (hs : ∀ j, ¬ S 61 j ∧ ¬ S 62 j ∧ ¬ S 63 j ∧ ¬ S 64 j) : TKt b n t A V := by
  obtain ⟨k1, k2, k3⟩ := h
  refine ⟨fun i i0 i1 => ?_, fun i i0 i1 => ?_, k3⟩
  · rw [hf 61 _ (hs _).1, hf 62 _ (hs _).2.1, hf 63 _ (hs _).2.2.1]; exact k1 i i0 i1
  · rw [hf 64 _ (hs _).2.2.2]; exact k2 i i0 i1
theorem MW.fr {S : Int → Int → Prop} {v V : VV} (h : MW v) (hf : Fr S v V) (hs : ∀ j, 33 ≤ j → j ≤ 39 → ¬ S 47 j) : MW V := by
  obtain ⟨m1, m2, m3, m4, m5, m6, m7⟩ := h
  exact ⟨(hf _ _ (hs _ (by omega) (by omega))).trans m1, (hf _ _ (hs _ (by omega) (by omega))).trans m2, (hf _ _ (hs _ (by omega) (by omega))).trans m3, (hf _ _ (hs _ (by omega) (by omega))).trans m4, (hf _ _ (hs _ (by omega) (by omega))).trans m5, (hf _ _ (hs _ (by omega) (by omega))).trans m6, (hf _ _ (hs _ (by omega) (by omega))).trans m7⟩
theorem NWh_M {b : Int → Int} {n T a6 a7 k p : Int} {v V : VV} (hf : Fr (MTs T) v V) (eR : RT b n V T = RT b n v T) (h42 : V 47 42 = v 47 42) : NWh b n V T a6 a7 k p ↔ NWh b n v T a6 a7 k p := by
  unfold NWh
  rw [NFe_M hf eR, NFe_M hf eR, eR, h42]
set_option maxRecDepth 100000 in
set_option maxHeartbeats 4000000 in
theorem c_meant {X : XX} {v : VV} {b : Int → Int} {n T A C B a6 a7 : Int} {ct fa : Int → Int} (hW : SW X) (hb : MB v) (e0 : v 47 0 = T) (hK : TKt b n T A v) (hM : MW v) (h51 : ∀ q, 0 ≤ q → q < T → 0 ≤ v 51 q ∧ v 51 q ≤ 6) (hC : v 51 T = C) (hC6 : 0 ≤ C ∧ C ≤ 6) (hB : v 54 T = B) (hB3 : 0 ≤ B ∧ B ≤ 3) (hct0 : ct 0 = 3) (hct : ∀ c, 0 ≤ c → c < C → 0 ≤ ct c ∧ ct c < 400 ∧ v 62 (400 * T + ct c) = tS b n (ct c) ∧ (v 50 T = 0 → ct (c + 1) = ct c + 3) ∧ (¬ v 50 T = 0 → ct (c + 1) = v 66 (8 * T + c) + 1 ∧ 0 ≤ v 66 (8 * T + c) ∧ v 66 (8 * T + c) ≤ 400)) (h50 : 0 ≤ v 50 T) (hfa : 0 < v 50 T → ∀ c, 0 ≤ c → c < C → 0 ≤ fa c ∧ v 65 (8 * T + c) = fa c ∧ (rForm b n 3 (fa c)).1 = true ∧ v 66 (8 * T + c) = (rForm b n 3 (fa c)).2 ∧ v 66 (8 * T + c) ≤ A) (hwh : 0 < v 66 (8 * T + 7) → (0 ≤ a6 ∧ v 65 (8 * T + 6) = a6 ∧ (rForm b n 3 a6).1 = true ∧ v 66 (8 * T + 6) = (rForm b n 3 a6).2 ∧ v 66 (8 * T + 6) ≤ A) ∧ (0 ≤ a7 ∧ v 65 (8 * T + 7) = a7 ∧ (rForm b n 3 a7).1 = true ∧ v 66 (8 * T + 7) = (rForm b n 3 a7).2 ∧ v 66 (8 * T + 7) ≤ A)) (he : 0 ≤ v 47 50 ∧ v 47 50 ≤ 1700000000) (h25 : v 47 25 = 0) (h26 : v 47 26 = -1) : CX mX11_meant 4 [(2, 47)] X v (fun o v1 => MeR b n v T C B ct fa a6 a7 v1) := by
  have hb1 := hb.1
  have hT : 0 ≤ T ∧ T ≤ 16 := by omega
  have hF0 : FM (fun _ _ => False) v := Or.inl ⟨h25, h26, fun _ _ z => z⟩
  refine CX.of (by decide +kernel) rfl rfl rfl (bX11_meant_0 (Nat.le_refl _) hW ?_)
  rw [e0]
  refine ⟨⟨by omega, by omega⟩, _, c_tableNamed hW hb _, fun r2 w3 hP => ?_⟩
  obtain ⟨rfl, r, hr, hF⟩ := hP
  obtain rfl : r2 = r := by simpa using hr
  have er : r2 = tN w3 (w3 49 T) := hF.eq hb1.1
  -- behind label 40
  have key : ∀ V, Fr FTs w3 V → FM (fun k p => NTn w3 T k p) V → Ex mX11_meant 4 40 [(2, 47), (0, T), (0, 3), (0, 0), (3, 0)] [] X V 0 0 (fun o X1 v1 => X1 = X ∧ MeR b n w3 T C B ct fa a6 a7 v1) := by
    intro V hf hN
    have h40 := l_mean40 (X := X) (v := w3) (Q := fun o X1 v1 => X1 = X ∧ MeR b n w3 T C B ct fa a6 a7 v1) (d := 4) (mc := 0) (ms := 0) (T := T) (C := C) (N0 := NTn w3 T) (ct := ct) (S := tS b n) hW (Nat.le_refl _) hT hC hC6 hct (fun V2 f2 N2 => ?_) 0 V ⟨Int.le_refl _, hC6.1⟩ hf (hN.cg (fun k p => ⟨Or.inl, fun q => q.elim id (fun ⟨_, c', i', h1, h2, h3, _⟩ => by omega)⟩))
    · rw [hct0] at h40; exact h40
    · refine l_mean146 (X := X) (v := w3) (d := 4) (mc := 0) (ms := 0) (T := T) (B := B) (x2 := ct C) (N0 := fun k p => NTn w3 T k p ∨ NCo w3 T ct (tS b n) C 0 k p) hW (Nat.le_refl _) hb hT hB hB3 (fun V3 f3 N3 C3 => ?_) 0 V2 ⟨Int.le_refl _, hB3.1⟩ (f2.mono (fun r j h q => h (Or.inl q))) (N2.cg (fun k p => ⟨fun q => Or.inl (Or.inl q), fun q => q.elim (fun q => q.elim id (fun ⟨_, k', h1, h2, _⟩ => by omega)) (fun ⟨_, c', i', h1, h2, h3, _⟩ => by omega)⟩)) (fun k' a c => by omega)
      -- the state in which typing begins
      have fu : Fr (fun r j => MBs T r j ∨ (r = 47 ∧ j = 52)) w3 (upd2 V3 47 52 1) := (f3.mono (fun r j h q => h (Or.inl q))).up (Or.inr ⟨rfl, rfl⟩)
      have u52 : upd2 V3 47 52 1 47 52 = 1 := upd2_s _ _ _ _
      have uC : CB w3 T B (upd2 V3 47 52 1) := fun k' a c => by rw [upd2_n _ (by omega)]; exact C3 k' a c
      have uN : FM (fun k p => ((NTn w3 T k p ∨ NCo w3 T ct (tS b n) C 0 k p) ∨ NB2 w3 B k p) ∨ NB4 w3 B 0 k p) (upd2 V3 47 52 1) := N3.same (upd2_n _ (by omega)) (upd2_n _ (by omega))
      generalize upd2 V3 47 52 1 = u at *
      have g : ∀ r j, ¬ (MBs T r j ∨ (r = 47 ∧ j = 52)) → u r j = w3 r j := fu
      have gn : ∀ r j, ¬ (r = 47 ∧ (j = 25 ∨ j = 26 ∨ j = 52)) → ¬ r = 55 → u r j = w3 r j := fun r j h1 h2 => g r j (by unfold MBs FTs; omega)
      have u54 : u 54 T = B := (gn 54 T (by omega) (by omega)).trans hB
      have u55 : ∀ i, 0 ≤ i → i < u 54 T → -1 ≤ u 55 (3 * T + i) ∧ u 55 (3 * T + i) < T := fun i i0 i1 => by
        rw [u54] at i1
        rw [uC i i0 i1]
        have := tN_bd w3 (w3 70 i) hb1.1
        omega
      have u51 : ∀ q, 0 ≤ q → q < T → 0 ≤ u 51 q ∧ u 51 q ≤ 6 := fun q q0 q1 => by rw [gn 51 q (by omega) (by omega)]; exact h51 q q0 q1
      have hH : TYH b n T A u := ⟨hK.fr fu (fun j => ⟨by unfold MBs FTs; omega, by unfold MBs FTs; omega, by unfold MBs FTs; omega, by unfold MBs FTs; omega⟩), by rw [u54]; exact hB3, u55, u51, hM.fr fu (fun j j0 j1 => by unfold MBs FTs; omega)⟩
      have u50 : u 47 50 = w3 47 50 := gn 47 50 (by omega) (by omega)
      have u66 : u 66 (8 * T + 7) = w3 66 (8 * T + 7) := gn _ _ (by omega) (by omega)
      -- behind the results
      have k299 : ∀ (x3 : Int) (V4 : VV), Fr (MTs T) u V4 → FM (fun k p => (((NTn w3 T k p ∨ NCo w3 T ct (tS b n) C 0 k p) ∨ NB2 w3 B k p) ∨ NB4 w3 B 0 k p) ∨ (0 < w3 50 T ∧ NFc b n u T fa C k p)) V4 → (0 < w3 50 T → ∀ c, 0 ≤ c → c < C → V4 53 (8 * T + c) = tyF b n (RT b n u T) 3 (fa c)) → (w3 47 50 ≤ V4 47 50 ∧ V4 47 50 ≤ w3 47 50 + 6000) → Ex mX11_meant 4 299 [(2, 47), (0, T), (0, ct C), (0, x3), (3, 0)] [] X V4 0 0 (fun o X1 v1 => X1 = X ∧ MeR b n w3 T C B ct fa a6 a7 v1) := by
        intro x3 V4 f4 N4 ty4 b4
        have g4 : ∀ r j, ¬ MTs T r j → V4 r j = u r j := f4
        have v52 : V4 47 52 = 1 := (g4 47 52 (by unfold MTs TYs; omega)).trans u52
        have v66 : ∀ f, V4 66 (8 * T + f) = w3 66 (8 * T + f) := fun f => (g4 66 _ (by unfold MTs TYs; omega)).trans (gn 66 _ (by omega) (by omega))
        have v65 : ∀ f, V4 65 (8 * T + f) = w3 65 (8 * T + f) := fun f => (g4 65 _ (by unfold MTs TYs; omega)).trans (gn 65 _ (by omega) (by omega))
        have v55 : ∀ i, 0 ≤ i → i < V4 54 T → -1 ≤ V4 55 (3 * T + i) ∧ V4 55 (3 * T + i) < T := fun i i0 i1 => by
          rw [g4 54 T (by unfold MTs TYs; omega)] at i1
          rw [g4 55 _ (by unfold MTs TYs; omega)]; exact u55 i i0 i1
        have eR4 := RT_M (b := b) (n := n) f4 (v52.trans u52.symm) hH.2.1.1 u55 u51 hT.2
        have e42 : V4 47 42 = u 47 42 := g4 47 42 (by unfold MTs TYs; omega)
        refine l_mean299 (A := A) hW (Nat.le_refl _) (hH.frM f4) v52 hT v55 (a6 := a6) (a7 := a7) (by rw [v66, v66, v65, v65]; exact hwh) (by omega) N4 (fun V5 f5 N5 b5 => ⟨rfl, u, fu, uC, u52, ?_, fun k' a c => ?_, upd2_s _ _ _ _, ?_, fun z c c0 c1 => ?_, ?_⟩)
        · refine ((fu.via f4 (fun r j q => ?_) (fun r j q => Or.inr (Or.inr q))).via f5 (fun r j q => q) (fun r j q => Or.inr (Or.inr (Or.inl q)))).up (Or.inl ⟨rfl, rfl⟩)
          rcases q with q | q
          · exact Or.inr (Or.inl q)
          · exact Or.inl q
        · rw [upd2_n _ (by omega), f5 55 _ (by unfold TYs; omega), g4 55 _ (by unfold MTs TYs; omega)]; exact uC k' a c
        · refine (N5.same (upd2_n _ (by omega)) (upd2_n _ (by omega))).cg (fun k p => ?_)
          rw [v66, NWh_M f4 eR4 e42]
          unfold NAct
          exact Iff.rfl
        · rw [upd2_n _ (by omega), f5 53 _ (by unfold TYs; omega)]; exact ty4 z c c0 c1
        · rw [upd2_n _ (by omega)]; omega
      refine ⟨fun z => ?_, fun z => ?_⟩
      · have := k299 B u Fr.rf (uN.cg (fun k p => ⟨Or.inl, fun q => q.elim id (fun y => by omega)⟩)) (fun y => by omega) (by omega)
        exact this
      · refine l_mean266 (A := A) (fa := fa) hW (Nat.le_refl _) hH u52 hT ((gn 51 T (by omega) (by omega)).trans hC) hC6 u55 (fun c c0 c1 => by rw [gn 65 _ (by omega) (by omega), gn 66 _ (by omega) (by omega)]; exact hfa z c c0 c1) (by omega) (fun V4 f4 N4 ty4 b4 => k299 C V4 f4 (N4.cg (fun k p => orR ⟨fun q => ⟨z, q⟩, fun q => q.2⟩)) (fun _ => ty4) (by omega)) 0 u ⟨Int.le_refl _, hC6.1⟩ Fr.rf (uN.cg (fun k p => ⟨Or.inl, fun q => q.elim id (fun ⟨i, i0, i1, _⟩ => by omega)⟩)) (fun i i0 i1 => by omega) ⟨Int.le_refl _, by omega⟩
  refine ⟨fun g => key w3 Fr.rf (hF0.cg (fun k p => ⟨fun q => q.elim, fun q => q.2.1 (er.symm.trans g)⟩)), fun g => ⟨fun _ => ⟨by omega, by omega⟩, fun _ => ⟨by omega, by omega⟩, ⟨by omega, by omega⟩, _, c_means hW _ _, fun w7 hP => ?_⟩⟩
  have e : w7 = mMeans w3 4 (w3 62 (400 * T + 1)) := hP
  rw [e]
  refine key _ Fr.rf.mM' ((hF0.note 4 _ (by decide)).cg (fun k p => ?_))
  unfold NTn
  rw [← er]
  exact ⟨fun q => q.elim (fun y => y.elim) (fun y => ⟨y.1, g, y.2⟩), fun q => Or.inr ⟨q.1, q.2.2⟩⟩
