/-! ===== act once more: a source keeps its types ===== -/
def MeR2 (b : Int → Int) (n : Int) (v : VV) (T C B : Int) (ct fa : Int → Int) (a6 a7 : Int) (v1 : VV) : Prop := ∃ vM : VV, Fr (fun r j => MBs T r j ∨ (r = 47 ∧ j = 52)) v vM ∧ CB v T B vM ∧ vM 47 52 = 1 ∧ Fr (MeS T) v v1 ∧ CB v T B v1 ∧ v1 47 52 = 0 ∧ FM (NAct b n v vM T C B ct fa a6 a7) v1 ∧ ((0 < v 50 T → ∀ c, 0 ≤ c → c < C → v1 53 (8 * T + c) = tyF b n (RT b n vM T) 3 (fa c)) ∧ (v 50 T = 0 → ∀ j, v1 53 j = v 53 j)) ∧ (v 47 50 ≤ v1 47 50 ∧ v1 47 50 ≤ v 47 50 + 8000)
set_option maxRecDepth 100000 in
set_option maxHeartbeats 4000000 in
theorem c_meant2 {X : XX} {v : VV} {b : Int → Int} {n T A C B a6 a7 : Int} {ct fa : Int → Int} (hW : SW X) (hb : MB v) (e0 : v 47 0 = T) (hK : TKt b n T A v) (hM : MW v) (h51 : ∀ q, 0 ≤ q → q < T → 0 ≤ v 51 q ∧ v 51 q ≤ 6) (hC : v 51 T = C) (hC6 : 0 ≤ C ∧ C ≤ 6) (hB : v 54 T = B) (hB3 : 0 ≤ B ∧ B ≤ 3) (hct0 : ct 0 = 3) (hct : ∀ c, 0 ≤ c → c < C → 0 ≤ ct c ∧ ct c < 400 ∧ v 62 (400 * T + ct c) = tS b n (ct c) ∧ (v 50 T = 0 → ct (c + 1) = ct c + 3) ∧ (¬ v 50 T = 0 → ct (c + 1) = v 66 (8 * T + c) + 1 ∧ 0 ≤ v 66 (8 * T + c) ∧ v 66 (8 * T + c) ≤ 400)) (h50 : 0 ≤ v 50 T) (hfa : 0 < v 50 T → ∀ c, 0 ≤ c → c < C → 0 ≤ fa c ∧ v 65 (8 * T + c) = fa c ∧ (rForm b n 3 (fa c)).1 = true ∧ v 66 (8 * T + c) = (rForm b n 3 (fa c)).2 ∧ v 66 (8 * T + c) ≤ A) (hwh : 0 < v 66 (8 * T + 7) → (0 ≤ a6 ∧ v 65 (8 * T + 6) = a6 ∧ (rForm b n 3 a6).1 = true ∧ v 66 (8 * T + 6) = (rForm b n 3 a6).2 ∧ v 66 (8 * T + 6) ≤ A) ∧ (0 ≤ a7 ∧ v 65 (8 * T + 7) = a7 ∧ (rForm b n 3 a7).1 = true ∧ v 66 (8 * T + 7) = (rForm b n 3 a7).2 ∧ v 66 (8 * T + 7) ≤ A)) (he : 0 ≤ v 47 50 ∧ v 47 50 ≤ 1700000000) (h25 : v 47 25 = 0) (h26 : v 47 26 = -1) : CX mX11_meant 4 [(2, 47)] X v (fun o v1 => MeR2 b n v T C B ct fa a6 a7 v1) := by
  have hb1 := hb.1
  have hT : 0 ≤ T ∧ T ≤ 16 := by omega
  have hF0 : FM (fun _ _ => False) v := Or.inl ⟨h25, h26, fun _ _ z => z⟩
  refine CX.of (by decide +kernel) rfl rfl rfl (bX11_meant_0 (Nat.le_refl _) hW ?_)
  rw [e0]
  refine ⟨⟨by omega, by omega⟩, _, c_tableNamed hW hb _, fun r2 w3 hP => ?_⟩
  obtain ⟨rfl, r, hr, hF⟩ := hP
  obtain rfl : r2 = r := by simpa using hr
  have er : r2 = tN w3 (w3 49 T) := hF.eq hb1.1
  -- behind label 40
  have key : ∀ V, Fr FTs w3 V → FM (fun k p => NTn w3 T k p) V → Ex mX11_meant 4 40 [(2, 47), (0, T), (0, 3), (0, 0), (3, 0)] [] X V 0 0 (fun o X1 v1 => X1 = X ∧ MeR2 b n w3 T C B ct fa a6 a7 v1) := by
    intro V hf hN
    have h40 := l_mean40 (X := X) (v := w3) (Q := fun o X1 v1 => X1 = X ∧ MeR2 b n w3 T C B ct fa a6 a7 v1) (d := 4) (mc := 0) (ms := 0) (T := T) (C := C) (N0 := NTn w3 T) (ct := ct) (S := tS b n) hW (Nat.le_refl _) hT hC hC6 hct (fun V2 f2 N2 => ?_) 0 V ⟨Int.le_refl _, hC6.1⟩ hf (hN.cg (fun k p => ⟨Or.inl, fun q => q.elim id (fun ⟨_, c', i', h1, h2, h3, _⟩ => by omega)⟩))
    · rw [hct0] at h40; exact h40
    · refine l_mean146 (X := X) (v := w3) (d := 4) (mc := 0) (ms := 0) (T := T) (B := B) (x2 := ct C) (N0 := fun k p => NTn w3 T k p ∨ NCo w3 T ct (tS b n) C 0 k p) hW (Nat.le_refl _) hb hT hB hB3 (fun V3 f3 N3 C3 => ?_) 0 V2 ⟨Int.le_refl _, hB3.1⟩ (f2.mono (fun r j h q => h (Or.inl q))) (N2.cg (fun k p => ⟨fun q => Or.inl (Or.inl q), fun q => q.elim (fun q => q.elim id (fun ⟨_, k', h1, h2, _⟩ => by omega)) (fun ⟨_, c', i', h1, h2, h3, _⟩ => by omega)⟩)) (fun k' a c => by omega)
      -- the state in which typing begins
      have fu : Fr (fun r j => MBs T r j ∨ (r = 47 ∧ j = 52)) w3 (upd2 V3 47 52 1) := (f3.mono (fun r j h q => h (Or.inl q))).up (Or.inr ⟨rfl, rfl⟩)
      have u52 : upd2 V3 47 52 1 47 52 = 1 := upd2_s _ _ _ _
      have uC : CB w3 T B (upd2 V3 47 52 1) := fun k' a c => by rw [upd2_n _ (by omega)]; exact C3 k' a c
      have uN : FM (fun k p => ((NTn w3 T k p ∨ NCo w3 T ct (tS b n) C 0 k p) ∨ NB2 w3 B k p) ∨ NB4 w3 B 0 k p) (upd2 V3 47 52 1) := N3.same (upd2_n _ (by omega)) (upd2_n _ (by omega))
      generalize upd2 V3 47 52 1 = u at *
      have g : ∀ r j, ¬ (MBs T r j ∨ (r = 47 ∧ j = 52)) → u r j = w3 r j := fu
      have gn : ∀ r j, ¬ (r = 47 ∧ (j = 25 ∨ j = 26 ∨ j = 52)) → ¬ r = 55 → u r j = w3 r j := fun r j h1 h2 => g r j (by unfold MBs FTs; omega)
      have u54 : u 54 T = B := (gn 54 T (by omega) (by omega)).trans hB
      have u55 : ∀ i, 0 ≤ i → i < u 54 T → -1 ≤ u 55 (3 * T + i) ∧ u 55 (3 * T + i) < T := fun i i0 i1 => by
        rw [u54] at i1
        rw [uC i i0 i1]
        have := tN_bd w3 (w3 70 i) hb1.1
        omega
      have u51 : ∀ q, 0 ≤ q → q < T → 0 ≤ u 51 q ∧ u 51 q ≤ 6 := fun q q0 q1 => by rw [gn 51 q (by omega) (by omega)]; exact h51 q q0 q1
      have hH : TYH b n T A u := ⟨hK.fr fu (fun j => ⟨by unfold MBs FTs; omega, by unfold MBs FTs; omega, by unfold MBs FTs; omega, by unfold MBs FTs; omega⟩), by rw [u54]; exact hB3, u55, u51, hM.fr fu (fun j j0 j1 => by unfold MBs FTs; omega)⟩
      have u50 : u 47 50 = w3 47 50 := gn 47 50 (by omega) (by omega)
      have u66 : u 66 (8 * T + 7) = w3 66 (8 * T + 7) := gn _ _ (by omega) (by omega)
      -- behind the results
      have k299 : ∀ (x3 : Int) (V4 : VV), Fr (MTs T) u V4 → FM (fun k p => (((NTn w3 T k p ∨ NCo w3 T ct (tS b n) C 0 k p) ∨ NB2 w3 B k p) ∨ NB4 w3 B 0 k p) ∨ (0 < w3 50 T ∧ NFc b n u T fa C k p)) V4 → (0 < w3 50 T → ∀ c, 0 ≤ c → c < C → V4 53 (8 * T + c) = tyF b n (RT b n u T) 3 (fa c)) → (w3 50 T = 0 → ∀ j, V4 53 j = w3 53 j) → (w3 47 50 ≤ V4 47 50 ∧ V4 47 50 ≤ w3 47 50 + 6000) → Ex mX11_meant 4 299 [(2, 47), (0, T), (0, ct C), (0, x3), (3, 0)] [] X V4 0 0 (fun o X1 v1 => X1 = X ∧ MeR2 b n w3 T C B ct fa a6 a7 v1) := by
        intro x3 V4 f4 N4 ty4 s4 b4
        have g4 : ∀ r j, ¬ MTs T r j → V4 r j = u r j := f4
        have v52 : V4 47 52 = 1 := (g4 47 52 (by unfold MTs TYs; omega)).trans u52
        have v66 : ∀ f, V4 66 (8 * T + f) = w3 66 (8 * T + f) := fun f => (g4 66 _ (by unfold MTs TYs; omega)).trans (gn 66 _ (by omega) (by omega))
        have v65 : ∀ f, V4 65 (8 * T + f) = w3 65 (8 * T + f) := fun f => (g4 65 _ (by unfold MTs TYs; omega)).trans (gn 65 _ (by omega) (by omega))
        have v55 : ∀ i, 0 ≤ i → i < V4 54 T → -1 ≤ V4 55 (3 * T + i) ∧ V4 55 (3 * T + i) < T := fun i i0 i1 => by
          rw [g4 54 T (by unfold MTs TYs; omega)] at i1
          rw [g4 55 _ (by unfold MTs TYs; omega)]; exact u55 i i0 i1
        have eR4 := RT_M (b := b) (n := n) f4 (v52.trans u52.symm) hH.2.1.1 u55 u51 hT.2
        have e42 : V4 47 42 = u 47 42 := g4 47 42 (by unfold MTs TYs; omega)
        refine l_mean299 (A := A) hW (Nat.le_refl _) (hH.frM f4) v52 hT v55 (a6 := a6) (a7 := a7) (by rw [v66, v66, v65, v65]; exact hwh) (by omega) N4 (fun V5 f5 N5 b5 => ⟨rfl, u, fu, uC, u52, ?_, fun k' a c => ?_, upd2_s _ _ _ _, ?_, ⟨fun z c c0 c1 => ?_, fun z j => ?_⟩, ?_⟩)
        · refine ((fu.via f4 (fun r j q => ?_) (fun r j q => Or.inr (Or.inr q))).via f5 (fun r j q => q) (fun r j q => Or.inr (Or.inr (Or.inl q)))).up (Or.inl ⟨rfl, rfl⟩)
          rcases q with q | q
          · exact Or.inr (Or.inl q)
          · exact Or.inl q
        · rw [upd2_n _ (by omega), f5 55 _ (by unfold TYs; omega), g4 55 _ (by unfold MTs TYs; omega)]; exact uC k' a c
        · refine (N5.same (upd2_n _ (by omega)) (upd2_n _ (by omega))).cg (fun k p => ?_)
          rw [v66, NWh_M f4 eR4 e42]
          unfold NAct
          exact Iff.rfl
        · rw [upd2_n _ (by omega), f5 53 _ (by unfold TYs; omega)]; exact ty4 z c c0 c1
        · rw [upd2_n _ (by omega), f5 53 _ (by unfold TYs; omega)]; exact s4 z j
        · rw [upd2_n _ (by omega)]; omega
      refine ⟨fun z => ?_, fun z => ?_⟩
      · have := k299 B u Fr.rf (uN.cg (fun k p => ⟨Or.inl, fun q => q.elim id (fun y => by omega)⟩)) (fun y => by omega) (fun _ j => gn 53 j (by omega) (by omega)) (by omega)
        exact this
      · refine l_mean266 (A := A) (fa := fa) hW (Nat.le_refl _) hH u52 hT ((gn 51 T (by omega) (by omega)).trans hC) hC6 u55 (fun c c0 c1 => by rw [gn 65 _ (by omega) (by omega), gn 66 _ (by omega) (by omega)]; exact hfa z c c0 c1) (by omega) (fun V4 f4 N4 ty4 b4 => k299 C V4 f4 (N4.cg (fun k p => orR ⟨fun q => ⟨z, q⟩, fun q => q.2⟩)) (fun _ => ty4) (fun y => by omega) (by omega)) 0 u ⟨Int.le_refl _, hC6.1⟩ Fr.rf (uN.cg (fun k p => ⟨Or.inl, fun q => q.elim id (fun ⟨i, i0, i1, _⟩ => by omega)⟩)) (fun i i0 i1 => by omega) ⟨Int.le_refl _, by omega⟩
  refine ⟨fun g => key w3 Fr.rf (hF0.cg (fun k p => ⟨fun q => q.elim, fun q => q.2.1 (er.symm.trans g)⟩)), fun g => ⟨fun _ => ⟨by omega, by omega⟩, fun _ => ⟨by omega, by omega⟩, ⟨by omega, by omega⟩, _, c_means hW _ _, fun w7 hP => ?_⟩⟩
  have e : w7 = mMeans w3 4 (w3 62 (400 * T + 1)) := hP
  rw [e]
  refine key _ Fr.rf.mM' ((hF0.note 4 _ (by decide)).cg (fun k p => ?_))
  unfold NTn
  rw [← er]
  exact ⟨fun q => q.elim (fun y => y.elim) (fun y => ⟨y.1, g, y.2⟩), fun q => Or.inr ⟨q.1, q.2.2⟩⟩

def MeM2 (b : Int → Int) (n : Int) (W : VV) (T : Int) (V : VV) : Prop := (sK b n = 0 ∧ ∃ C : Int, W 51 T = C ∧ MeR2 b n W T C 0 (fun c => 3 + 3 * c) (fun _ => 0) 0 0 V) ∨ (¬ sK b n = 0 ∧ ∃ C B : Nat, SelP b n C B ∧ MeR2 b n W T C B (fun c => qN b n 3 c.toNat) (fun c => qN b n 3 c.toNat + 2) (qN b n 3 C + 2 * B - 1 + 1) ((rForm b n 3 (qN b n 3 C + 2 * B - 1 + 1)).2 + 1) V)
def ActV2 (b : Int → Int) (n T : Int) (v V : VV) : Prop := ((rStmt b n).1 = false ∧ V 47 25 = 1 ∧ V 47 26 = (rStmt b n).2) ∨ ((rStmt b n).1 = true ∧ ∃ (W V' : VV) (A : Int), Fr (AcS T) v W ∧ RdK b n T W ∧ W 60 T = A ∧ TKt b n T A W ∧ (rStmt b n).2 + 0 ≤ A ∧ A ≤ (rStmt b n).2 ∧ MeM2 b n W T V' ∧ Fr (MeS T) W V' ∧ V = (if T = 16 then mFull V' else V'))
def ActR2 (b : Int → Int) (n T : Int) (v : VV) (o : Option AV) (v1 : VV) : Prop := ∃ V, Fr (AcS T) v V ∧ V 47 22 = 0 ∧ V 47 52 = 0 ∧ (v 47 50 ≤ V 47 50 ∧ V 47 50 ≤ v 47 50 + 8000) ∧ ActV2 b n T v V ∧ ActF T V o v1
set_option maxRecDepth 100000 in
set_option maxHeartbeats 4000000 in
theorem l_act3322 {X : XX} {V : VV} {Q : QQ} {d mc ms : Nat} {T x2 : Int} (hW : SW X) (hd : 7 ≤ d) (hT : 0 ≤ T ∧ T < 17) (h0 : V 47 0 ≤ 16) (hQ : ∀ o v1, ActF T V o v1 → Q o X v1) : Ex mX11_act d 332 [(2, 47), (0, T), (0, x2)] [] X V mc ms Q :=
  bX11_act_332 T x2 hd hW (fun _ _ => ⟨fun g => ⟨hT, hT, hT, hT, hT, fun hh => (by have h1 := hh.1; exact ⟨by omega, by omega⟩), hQ _ _ (Or.inl ⟨g, rfl, rfl⟩)⟩, fun g => hQ _ _ (Or.inr ⟨g, rfl, rfl⟩)⟩)
set_option maxRecDepth 100000 in
set_option maxHeartbeats 4000000 in
theorem l_actbad2 {X : XX} {V : VV} {Q : QQ} {d mc ms : Nat} {T x2 : Int} (hW : SW X) (hd : 7 ≤ d) (h25 : V 47 25 = 1) (h : Ex mX11_act d 332 [(2, 47), (0, T), (0, x2)] [] X V mc ms Q) : Ex mX11_act d 229 [(2, 47), (0, T), (0, x2)] [] X V mc ms Q ∧ Ex mX11_act d 263 [(2, 47), (0, T), (0, x2)] [] X V mc ms Q ∧ Ex mX11_act d 276 [(2, 47), (0, T), (0, x2)] [] X V mc ms Q ∧ Ex mX11_act d 299 [(2, 47), (0, T), (0, x2)] [] X V mc ms Q := by
  have l310 : Ex mX11_act d 310 [(2, 47), (0, T), (0, x2)] [] X V mc ms Q := bX11_act_310 T x2 hd hW (fun _ _ => ⟨fun _ => h, fun g => by omega⟩)
  have l299 : Ex mX11_act d 299 [(2, 47), (0, T), (0, x2)] [] X V mc ms Q := bX11_act_299 T x2 hd hW (fun _ _ => ⟨fun _ => l310, fun g => by omega⟩)
  have l276 : Ex mX11_act d 276 [(2, 47), (0, T), (0, x2)] [] X V mc ms Q := bX11_act_276 T x2 hd hW (fun _ _ => ⟨fun _ => l299, fun g => by omega⟩)
  have l263 : Ex mX11_act d 263 [(2, 47), (0, T), (0, x2)] [] X V mc ms Q := bX11_act_263 T x2 hd hW (fun _ _ => ⟨fun _ => l276, fun g => by omega⟩)
  have l252 : Ex mX11_act d 252 [(2, 47), (0, T), (0, x2)] [] X V mc ms Q := bX11_act_252 T x2 hd hW (fun _ _ => ⟨fun _ => l263, fun g => by omega⟩)
  exact ⟨bX11_act_229 T x2 hd hW (fun _ _ => ⟨fun _ => l252, fun g => by omega⟩), l263, l276, l299⟩
set_option maxRecDepth 100000 in
set_option maxHeartbeats 4000000 in
theorem l_act2992 {X : XX} {v V : VV} {Q : QQ} {d mc ms : Nat} {b : Int → Int} {n T A x2 : Int} (hW : SW X) (hd : 7 ≤ d) (hI : MIa v) (e0 : v 47 0 = T) (he : 0 ≤ v 47 50 ∧ v 47 50 ≤ 1600000000) (hf : Fr (AcS T) v V) (hA : AT0 b n T A V) (h25 : V 47 25 = 0) (hR : RdK b n T V) (hx : (V 64 (400 * T) = V 64 (400 * T)) ∧ ∀ i, 0 ≤ i → i < n → V 64 (400 * T + i) = b i) (h22 : V 47 22 = 0) (h50 : V 47 50 = v 47 50) (hs : (rStmt b n).1 = true ∧ (rStmt b n).2 = A) (hle : (sK b n = 0 → (rSource b n 2).2 < A) ∧ (¬ sK b n = 0 → (rSelect b n 2).2 < A)) (hQ : ∀ V, Fr (AcS T) v V → V 47 22 = 0 → V 47 52 = 0 → (v 47 50 ≤ V 47 50 ∧ V 47 50 ≤ v 47 50 + 8000) → ActV2 b n T v V → ∀ o v1, ActF T V o v1 → Q o X v1) : Ex mX11_act d 299 [(2, 47), (0, T), (0, x2)] [] X V mc ms Q := by
  obtain ⟨hB, ha, a1, a2, a3, a4, a5, a6, a7⟩ := id hA
  obtain ⟨hb, hM, h52, h51, hX⟩ := hI
  have hT := hB.2.2.2.1
  have g : ∀ r j, ¬ AcS T r j → V r j = v r j := hf
  have hbV : MB V := by
    unfold MB at hb ⊢
    rw [g 47 0 (by unfold AcS; omega), g 47 57 (by unfold AcS; omega), g 47 59 (by unfold AcS; omega), g 47 64 (by unfold AcS; omega)]
    omega
  have hK : TKt b n T A V := ⟨a7, hx.2, hB.2.2.2.2.1, hT, ⟨ha.1, ha.2.1⟩⟩
  have h26 : V 47 26 = -1 := ha.2.2 h25
  have V51 : ∀ q, 0 ≤ q → q < T → 0 ≤ V 51 q ∧ V 51 q ≤ 6 := fun q q0 q1 => by
    rw [g 51 q (by unfold AcS; omega)]; exact h51 q q0 (by omega)
  have V0 : V 47 0 = T := hB.2.2.1
  -- behind meant
  have fin : ∀ V', MeM2 b n V T V' → Fr (MeS T) V V' → V' 47 52 = 0 → (V 47 50 ≤ V' 47 50 ∧ V' 47 50 ≤ V 47 50 + 8000) → Ex mX11_act d 310 [(2, 47), (0, T), (0, x2)] [] X V' mc ms Q := by
    intro V' hm f1 k52 k50
    have W0 : V' 47 0 = T := (f1 47 0 (by unfold MeS MBs MTs FTs TYs; omega)).trans V0
    have W22 : V' 47 22 = 0 := (f1 47 22 (by unfold MeS MBs MTs FTs TYs; omega)).trans h22
    have f2 : Fr (AcS T) v V' := hf.via f1 (fun _ _ q => q) (fun _ _ q => AcS_MeS q)
    have k332 : ∀ V2, Fr (AcS T) v V2 → V2 47 0 = T → V2 47 22 = 0 → V2 47 52 = 0 → V2 47 50 = V' 47 50 → V2 = (if T = 16 then mFull V' else V') → Ex mX11_act d 332 [(2, 47), (0, T), (0, x2)] [] X V2 mc ms Q := fun V2 z1 z2 z3 z4 z6 z7 =>
      l_act3322 hW hd ⟨hT.1, by omega⟩ (by omega) (hQ V2 z1 z3 z4 (by omega) (Or.inr ⟨hs.1, V, V', A, hf, hR, a6, hK, by omega, by omega, hm, f1, z7⟩))
    refine bX11_act_310 T x2 hd hW (fun _ _ => ⟨fun z => ?_, fun z => ⟨fun z2 => ?_, fun z2 => ⟨_, c_means hW _ _, fun w59 hP => ?_⟩⟩⟩)
    · refine k332 V' f2 W0 W22 k52 rfl ?_
      split
      · unfold mFull; rw [if_neg z]
      · rfl
    · exact k332 V' f2 W0 W22 k52 rfl (by rw [if_neg (by omega)])
    · have e : w59 = mMeans V' 5 0 := hP
      rw [e]
      refine k332 _ (f2.mM (by unfold AcS; omega) (by unfold AcS; omega)) ?_ ?_ ?_ ?_ ?_
      · rw [mM_n (by omega)]; exact W0
      · rw [mM_n (by omega)]; exact W22
      · rw [mM_n (by omega)]; exact k52
      · rw [mM_n (by omega)]
      · rw [if_pos (by omega)]; unfold mFull; rw [if_pos z]
  refine bX11_act_299 T x2 hd hW (fun _ _ => ⟨fun z => absurd h25 z, fun _ => ?_⟩)
  obtain ⟨r1, r2, r3⟩ := id hR
  rcases r3 with ⟨r3, C, c1, c2, c3, c4, c5, c6⟩ | ⟨r3, C, B, c1, c2, c3, c4, c5, c6, c7, c8⟩
  · have hl := hle.1 r3
    rw [c4] at hl
    have hl2 : 3 + 3 * C < A := hl
    refine ⟨_, c_meant2 (b := b) (n := n) (T := T) (A := A) (C := C) (B := 0) (a6 := 0) (a7 := 0) (ct := fun c => 3 + 3 * c) (fa := fun _ => 0) hW hbV V0 hK hB.2.2.2.2.2 V51 c1 ⟨by omega, by omega⟩ c5 ⟨by omega, by omega⟩ rfl (fun c d0 d1 => ⟨by omega, by omega, (a7 (3 + 3 * c) (by omega) (by omega)).2.1, fun _ => by omega, fun q => absurd (r1.trans r3) q⟩) (by omega) (fun q => by omega) (fun q => by have := (c6 7 (by omega) (by omega)).2; omega) (by omega) h25 h26, fun w55 hP => ?_⟩
    have hP2 := hP
    obtain ⟨vM, m1, m2, m3, m4, m5, m6, m7, m8, m9⟩ := hP2
    exact fin w55 (Or.inl ⟨r3, C, c1, hP⟩) m4 m6 m9
  · obtain ⟨⟨p1, p2⟩, p3, p4, p5, p6, p7, p8⟩ := id c1
    have hl := hle.2 r3
    rw [p7] at hl
    have hq : ∀ c : Nat, c ≤ C → 3 + 4 * (c : Int) ≤ qN b n 3 c ∧ qN b n 3 c + 4 * ((C : Int) - c) ≤ qN b n 3 C := fun c hc => by
      have h1 := qN_mono p3 c 0 (by omega)
      have h2 := qN_mono p3 (C - c) c (by omega)
      rw [Nat.zero_add] at h1
      rw [show c + (C - c) = C by omega] at h2
      have e3 : qN b n 3 0 = 3 := rfl
      omega
    have hw : qN b n 3 C + 2 * B - 1 ≤ (rWhere b n (qN b n 3 C + 2 * B - 1)).2 ∧ (tK b n (qN b n 3 C + 2 * B - 1) = 265 → (rForm b n 3 (qN b n 3 C + 2 * B - 1 + 1)).2 < (rWhere b n (qN b n 3 C + 2 * B - 1)).2 ∧ (rForm b n 3 ((rForm b n 3 (qN b n 3 C + 2 * B - 1 + 1)).2 + 1)).2 = (rWhere b n (qN b n 3 C + 2 * B - 1)).2) := by
      by_cases h : tK b n (qN b n 3 C + 2 * B - 1) = 265
      · obtain ⟨w1, w2, w3, w4, w5, w6, w7⟩ := c7.2 h
        have e : rWhere b n (qN b n 3 C + 2 * B - 1) = rForm b n 3 ((rForm b n 3 (qN b n 3 C + 2 * B - 1 + 1)).2 + 1) := by
          rw [rWhere_y h, rThen_t w3]; unfold rW1; rw [if_pos w4]
        rw [e]
        have := rForm_lt w3
        have := rForm_lt w7
        exact ⟨by omega, fun _ => ⟨by omega, rfl⟩⟩
      · have e : rWhere b n (qN b n 3 C + 2 * B - 1) = (true, qN b n 3 C + 2 * B - 1) := if_neg h
        rw [e]
        exact ⟨Int.le_refl _, fun z => absurd z h⟩
    have hres : ∀ c : Int, 0 ≤ c → c < C → (rForm b n 3 (qN b n 3 c.toNat + 2)).2 = V 66 (8 * T + c) ∧ qN b n 3 (c + 1).toNat = V 66 (8 * T + c) + 1 ∧ 0 ≤ qN b n 3 c.toNat ∧ qN b n 3 c.toNat + 2 < V 66 (8 * T + c) ∧ V 66 (8 * T + c) < A ∧ V 65 (8 * T + c) = qN b n 3 c.toNat + 2 ∧ (rForm b n 3 (qN b n 3 c.toNat + 2)).1 = true := fun c d0 d1 => by
      obtain ⟨e1, e2, e3⟩ := c5 c.toNat (by omega)
      rw [Int.toNat_of_nonneg d0] at e1 e2 e3
      obtain ⟨f1, f2, f3, f4, f5⟩ := p3 c.toNat (by omega)
      have h1 := hq c.toNat (by omega)
      have h2 := hq (c.toNat + 1) (by omega)
      have h3 := rForm_lt f4
      have e4 : qN b n 3 (c + 1).toNat = (rForm b n 3 (qN b n 3 c.toNat + 2)).2 + 1 := by rw [show (c + 1).toNat = c.toNat + 1 by omega]; rfl
      have e5 : qN b n 3 (c.toNat + 1) = (rForm b n 3 (qN b n 3 c.toNat + 2)).2 + 1 := rfl
      exact ⟨e3.symm, by rw [e4, e3], by omega, by omega, by omega, e2, f4⟩
    refine ⟨_, c_meant2 (b := b) (n := n) (T := T) (A := A) (C := C) (B := B) (a6 := qN b n 3 C + 2 * B - 1 + 1) (a7 := (rForm b n 3 (qN b n 3 C + 2 * B - 1 + 1)).2 + 1) (ct := fun c => qN b n 3 c.toNat) (fa := fun c => qN b n 3 c.toNat + 2) hW hbV V0 hK hB.2.2.2.2.2 V51 c2 ⟨by omega, by omega⟩ c3 ⟨by omega, by omega⟩ rfl (fun c d0 d1 => ?_) (by rw [r1]; unfold sK; split; exact Int.le_refl _; split <;> decide) (fun _ c d0 d1 => ?_) (fun q => ?_) (by omega) h25 h26, fun w55 hP => ?_⟩
    · obtain ⟨e1, e2, e3, e4, e5, e6, e7⟩ := hres c d0 d1
      exact ⟨e3, by omega, (a7 _ e3 (by omega)).2.1, fun q => absurd (r1.symm.trans q) r3, fun _ => ⟨e2, by omega, by omega⟩⟩
    · obtain ⟨e1, e2, e3, e4, e5, e6, e7⟩ := hres c d0 d1
      exact ⟨by omega, e6, e7, e1.symm, by omega⟩
    · by_cases h : tK b n (qN b n 3 C + 2 * B - 1) = 265
      · obtain ⟨w1, w2, w3, w4, w5, w6, w7⟩ := c7.2 h
        have h1 := hq C (Nat.le_refl _)
        have h2 := rForm_lt w3
        obtain ⟨h3, h4⟩ := hw.2 h
        have h5 := rForm_lt w7
        exact ⟨⟨by omega, w1, w3, w2, by omega⟩, by omega, w5, w7, w6, by omega⟩
      · have := (c7.1 h).2.2.2; omega
    · have hP2 := hP
      obtain ⟨vM, m1, m2, m3, m4, m5, m6, m7, m8, m9⟩ := hP2
      exact fin w55 (Or.inr ⟨r3, C, B, c1, hP⟩) m4 m6 m9
set_option maxRecDepth 100000 in
set_option maxHeartbeats 4000000 in
/-- behind the reading of a source or a select -/
theorem l_act2632 {X : XX} {v V : VV} {Q : QQ} {d mc ms : Nat} {b : Int → Int} {n T a x2 : Int} (hW : SW X) (hd : 7 ≤ d) (hI : MIa v) (e0 : v 47 0 = T) (he : 0 ≤ v 47 50 ∧ v 47 50 ≤ 1600000000) (hf : Fr (AcS T) v V) (hA : AT0 b n T a V) (h25 : V 47 25 = 0) (hR : RdK b n T V) (hx : ∀ i, 0 ≤ i → i < n → V 64 (400 * T + i) = b i) (h22 : V 47 22 = 0) (h52 : V 47 52 = 0) (h50 : V 47 50 = v 47 50) (hs : rStmt b n = rFin b n a) (hle : (sK b n = 0 → (rSource b n 2).2 = a) ∧ (¬ sK b n = 0 → (rSelect b n 2).2 = a)) (hQ : ∀ V, Fr (AcS T) v V → V 47 22 = 0 → V 47 52 = 0 → (v 47 50 ≤ V 47 50 ∧ V 47 50 ≤ v 47 50 + 8000) → ActV2 b n T v V → ∀ o v1, ActF T V o v1 → Q o X v1) : Ex mX11_act d 263 [(2, 47), (0, T), (0, x2)] [] X V mc ms Q := by
  obtain ⟨hB, ha, a1, a2, a3, a4, a5, a6, a7⟩ := id hA
  have hT := hB.2.2.2.1
  have bad_ : ∀ w p, rFin b n a = (false, p) → Fr (AS T) V w → w 47 25 = 1 → w 47 26 = p → Ex mX11_act d 332 [(2, 47), (0, T), (0, x2)] [] X w mc ms Q := fun w p z1 z2 z3 z4 => by
    have g : ∀ r j, ¬ AS T r j → w r j = V r j := z2
    refine l_act3322 hW hd ⟨hT.1, by omega⟩ (by rw [g 47 0 (by unfold AS; omega), hB.2.2.1]; exact hT.2) (hQ w (hf.via z2 (fun _ _ q => q) (fun _ _ q => AcS_AS q)) ?_ ?_ ?_ (Or.inl ⟨by rw [hs, z1], z3, by rw [hs, z1]; exact z4⟩))
    · rw [g 47 22 (by unfold AS; omega)]; exact h22
    · rw [g 47 52 (by unfold AS; omega)]; exact h52
    · rw [g 47 50 (by unfold AS; omega)]; omega
  refine bX11_act_263 T x2 hd hW (fun _ _ => ⟨fun z => absurd h25 z, fun _ => ⟨_, c_sign (b := b) (n := n) (T := T) hW hA h25 59 (by unfold sgB; omega), fun w47 hP => ?_⟩⟩)
  obtain ⟨f1, ⟨z1, z2, z3⟩ | ⟨z1, z2, z3⟩⟩ := hP
  · have e1 : rFin b n a = (if tK b n (a + 1) = 260 then (true, a + 1) else (false, tS b n (a + 1))) := by unfold rFin; rw [rThen_t z1, (rTake_t z1).1]
    rw [(rTake_t z1).1] at z2
    replace z2 : AT0 b n T (a + 1) w47 := z2
    obtain ⟨hB1, ha1, c1, c2, c3, c4, c5, c6, c7⟩ := id z2
    have g : ∀ r j, ¬ AS T r j → w47 r j = V r j := f1
    have hne := now_end (b := b) (tS_bd b hB1.2.2.2.2.1.1.1 (a + 1)).2 (tS_bd b hB1.2.2.2.2.1.1.1 (a + 1)).1 hB1.2.2.2.2.1
    refine bX11_act_276 T x2 hd hW (fun _ _ => ⟨fun z => absurd z3 z, fun _ => ?_⟩)
    rw [c3, c1]
    refine ⟨fun z => ?_, fun z => ⟨_, c_fail hW _ _, fun w51 hP => ?_⟩⟩
    · have z' : tK b n (a + 1) = 260 := hne.mp z
      rw [if_pos z'] at e1
      refine l_act2992 hW hd hI e0 he (hf.via f1 (fun _ _ q => q) (fun _ _ q => AcS_AS q)) z2 z3 (hR.fr f1 (fun r j q => by unfold RdS at q; unfold AS; omega)) ⟨rfl, fun i i0 i1 => by rw [g 64 _ (by unfold AS; omega)]; exact hx i i0 i1⟩ ?_ ?_ ⟨by rw [hs, e1], by rw [hs, e1]⟩ ⟨fun q => by have := hle.1 q; omega, fun q => by have := hle.2 q; omega⟩ hQ
      · rw [g 47 22 (by unfold AS; omega)]; exact h22
      · rw [g 47 50 (by unfold AS; omega)]; exact h50
    · have z' : ¬ tK b n (a + 1) = 260 := fun y => z (hne.mpr y)
      rw [if_neg z'] at e1
      obtain rfl := hP
      obtain ⟨f2, ⟨y1, -, -⟩ | ⟨-, y2, y3⟩⟩ := PR.fail (b := b) (n := n) (T := T) (p := tS b n (a + 1)) z3 f1 (AS25 T) (AS26 T)
      · exact Bool.noConfusion y1
      · exact (l_actbad2 hW hd y2 (bad_ _ _ e1 f2 y2 y3)).2.2.2
  · have e1 : rFin b n a = (false, (rTake b n 59 a).2) := by unfold rFin; rw [rThen_f z1]; exact Prod.ext z1 rfl
    exact (l_actbad2 hW hd z2 (bad_ _ _ e1 f1 z2 z3)).2.2.1
set_option maxRecDepth 100000 in
set_option maxHeartbeats 4000000 in
/-- behind the statement's first word -/
theorem l_act2082 {X : XX} {v V : VV} {Q : QQ} {d mc ms : Nat} {b : Int → Int} {n T x2 : Int} (hW : SW X) (hd : 7 ≤ d) (hI : MIa v) (e0 : v 47 0 = T) (he : 0 ≤ v 47 50 ∧ v 47 50 ≤ 1600000000) (hf : Fr (AcS T) v V) (hA : AT0 b n T 1 V) (h25 : V 47 25 = 0) (hk : tK b n 0 = 261 ∨ tK b n 0 = 262 ∨ tK b n 0 = 263) (hsk : V 50 T = sK b n) (hz : V 51 T = 0 ∧ V 54 T = 0 ∧ ∀ f, 0 ≤ f → f < 8 → V 65 (8 * T + f) = 0 ∧ V 66 (8 * T + f) = 0) (hx : ∀ i, 0 ≤ i → i < n → V 64 (400 * T + i) = b i) (h22 : V 47 22 = 0) (h52 : V 47 52 = 0) (h50 : V 47 50 = v 47 50) (hQ : ∀ V, Fr (AcS T) v V → V 47 22 = 0 → V 47 52 = 0 → (v 47 50 ≤ V 47 50 ∧ V 47 50 ≤ v 47 50 + 8000) → ActV2 b n T v V → ∀ o v1, ActF T V o v1 → Q o X v1) : Ex mX11_act d 208 [(2, 47), (0, T), (0, x2)] [] X V mc ms Q := by
  obtain ⟨hB, ha, a1, a2, a3, a4, a5, a6, a7⟩ := id hA
  have hT := hB.2.2.2.1
  have eS : rStmt b n = rThen (rName b n 1) (fun a => rThen (rBody b n a) (rFin b n)) := if_pos hk
  have u1 : AT0 b n T 1 (upd2 V 49 T (V 47 32)) := AT.up hA (by unfold TBs; omega) (by unfold AS; omega)
  have u2 : upd2 V 49 T (V 47 32) 47 25 = 0 := by rw [upd2_n _ (by omega)]; exact h25
  have u3 : Fr (fun r j => r = 49 ∧ j = T) V (upd2 V 49 T (V 47 32)) := Fr.rf.up ⟨rfl, rfl⟩
  have u4 : upd2 V 49 T (V 47 32) 49 T = tW b n 1 := by rw [upd2_s]; exact a5
  refine bX11_act_208 T x2 hd hW (fun _ _ => ⟨⟨hT.1, by omega⟩, fun z => absurd h25 z, fun _ => ?_⟩)
  generalize upd2 V 49 T (V 47 32) = u at *
  have hfu : Fr (AcS T) v u := hf.via u3 (fun _ _ q => q) (fun r j q => by unfold AcS; omega)
  have gu : ∀ r j, ¬ (r = 49 ∧ j = T) → u r j = V r j := u3
  refine ⟨_, c_name (b := b) (n := n) (T := T) (a := 1) hW u1 u2, fun w35 hP => ?_⟩
  obtain ⟨f1, hP⟩ := hP
  have f2 : Fr (AcS T) v w35 := hfu.via f1 (fun _ _ q => q) (fun _ _ q => AcS_AS q)
  have g1 : ∀ r j, ¬ AS T r j → ¬ (r = 49 ∧ j = T) → w35 r j = V r j := fun r j q1 q2 => (f1 r j q1).trans (gu r j q2)
  -- a reading that went wrong behind w35
  have bad_ : ∀ w, (rStmt b n).1 = false → Fr (AcS T) v w → w 47 0 = T → w 47 25 = 1 → w 47 26 = (rStmt b n).2 → w 47 22 = 0 → w 47 52 = 0 → w 47 50 = v 47 50 → Ex mX11_act d 332 [(2, 47), (0, T), (0, x2)] [] X w mc ms Q := fun w z1 z2 z3 z4 z5 z6 z7 z9 =>
    l_act3322 hW hd ⟨hT.1, by omega⟩ (by omega) (hQ w z2 z6 z7 (by omega) (Or.inl ⟨z1, z4, z5⟩))
  rcases hP with ⟨z1, z2, z3⟩ | ⟨z1, z2, z3⟩
  · obtain ⟨e1, e2, e3⟩ := rName_t z1
    rw [e1] at z2
    replace z2 : AT0 b n T (1 + 1) w35 := z2
    rw [show (1 : Int) + 1 = 2 by decide] at z2
    have eS2 : rStmt b n = rThen (rBody b n 2) (rFin b n) := by rw [eS, rThen_t z1, e1]; rfl
    obtain ⟨hB2, ha2, b1, b2, b3, b4, b5, b6, b7⟩ := id z2
    have w49 : w35 49 T = tW b n 1 := (f1 49 T (by unfold AS; omega)).trans u4
    have w50 : w35 50 T = sK b n := (g1 50 T (by unfold AS; omega) (by omega)).trans hsk
    have w51 : w35 51 T = 0 := (g1 51 T (by unfold AS; omega) (by omega)).trans hz.1
    have w54 : w35 54 T = 0 := (g1 54 T (by unfold AS; omega) (by omega)).trans hz.2.1
    have w65 : ∀ f, 0 ≤ f → f < 8 → w35 65 (8 * T + f) = 0 ∧ w35 66 (8 * T + f) = 0 := fun f d0 d1 => by
      rw [g1 65 _ (by unfold AS; omega) (by omega), g1 66 _ (by unfold AS; omega) (by omega)]; exact hz.2.2 f d0 d1
    have w64 : ∀ i, 0 ≤ i → i < n → w35 64 (400 * T + i) = b i := fun i i0 i1 => by rw [g1 64 _ (by unfold AS; omega) (by omega)]; exact hx i i0 i1
    have w22 : w35 47 22 = 0 := (g1 47 22 (by unfold AS; omega) (by omega)).trans h22
    have w52 : w35 47 52 = 0 := (g1 47 52 (by unfold AS; omega) (by omega)).trans h52
    have w5 : w35 47 50 = v 47 50 := (g1 47 50 (by unfold AS; omega) (by omega)).trans h50
    have sel : ¬ sK b n = 0 → Ex mX11_act d 252 [(2, 47), (0, T), (0, x2)] [] X w35 mc ms Q := fun hk0 => by
      have eb : rBody b n 2 = rSelect b n 2 := if_neg (fun h => hk0 (if_pos h))
      rw [eb] at eS2
      refine bX11_act_252 T x2 hd hW (fun _ _ => ⟨fun z => absurd z3 z, fun _ => ⟨_, c_select (b := b) (n := n) (T := T) (a := 2) hW z2 z3 w51 w54, fun w43 hP => ?_⟩⟩)
      obtain ⟨⟨f3, hP3⟩, hS⟩ := hP
      have f4 : Fr (AcS T) v w43 := f2.via f3 (fun _ _ q => q) (fun _ _ q => AcS_SeS q)
      have g3 : ∀ r j, ¬ SeS T r j → w43 r j = w35 r j := f3
      have x22 : w43 47 22 = 0 := (g3 47 22 (by unfold SeS AS; omega)).trans w22
      have x52 : w43 47 52 = 0 := (g3 47 52 (by unfold SeS AS; omega)).trans w52
      have x5 : w43 47 50 = v 47 50 := (g3 47 50 (by unfold SeS AS; omega)).trans w5
      rcases hP3 with ⟨y1, y2, y3⟩ | ⟨y1, y2, y3⟩
      · obtain ⟨C, B, ⟨q1, q2⟩, ⟨s1, s2, s3, s4⟩, s5, s6, s7, s8, s9, s10, s11, uu, s12, s13⟩ := hS y1
        have s66 : ∀ q, (q = 6 ∨ q = 7) → uu 65 (8 * T + q) = 0 ∧ uu 66 (8 * T + q) = 0 := fun q hq => by
          rw [(s12 q hq).1, (s12 q hq).2]; exact w65 q (by omega) (by omega)
        refine l_act2632 hW hd hI e0 he f4 y2 y3 ⟨?_, ?_, Or.inr ⟨hk0, C, B, ⟨⟨q1, q2⟩, s5, s7, s8, s10, s11, y1⟩, s1, s2, s3, s6, s9, ⟨fun h => ?_, fun h => ?_⟩, fun h => ?_⟩⟩ (fun i i0 i1 => by rw [g3 64 _ (by unfold SeS AS; omega)]; exact w64 i i0 i1) x22 x52 x5 (by rw [eS2, rThen_t y1]) ⟨fun q => absurd q hk0, fun _ => rfl⟩ hQ
        · rw [g3 50 T (by unfold SeS AS; omega)]; exact w50
        · rw [g3 49 T (by unfold SeS AS; omega)]; exact w49
        · rw [s13.1 h]; exact ⟨(s66 6 (by omega)).1, (s66 6 (by omega)).2, (s66 7 (by omega)).1, (s66 7 (by omega)).2⟩
        · obtain ⟨t1, t2, t3, t4, t5, t6, t7, t8⟩ := s13.2 h
          exact ⟨t1, t2, t3, t4, t6, t7, t8⟩
        · obtain ⟨t1, t2, t3, t4, t5, t6, t7, t8⟩ := s13.2 h
          exact t5
      · have e9 : rStmt b n = rSelect b n 2 := by rw [eS2, rThen_f y1]
        refine (l_actbad2 hW hd y2 (bad_ w43 (by rw [e9]; exact y1) f4 ?_ y2 (by rw [e9]; exact y3) x22 x52 x5)).2.1
        rw [g3 47 0 (by unfold SeS AS; omega)]; exact hB2.2.2.1
    refine bX11_act_229 T x2 hd hW (fun _ _ => ⟨fun z => absurd z3 z, fun _ => ⟨⟨hT.1, by omega⟩, ?_⟩⟩)
    rw [w50]
    refine ⟨fun g => sel g, fun g => ⟨_, c_source (b := b) (n := n) (T := T) (a := 2) hW z2 z3 w51, fun w39 hP => ?_⟩⟩
    have eb : rBody b n 2 = rSource b n 2 := if_pos (by unfold sK at g; (repeat' split at g) <;> omega)
    rw [eb] at eS2
    obtain ⟨⟨f3, hP3⟩, hS⟩ := hP
    have f4 : Fr (AcS T) v w39 := f2.via f3 (fun _ _ q => q) (fun _ _ q => AcS_SS q)
    have g3 : ∀ r j, ¬ SS T r j → w39 r j = w35 r j := f3
    have x22 : w39 47 22 = 0 := (g3 47 22 (by unfold SS AS; omega)).trans w22
    have x52 : w39 47 52 = 0 := (g3 47 52 (by unfold SS AS; omega)).trans w52
    have x5 : w39 47 50 = v 47 50 := (g3 47 50 (by unfold SS AS; omega)).trans w5
    rcases hP3 with ⟨y1, y2, y3⟩ | ⟨y1, y2, y3⟩
    · obtain ⟨C, s1, s2, s3, s4⟩ := hS y1
      refine l_act2632 hW hd hI e0 he f4 y2 y3 ⟨?_, ?_, Or.inl ⟨g, C, s1, s2, s3, Prod.ext y1 s4, ?_, fun f d0 d1 => ?_⟩⟩ (fun i i0 i1 => by rw [g3 64 _ (by unfold SS AS; omega)]; exact w64 i i0 i1) x22 x52 x5 (by rw [eS2, rThen_t y1]) ⟨fun _ => rfl, fun q => absurd g q⟩ hQ
      · rw [g3 50 T (by unfold SS AS; omega)]; exact w50
      · rw [g3 49 T (by unfold SS AS; omega)]; exact w49
      · rw [g3 54 T (by unfold SS AS; omega)]; exact w54
      · rw [g3 65 _ (by unfold SS AS; omega), g3 66 _ (by unfold SS AS; omega)]; exact w65 f d0 d1
    · have e9 : rStmt b n = rSource b n 2 := by rw [eS2, rThen_f y1]
      refine (l_actbad2 hW hd y2 (bad_ w39 (by rw [e9]; exact y1) f4 ?_ y2 (by rw [e9]; exact y3) x22 x52 x5)).2.1
      rw [g3 47 0 (by unfold SS AS; omega)]; exact hB2.2.2.1
  · have e9 : rStmt b n = rName b n 1 := by rw [eS, rThen_f z1]
    refine (l_actbad2 hW hd z2 (bad_ w35 (by rw [e9]; exact z1) f2 ?_ z2 (by rw [e9]; exact z3) ?_ ?_ ?_)).1
    · rw [g1 47 0 (by unfold AS; omega) (by omega)]; exact hB.2.2.1
    · rw [g1 47 22 (by unfold AS; omega) (by omega)]; exact h22
    · rw [g1 47 52 (by unfold AS; omega) (by omega)]; exact h52
    · rw [g1 47 50 (by unfold AS; omega) (by omega)]; exact h50
set_option maxRecDepth 100000 in
set_option maxHeartbeats 4000000 in
theorem c_act2 {X : XX} {v : VV} {T n : Int} {b : Int → Int} (hW : SW X) (hI : MIa v) (e0 : v 47 0 = T) (eb : b = v 68) (en : v 47 22 = n) (he : 0 ≤ v 47 50 ∧ v 47 50 ≤ 1600000000) : CX mX11_act 7 [(2, 47)] X v (fun o v1 => ActR2 b n T v o v1) := by
  obtain ⟨hb, hM, h52, h51, hX⟩ := id hI
  have hb1 := hb.1
  have hT : 0 ≤ T ∧ T ≤ 16 := by omega
  rw [en, ← eb] at hX
  have hn := hX.1
  refine CX.of (by decide +kernel) rfl rfl rfl (bX11_act_0 (Nat.le_refl _) hW ?_)
  rw [e0, en]
  refine ⟨⟨by omega, by omega⟩, ⟨by omega, by omega⟩, ⟨by omega, by omega⟩, ?_⟩
  have f0 : Fr (AcS T) v (upd2 (upd2 (upd2 (upd2 (upd2 (upd2 (upd2 (upd2 v 47 24 n) 47 22 0) 47 23 0) 47 25 0) 47 26 (-1)) 60 T 0) 51 T 0) 54 T 0) := (((((((Fr.rf.up (by unfold AcS; omega)).up (by unfold AcS; omega)).up (by unfold AcS; omega)).up (by unfold AcS; omega)).up (by unfold AcS; omega)).up (by unfold AcS; omega)).up (by unfold AcS; omega)).up (by unfold AcS; omega)
  have k24 : upd2 (upd2 (upd2 (upd2 (upd2 (upd2 (upd2 (upd2 v 47 24 n) 47 22 0) 47 23 0) 47 25 0) 47 26 (-1)) 60 T 0) 51 T 0) 54 T 0 47 24 = n := by
    rw [upd2_n _ (by omega), upd2_n _ (by omega), upd2_n _ (by omega), upd2_n _ (by omega), upd2_n _ (by omega), upd2_n _ (by omega), upd2_n _ (by omega), upd2_s]
  have k22 : upd2 (upd2 (upd2 (upd2 (upd2 (upd2 (upd2 (upd2 v 47 24 n) 47 22 0) 47 23 0) 47 25 0) 47 26 (-1)) 60 T 0) 51 T 0) 54 T 0 47 22 = 0 := by
    rw [upd2_n _ (by omega), upd2_n _ (by omega), upd2_n _ (by omega), upd2_n _ (by omega), upd2_n _ (by omega), upd2_n _ (by omega), upd2_s]
  have k23 : upd2 (upd2 (upd2 (upd2 (upd2 (upd2 (upd2 (upd2 v 47 24 n) 47 22 0) 47 23 0) 47 25 0) 47 26 (-1)) 60 T 0) 51 T 0) 54 T 0 47 23 = 0 := by
    rw [upd2_n _ (by omega), upd2_n _ (by omega), upd2_n _ (by omega), upd2_n _ (by omega), upd2_n _ (by omega), upd2_s]
  have k25 : upd2 (upd2 (upd2 (upd2 (upd2 (upd2 (upd2 (upd2 v 47 24 n) 47 22 0) 47 23 0) 47 25 0) 47 26 (-1)) 60 T 0) 51 T 0) 54 T 0 47 25 = 0 := by
    rw [upd2_n _ (by omega), upd2_n _ (by omega), upd2_n _ (by omega), upd2_n _ (by omega), upd2_s]
  have k26 : upd2 (upd2 (upd2 (upd2 (upd2 (upd2 (upd2 (upd2 v 47 24 n) 47 22 0) 47 23 0) 47 25 0) 47 26 (-1)) 60 T 0) 51 T 0) 54 T 0 47 26 = -1 := by
    rw [upd2_n _ (by omega), upd2_n _ (by omega), upd2_n _ (by omega), upd2_s]
  have k60 : upd2 (upd2 (upd2 (upd2 (upd2 (upd2 (upd2 (upd2 v 47 24 n) 47 22 0) 47 23 0) 47 25 0) 47 26 (-1)) 60 T 0) 51 T 0) 54 T 0 60 T = 0 := by
    rw [upd2_n _ (by omega), upd2_n _ (by omega), upd2_s]
  have k51 : upd2 (upd2 (upd2 (upd2 (upd2 (upd2 (upd2 (upd2 v 47 24 n) 47 22 0) 47 23 0) 47 25 0) 47 26 (-1)) 60 T 0) 51 T 0) 54 T 0 51 T = 0 := by
    rw [upd2_n _ (by omega), upd2_s]
  have k54 : upd2 (upd2 (upd2 (upd2 (upd2 (upd2 (upd2 (upd2 v 47 24 n) 47 22 0) 47 23 0) 47 25 0) 47 26 (-1)) 60 T 0) 51 T 0) 54 T 0 54 T = 0 := upd2_s _ _ _ _
  have k52 : upd2 (upd2 (upd2 (upd2 (upd2 (upd2 (upd2 (upd2 v 47 24 n) 47 22 0) 47 23 0) 47 25 0) 47 26 (-1)) 60 T 0) 51 T 0) 54 T 0 47 52 = 0 := by
    rw [upd2_n _ (by omega), upd2_n _ (by omega), upd2_n _ (by omega), upd2_n _ (by omega), upd2_n _ (by omega), upd2_n _ (by omega), upd2_n _ (by omega), upd2_n _ (by omega)]; exact h52
  have k50 : upd2 (upd2 (upd2 (upd2 (upd2 (upd2 (upd2 (upd2 v 47 24 n) 47 22 0) 47 23 0) 47 25 0) 47 26 (-1)) 60 T 0) 51 T 0) 54 T 0 47 50 = v 47 50 := by
    rw [upd2_n _ (by omega), upd2_n _ (by omega), upd2_n _ (by omega), upd2_n _ (by omega), upd2_n _ (by omega), upd2_n _ (by omega), upd2_n _ (by omega), upd2_n _ (by omega)]
  generalize upd2 (upd2 (upd2 (upd2 (upd2 (upd2 (upd2 (upd2 v 47 24 n) 47 22 0) 47 23 0) 47 25 0) 47 26 (-1)) 60 T 0) 51 T 0) 54 T 0 = u at *
  have hQ : ∀ V, Fr (AcS T) v V → V 47 22 = 0 → V 47 52 = 0 → (v 47 50 ≤ V 47 50 ∧ V 47 50 ≤ v 47 50 + 8000) → ActV2 b n T v V → ∀ o v1, ActF T V o v1 → (fun o X1 v1 => X1 = X ∧ ActR2 b n T v o v1) o X v1 := fun V z1 z2 z3 z4 z5 o v1 z6 => ⟨rfl, V, z1, z2, z3, z4, z5, z6⟩
  refine l_act56 hW (Nat.le_refl _) ⟨hT.1, by omega⟩ (fun V1 f1 z1 => ?_) 0 u ⟨by omega, by omega⟩ Fr.rf (fun f f0 f1 => by omega)
  have g1 : ∀ r j, ¬ Z56 T r j → V1 r j = u r j := f1
  refine l_act94 hW (Nat.le_refl _) ⟨hT.1, by omega⟩ hn ((g1 47 24 (by unfold Z56; omega)).trans k24) (fun V2 f2 z2 => ?_) 0 V1 ⟨by omega, by omega⟩ Fr.rf (fun i i0 i1 => by omega)
  have g2 : ∀ r j, ¬ (Z56 T r j ∨ Z94 T r j) → V2 r j = u r j := fun r j h => (f2 r j (fun q => h (Or.inr q))).trans (g1 r j (fun q => h (Or.inl q)))
  have fv : Fr (AcS T) v V2 := (f0.via f1 (fun _ _ q => q) (fun r j q => by unfold Z56 at q; unfold AcS; omega)).via f2 (fun _ _ q => q) (fun r j q => by unfold Z94 at q; unfold AcS; omega)
  have gv : ∀ r j, ¬ AcS T r j → V2 r j = v r j := fv
  have v24 : V2 47 24 = n := (g2 47 24 (by unfold Z56 Z94; omega)).trans k24
  have v23 : V2 47 23 = 0 := (g2 47 23 (by unfold Z56 Z94; omega)).trans k23
  have v68 : V2 68 = b := funext fun j => by rw [gv 68 j (by unfold AcS; omega), eb]
  have x64 : ∀ i, 0 ≤ i → i < n → V2 64 (400 * T + i) = b i := fun i i0 i1 => by
    rw [z2 i i0 i1, g1 68 i (by unfold Z56; omega), f0 68 i (by unfold AcS; omega), eb]
  refine bX11_act_94 T n (Nat.le_refl _) hW (fun _ _ => ⟨fun _ => ⟨_, c_next hW (by omega) (by omega) (by omega), fun w3 hP => ?_⟩, fun g => by omega⟩)
  obtain ⟨n1, n2, n3, n4, n5, n6⟩ := hP
  rw [v68, v24, v23, ← tS_0] at n1 n2 n3 n4 n5
  have g3 : ∀ r j, ¬ SN r j → w3 r j = V2 r j := n6
  have f3 : Fr (AcS T) v w3 := fv.via n6 (fun _ _ q => q) (fun r j q => by unfold SN at q; unfold AcS; omega)
  have hB : TBx b n T w3 := ⟨fun j => by rw [g3 68 j (by unfold SN; omega), v68], (g3 47 24 (by unfold SN; omega)).trans v24, by rw [f3 47 0 (by unfold AcS; omega)]; exact e0, hT, hX, hM.fr f3 (fun j j0 j1 => by unfold AcS; omega)⟩
  have w25 : w3 47 25 = 0 := by rw [g3 47 25 (by unfold SN; omega), g2 47 25 (by unfold Z56 Z94; omega)]; exact k25
  have w26 : w3 47 26 = -1 := by rw [g3 47 26 (by unfold SN; omega), g2 47 26 (by unfold Z56 Z94; omega)]; exact k26
  have w60 : w3 60 T = 0 := by rw [g3 60 T (by unfold SN; omega), g2 60 T (by unfold Z56 Z94; omega)]; exact k60
  have w51 : w3 51 T = 0 := by rw [g3 51 T (by unfold SN; omega), g2 51 T (by unfold Z56 Z94; omega)]; exact k51
  have w54 : w3 54 T = 0 := by rw [g3 54 T (by unfold SN; omega), g2 54 T (by unfold Z56 Z94; omega)]; exact k54
  have w22 : w3 47 22 = 0 := by rw [g3 47 22 (by unfold SN; omega), g2 47 22 (by unfold Z56 Z94; omega)]; exact k22
  have w52 : w3 47 52 = 0 := by rw [g3 47 52 (by unfold SN; omega), g2 47 52 (by unfold Z56 Z94; omega)]; exact k52
  have w50 : w3 47 50 = v 47 50 := by rw [g3 47 50 (by unfold SN; omega), g2 47 50 (by unfold Z56 Z94; omega)]; exact k50
  have w65 : ∀ f, 0 ≤ f → f < 8 → w3 65 (8 * T + f) = 0 ∧ w3 66 (8 * T + f) = 0 := fun f d0 d1 => by
    rw [g3 65 _ (by unfold SN; omega), g3 66 _ (by unfold SN; omega), f2 65 _ (by unfold Z94; omega), f2 66 _ (by unfold Z94; omega)]; exact z1 f d0 d1
  have w64 : ∀ i, 0 ≤ i → i < n → w3 64 (400 * T + i) = b i := fun i i0 i1 => by rw [g3 64 _ (by unfold SN; omega)]; exact x64 i i0 i1
  have hA : AT0 b n T 0 w3 := ⟨hB, ⟨Int.le_refl _, by decide, fun _ => w26⟩, n1, n2, n3, n4, n5, w60, fun i i0 i1 => by omega⟩
  have hp := tS_bd b hX.1.1 0
  obtain ⟨kT, kT2⟩ := now_kw (b := b) (cd := 10650290) (kd := 261) hp.2 hp.1 hX (by omega)
  obtain ⟨kV, kV2⟩ := now_kw (b := b) (cd := 439745) (kd := 262) hp.2 hp.1 hX (by omega)
  obtain ⟨kC, kC2⟩ := now_kw (b := b) (cd := 70441) (kd := 263) hp.2 hp.1 hX (by omega)
  obtain ⟨m1, m2, m3, m4, m5, m6, m7⟩ := hB.2.2.2.2.2
  -- a first word that stands
  have good : ∀ (w : VV) (x : Int), w = upd2 w3 50 T x → (tK b n 0 = 261 ∨ tK b n 0 = 262 ∨ tK b n 0 = 263) → x = sK b n → (lE b n (tS b n 0) = tEnd b n (tS b n 0) ∧ ¬ tKind b n (tS b n 0) = 260) → ∃ P : Option AV → VV → Prop, Con mX11_keeps 2 0 0 [(2, 47)] X w (fun o X1 v1 => X1 = X ∧ P o v1) ∧ ∀ w31, P none w31 → Ex mX11_act 7 208 [(2, 47), (0, T), (0, n)] [] X w31 0 0 (fun o X1 v1 => X1 = X ∧ ActR2 b n T v o v1) := by
    intro w x hw hk hx hE
    have u1 : AT0 b n T 0 w := by rw [hw]; exact AT.up hA (by unfold TBs; omega) (by unfold AS; omega)
    have fu : Fr (fun r j => r = 50 ∧ j = T) w3 w := by rw [hw]; exact Fr.rf.up ⟨rfl, rfl⟩
    have u50 : w 50 T = sK b n := by rw [hw, upd2_s]; exact hx
    have gu : ∀ r j, ¬ (r = 50 ∧ j = T) → w r j = w3 r j := fu
    refine ⟨_, c_keeps (b := b) (n := n) (T := T) (a := 0) hW (u1.tEnd hE.1) hE.2, fun w31 hP => ?_⟩
    obtain ⟨p1, ⟨p2, p2'⟩, p3⟩ := hP
    rw [show (0 : Int) + 1 = 1 by decide] at p1
    have gp : ∀ r j, ¬ AS T r j → ¬ (r = 50 ∧ j = T) → w31 r j = w3 r j := fun r j q1 q2 => (p3 r j q1).trans (gu r j q2)
    have fp : Fr (AcS T) v w31 := (f3.via fu (fun _ _ q => q) (fun r j q => by unfold AcS; omega)).via p3 (fun _ _ q => q) (fun _ _ q => AcS_AS q)
    refine l_act2082 hW (Nat.le_refl _) hI e0 he fp p1 ?_ hk ((p3 50 T (by unfold AS; omega)).trans u50) ⟨?_, ?_, fun f d0 d1 => ?_⟩ (fun i i0 i1 => ?_) ?_ ?_ ?_ hQ
    · rw [p2, gu 47 25 (by omega)]; exact w25
    · rw [gp 51 T (by unfold AS; omega) (by omega)]; exact w51
    · rw [gp 54 T (by unfold AS; omega) (by omega)]; exact w54
    · rw [gp 65 _ (by unfold AS; omega) (by omega), gp 66 _ (by unfold AS; omega) (by omega)]; exact w65 f d0 d1
    · rw [gp 64 _ (by unfold AS; omega) (by omega)]; exact w64 i i0 i1
    · rw [gp 47 22 (by unfold AS; omega) (by omega)]; exact w22
    · rw [gp 47 52 (by unfold AS; omega) (by omega)]; exact w52
    · rw [gp 47 50 (by unfold AS; omega) (by omega)]; exact w50
  refine ⟨_, c_isWord hW _, fun r6 w7 hP => ?_⟩
  obtain ⟨rfl, hr⟩ := hP
  obtain rfl : r6 = bI (w7 47 29 = 1 ∧ w7 47 32 = w7 47 35) := by simpa using hr
  refine ⟨fun g6 => ⟨_, c_isWord hW _, fun r10 w11 hP => ?_⟩, fun g6 => ?_⟩
  · obtain ⟨rfl, hr⟩ := hP
    obtain rfl : r10 = bI (w11 47 29 = 1 ∧ w11 47 32 = w11 47 33) := by simpa using hr
    rw [bI_0, n3, n5, m3, kT] at g6
    refine ⟨fun g10 => ⟨_, c_isWord hW _, fun r14 w15 hP => ?_⟩, fun g10 => ?_⟩
    · obtain ⟨rfl, hr⟩ := hP
      obtain rfl : r14 = bI (w15 47 29 = 1 ∧ w15 47 32 = w15 47 34) := by simpa using hr
      rw [bI_0, n3, n5, m1, kV] at g10
      refine ⟨fun g14 => ⟨⟨hT.1, by omega⟩, ⟨hT.1, by omega⟩, _, c_fail hW _ _, fun w19 hP => ?_⟩, fun g14 => ⟨⟨hT.1, by omega⟩, ⟨hT.1, by omega⟩, ?_⟩⟩
      · rw [bI_0, n3, n5, m2, kC] at g14
        have eS : rStmt b n = (false, tS b n 0) := if_neg (fun z => by rcases z with z | z | z; exact g6 z; exact g10 z; exact g14 z)
        have e : w19 = mFail (upd2 w15 50 T (-1)) 1 (w15 47 30) := hP
        have z25 : upd2 w15 50 T (-1) 47 25 = 0 := by rw [upd2_n _ (by omega)]; exact w25
        have e2 : w19 = upd2 (upd2 (upd2 w15 50 T (-1)) 47 25 1) 47 26 (w15 47 30) := by rw [e]; unfold mFail; rw [if_pos z25]
        have f19 : Fr (AcS T) v w19 := by rw [e2]; exact ((f3.up (by unfold AcS; omega)).up (by unfold AcS; omega)).up (by unfold AcS; omega)
        have h25 : w19 47 25 = 1 := by rw [e2, upd2_n _ (by omega), upd2_s]
        have h26 : w19 47 26 = tS b n 0 := by rw [e2, upd2_s]; exact n1
        have gn : ∀ r j, ¬ (r = 50) → ¬ (r = 47 ∧ (j = 25 ∨ j = 26)) → w19 r j = w15 r j := fun r j q1 q2 => by rw [e2, upd2_n _ (by omega), upd2_n _ (by omega), upd2_n _ (by omega)]
        have f19' : Fr (AcS T) v (upd2 w19 49 T (w19 47 32)) := f19.up (by unfold AcS; omega)
        have q25 : upd2 w19 49 T (w19 47 32) 47 25 = 1 := by rw [upd2_n _ (by omega)]; exact h25
        refine bX11_act_208 T n (Nat.le_refl _) hW (fun _ _ => ⟨⟨hT.1, by omega⟩, fun _ => ?_, fun z => by omega⟩)
        refine (l_actbad2 hW (Nat.le_refl _) q25 (l_act3322 hW (Nat.le_refl _) ⟨hT.1, by omega⟩ ?_ (hQ _ f19' ?_ ?_ ?_ (Or.inl ⟨by rw [eS], q25, ?_⟩)))).1
        · rw [upd2_n _ (by omega), gn 47 0 (by omega) (by omega), hB.2.2.1]; exact hT.2
        · rw [upd2_n _ (by omega), gn 47 22 (by omega) (by omega)]; exact w22
        · rw [upd2_n _ (by omega), gn 47 52 (by omega) (by omega)]; exact w52
        · rw [upd2_n _ (by omega), gn 47 50 (by omega) (by omega), w50]; omega
        · rw [upd2_n _ (by omega), h26, eS]
      · rw [bI_n0, n3, n5, m2, kC] at g14
        have hk : tK b n 0 = 263 := g14
        exact good _ 2 rfl (Or.inr (Or.inr hk)) (by unfold sK; rw [if_neg (by omega), if_neg (by omega)]) (kC2 g14)
    · rw [bI_n0, n3, n5, m1, kV] at g10
      have hk : tK b n 0 = 262 := g10
      exact ⟨⟨hT.1, by omega⟩, ⟨hT.1, by omega⟩, good _ 1 rfl (Or.inr (Or.inl hk)) (by unfold sK; rw [if_neg (by omega), if_pos hk]) (kV2 g10)⟩
  · rw [bI_n0, n3, n5, m3, kT] at g6
    have hk : tK b n 0 = 261 := g6
    exact ⟨⟨hT.1, by omega⟩, ⟨hT.1, by omega⟩, good _ 0 rfl (Or.inl hk) (by unfold sK; rw [if_pos hk]) (kT2 g6)⟩

theorem MeR2.one {b : Int → Int} {n : Int} {v v1 : VV} {T C B : Int} {ct fa : Int → Int} {a6 a7 : Int} (h : MeR2 b n v T C B ct fa a6 a7 v1) : MeR b n v T C B ct fa a6 a7 v1 ∧ (v 50 T = 0 → ∀ j, v1 53 j = v 53 j) := by
  obtain ⟨vM, m1, m2, m3, m4, m5, m6, m7, m8, m9⟩ := h
  exact ⟨⟨vM, m1, m2, m3, m4, m5, m6, m7, m8.1, m9⟩, m8.2⟩
theorem MeM2.one {b : Int → Int} {n T : Int} {W V : VV} (h : MeM2 b n W T V) (h50 : W 50 T = sK b n) : MeM b n W T V ∧ (sK b n = 0 → ∀ j, V 53 j = W 53 j) := by
  rcases h with ⟨k, C, c1, hm⟩ | ⟨k, C, B, hp, hm⟩
  · obtain ⟨q1, q2⟩ := hm.one
    exact ⟨Or.inl ⟨k, C, c1, q1⟩, fun z => q2 (by omega)⟩
  · obtain ⟨q1, -⟩ := hm.one
    exact ⟨Or.inr ⟨k, C, B, hp, q1⟩, fun z => absurd z k⟩
theorem ActV2.one {b : Int → Int} {n T : Int} {v V : VV} (h : ActV2 b n T v V) : ActV b n T v V := by
  rcases h with z | ⟨z, W, V', A, fW, hR, hA0, hK, hA, hA2, hM, fV, eV⟩
  · exact Or.inl z
  · exact Or.inr ⟨z, W, V', A, fW, hR, hA0, hK, hA, hA2, (hM.one hR.1).1, fV, eV⟩
