/-! ===== the reference: owners, the ages' users, drop, unused ===== -/
def mOwn (v : VV) : Nat → Int → Int
  | 0, q => v 56 q
  | f + 1, q => if v 56 q = -1 ∧ 0 < v 54 q then mOwn v f (v 55 (3 * q)) else v 56 q
set_option maxRecDepth 100000 in
set_option maxHeartbeats 4000000 in
theorem l_ownerOf {X : XX} {v : VV} {Q : QQ} {d mc ms : Nat} (hW : SW X) (hb : v 47 0 ≤ 16) (hM : MT v) (a1 : Int) (hd : 0 ≤ d) : ∀ (f : Nat) (x2 : Int), (0 ≤ x2 ∧ x2 < v 47 0) → x2.toNat < f → Q (some (0, mOwn v f x2)) X v → Ex mX11_ownerOf d 2 [(2, 47), (0, a1), (0, x2)] [] X v mc ms Q := by
  intro f
  induction f with
  | zero => intro x2 _ h; exact absurd h (Nat.not_lt_zero _)
  | succ f ih =>
    intro x2 hx hf hQ
    obtain ⟨-, -, -, m4, m5, -⟩ := hM x2 hx.1 hx.2
    have h17 : 0 ≤ x2 ∧ x2 < 17 := ⟨hx.1, by omega⟩
    unfold mOwn at hQ
    refine bX11_ownerOf_2 a1 x2 hd hW (fun _ _ => ⟨h17, fun g => ⟨h17, ?_⟩, fun g => ⟨h17, fun g2 => ⟨h17, ?_⟩, fun g2 => ⟨⟨by omega, by omega⟩, ⟨by omega, by omega⟩, ?_⟩⟩⟩)
    · rw [if_neg (by omega)] at hQ; exact hQ
    · rw [if_neg (by omega)] at hQ; exact hQ
    · rw [if_pos (by omega)] at hQ
      obtain ⟨q0, q1, -⟩ := m5 0 (by omega) g2
      rw [Int.add_zero] at q0 q1
      exact ih _ ⟨q0, by omega⟩ (by omega) hQ
set_option maxRecDepth 100000 in
set_option maxHeartbeats 4000000 in
theorem c_ownerOf {X : XX} {v : VV} (hW : SW X) (hb : v 47 0 ≤ 16) (hM : MT v) (a1 : Int) (ha : 0 ≤ a1 ∧ a1 < v 47 0) : CX mX11_ownerOf 0 [(2, 47), (0, a1)] X v (fun o v1 => v1 = v ∧ o = some (0, mOwn v 17 a1)) := by
  refine CX.of (by decide +kernel) rfl rfl rfl (bX11_ownerOf_0 a1 (Nat.le_refl _) hW ?_)
  intro _
  exact l_ownerOf hW hb hM a1 (Nat.le_refl _) 17 a1 ha (by omega) ⟨rfl, rfl, rfl⟩
/-- what table(t, what) answers -/
def tblR (v : VV) (t w : Int) : Int := if w = 0 then v 50 t else if w = 1 then v 51 t else if w = 2 then v 54 t else if w = 3 ∨ w = 4 ∨ w = 5 then (if w - 3 < v 54 t then v 55 (3 * t + (w - 3)) else -1) else if w = 6 then (ag v t).1 else if w = 7 then (ag v t).2 else if w = 8 then mOwn v 17 t else v 57 t
def S78 (r : Int) (_ : Int) : Prop := r = 78 ∨ r = 79
theorem mOwn_congr {v v1 : VV} (h : ∀ r j, ¬ (r = 78 ∨ r = 79) → v1 r j = v r j) : ∀ (f : Nat) (t : Int), mOwn v1 f t = mOwn v f t
  | 0, t => h 56 t (by omega)
  | f + 1, t => by unfold mOwn; rw [h 56 t (by omega), h 54 t (by omega), h 55 _ (by omega), mOwn_congr h f]
theorem MT.keep {v v1 : VV} (h : ∀ r j, ¬ (r = 78 ∨ r = 79) → v1 r j = v r j) (hM : MT v) : MT v1 := by
  intro t h0 h1
  have hm := hM t h0 (by rw [← h 47 0 (by omega)]; exact h1)
  unfold MTt at hm ⊢
  simp only [h 48 _ (by omega), h 50 _ (by omega), h 51 _ (by omega), h 54 _ (by omega), h 55 _ (by omega), h 56 _ (by omega), h 57 _ (by omega), h 58 _ (by omega), h 59 _ (by omega)]
  exact hm
set_option maxRecDepth 100000 in
set_option maxHeartbeats 4000000 in
theorem c_table {X : XX} {v : VV} (hW : SW X) (hb : MB v) (hM : MT v) (a1 a2 : Int) : CX mX11_table 2 [(2, 47), (0, a1), (0, a2)] X v (fun o v1 => Fr S78 v v1 ∧ ((isT v a1 ∧ (0 ≤ a2 ∧ a2 ≤ 9) ∧ o = some (0, tblR v a1 a2)) ∨ (¬ (isT v a1 ∧ (0 ≤ a2 ∧ a2 ≤ 9)) ∧ o = some (0, -1)))) := by
  have hb1 := hb.1
  refine CX.of (by decide +kernel) rfl rfl rfl (bX11_table_0 a1 a2 (Nat.le_refl _) hW ?_)
  intro g1
  have g1a := g1.1
  have g1b := g1.2
  intro g2
  have g2a := g2.1
  have g2b := g2.2
  refine ⟨_, c_isTable hW (by omega) a1, fun r2 w3 hP => ?_⟩
  obtain ⟨rfl, hr⟩ := hP
  obtain rfl : r2 = bI (isT w3 a1) := by simpa using hr
  refine ⟨fun g3 => ?_, fun g4 => ?_⟩
  · rw [bI_0] at g3
    exact ⟨rfl, fun _ _ _ => rfl, Or.inr ⟨fun q => by first | exact absurd q.1 (by assumption) | (have q2 := q.2; omega), rfl⟩⟩
  · rw [bI_n0] at g4
    have hT := g4
    have h17 : 0 ≤ a1 ∧ a1 < 17 := ⟨hT.1, by have := hT.2.1; omega⟩
    refine ⟨fun g5 => ?_, fun g6 => ?_⟩
    · exact ⟨rfl, fun _ _ _ => rfl, Or.inr ⟨fun q => by first | exact absurd q.1 (by assumption) | (have q2 := q.2; omega), rfl⟩⟩
    · refine ⟨fun g7 => ?_, fun g8 => ?_⟩
      · refine ⟨_, c_ages hW hb hM, fun w7 hP => ?_⟩
        refine ⟨fun g9 => ?_, fun g10 => ?_, fun g11 => ?_, fun g12 => ?_, fun g13 => ?_, fun g14 => ?_, fun g15 => ?_, fun g16 => ?_, fun g17 => ?_, fun g18 => ?_⟩
        · refine ⟨h17, ?_⟩
          refine ⟨rfl, hP.2, Or.inl ⟨hT, by omega, ?_⟩⟩
          rw [hP.2 50 _ (by omega)]; unfold tblR; rw [if_pos (by omega)]
        · refine ⟨h17, ?_⟩
          refine ⟨rfl, hP.2, Or.inl ⟨hT, by omega, ?_⟩⟩
          rw [hP.2 51 _ (by omega)]; unfold tblR; rw [if_neg (by omega), if_pos (by omega)]
        · refine ⟨h17, ?_⟩
          refine ⟨rfl, hP.2, Or.inl ⟨hT, by omega, ?_⟩⟩
          rw [hP.2 54 _ (by omega)]; unfold tblR; rw [if_neg (by omega), if_neg (by omega), if_pos (by omega)]
        · refine bX11_table_97 a1 a2 (Nat.le_refl _) hW (fun _ _ => ⟨⟨by omega, by omega⟩, h17, fun g => ⟨rfl, hP.2, Or.inl ⟨hT, by omega, ?_⟩⟩, fun g => ⟨⟨by omega, by omega⟩, fun _ => ⟨by omega, by omega⟩, fun _ => ⟨by omega, by omega⟩, ⟨by omega, by omega⟩, rfl, hP.2, Or.inl ⟨hT, by omega, ?_⟩⟩⟩)
          · rw [hP.2 54 _ (by omega)] at g; unfold tblR; congr 2; rw [if_neg (by omega), if_neg (by omega), if_neg (by omega), if_pos (by omega), if_neg (by omega)]
          · rw [hP.2 54 _ (by omega)] at g; rw [hP.2 55 _ (by omega)]; unfold tblR; congr 2; rw [if_neg (by omega), if_neg (by omega), if_neg (by omega), if_pos (by omega), if_pos (by omega)]; congr 1; omega
        · refine bX11_table_97 a1 a2 (Nat.le_refl _) hW (fun _ _ => ⟨⟨by omega, by omega⟩, h17, fun g => ⟨rfl, hP.2, Or.inl ⟨hT, by omega, ?_⟩⟩, fun g => ⟨⟨by omega, by omega⟩, fun _ => ⟨by omega, by omega⟩, fun _ => ⟨by omega, by omega⟩, ⟨by omega, by omega⟩, rfl, hP.2, Or.inl ⟨hT, by omega, ?_⟩⟩⟩)
          · rw [hP.2 54 _ (by omega)] at g; unfold tblR; congr 2; rw [if_neg (by omega), if_neg (by omega), if_neg (by omega), if_pos (by omega), if_neg (by omega)]
          · rw [hP.2 54 _ (by omega)] at g; rw [hP.2 55 _ (by omega)]; unfold tblR; congr 2; rw [if_neg (by omega), if_neg (by omega), if_neg (by omega), if_pos (by omega), if_pos (by omega)]; congr 1; omega
        · refine bX11_table_97 a1 a2 (Nat.le_refl _) hW (fun _ _ => ⟨⟨by omega, by omega⟩, h17, fun g => ⟨rfl, hP.2, Or.inl ⟨hT, by omega, ?_⟩⟩, fun g => ⟨⟨by omega, by omega⟩, fun _ => ⟨by omega, by omega⟩, fun _ => ⟨by omega, by omega⟩, ⟨by omega, by omega⟩, rfl, hP.2, Or.inl ⟨hT, by omega, ?_⟩⟩⟩)
          · rw [hP.2 54 _ (by omega)] at g; unfold tblR; congr 2; rw [if_neg (by omega), if_neg (by omega), if_neg (by omega), if_pos (by omega), if_neg (by omega)]
          · rw [hP.2 54 _ (by omega)] at g; rw [hP.2 55 _ (by omega)]; unfold tblR; congr 2; rw [if_neg (by omega), if_neg (by omega), if_neg (by omega), if_pos (by omega), if_pos (by omega)]; congr 1; omega
        · refine ⟨h17, ?_⟩
          refine ⟨rfl, hP.2, Or.inl ⟨hT, by omega, ?_⟩⟩
          rw [(hP.1 _ hT.1 hT.2.1).1]; unfold tblR; rw [if_neg (by omega), if_neg (by omega), if_neg (by omega), if_neg (by omega), if_pos (by omega)]
        · refine ⟨h17, ?_⟩
          refine ⟨rfl, hP.2, Or.inl ⟨hT, by omega, ?_⟩⟩
          rw [(hP.1 _ hT.1 hT.2.1).2]; unfold tblR; rw [if_neg (by omega), if_neg (by omega), if_neg (by omega), if_neg (by omega), if_neg (by omega), if_pos (by omega)]
        · refine ⟨_, c_ownerOf hW (by rw [hP.2 47 0 (by omega)]; omega) (hM.keep hP.2) a1 ⟨hT.1, by rw [hP.2 47 0 (by omega)]; exact hT.2.1⟩, fun r10 w11 hPx => ?_⟩
          obtain ⟨rfl, hr⟩ := hPx
          obtain rfl : r10 = mOwn w11 17 a1 := by simpa using hr
          refine ⟨rfl, hP.2, Or.inl ⟨hT, by omega, ?_⟩⟩
          rw [mOwn_congr hP.2]; unfold tblR; rw [if_neg (by omega), if_neg (by omega), if_neg (by omega), if_neg (by omega), if_neg (by omega), if_neg (by omega), if_pos (by omega)]
        · refine ⟨h17, ?_⟩
          refine ⟨rfl, hP.2, Or.inl ⟨hT, by omega, ?_⟩⟩
          rw [hP.2 57 _ (by omega)]; unfold tblR; rw [if_neg (by omega), if_neg (by omega), if_neg (by omega), if_neg (by omega), if_neg (by omega), if_neg (by omega), if_neg (by omega)]
      · exact ⟨rfl, fun _ _ _ => rfl, Or.inr ⟨fun q => by first | exact absurd q.1 (by assumption) | (have q2 := q.2; omega), rfl⟩⟩
set_option maxRecDepth 100000 in
set_option maxHeartbeats 4000000 in
theorem c_run {X : XX} {v : VV} (hW : SW X) (hb : MB v) (hM : MT v) (a1 : Int) : CX mX11_run 2 [(2, 47), (0, a1)] X v (fun o v1 => (isT v a1 ∧ v 50 a1 = 2 ∧ ¬ (agB v (ag v) a1).2 = -1 ∧ Fr S78 (upd2 (upd2 v 58 a1 (agB v (ag v) a1).1) 59 a1 (agB v (ag v) a1).2) v1 ∧ o = some (0, 1)) ∨ (¬ (isT v a1 ∧ v 50 a1 = 2 ∧ ¬ (agB v (ag v) a1).2 = -1) ∧ Fr S78 v v1 ∧ o = some (0, 0))) := by
  have hb1 := hb.1
  refine CX.of (by decide +kernel) rfl rfl rfl (bX11_run_0 a1 (Nat.le_refl _) hW ?_)
  intro g1
  have g1a := g1.1
  have g1b := g1.2
  refine ⟨_, c_isTable hW (by omega) a1, fun r2 w3 hP => ?_⟩
  obtain ⟨rfl, hr⟩ := hP
  obtain rfl : r2 = bI (isT w3 a1) := by simpa using hr
  refine ⟨fun g2 => ?_, fun g3 => ?_⟩
  · rw [bI_0] at g2
    exact ⟨rfl, Or.inr ⟨fun q => by first | exact absurd q.1 (by assumption) | exact absurd q.2.1 (by assumption), Fr.rf, rfl⟩⟩
  · rw [bI_n0] at g3
    have hT := g3
    have h17 : 0 ≤ a1 ∧ a1 < 17 := ⟨hT.1, by have := hT.2.1; omega⟩
    obtain ⟨-, -, -, m4, m5, -⟩ := hM a1 hT.1 hT.2.1
    have hT2 := hT.2.1
    refine ⟨h17, ?_⟩
    refine ⟨fun g4 => ?_, fun g5 => ?_⟩
    · refine ⟨_, c_ages hW hb hM, fun w7 hP => ?_⟩
      have hA := hP
      refine ⟨_, c_agesBehind hW a1 h17 (by rw [hA.2 54 _ (by omega)]; exact m4) (fun k k0 k1 => by rw [hA.2 54 _ (by omega)] at k1; rw [hA.2 55 _ (by omega)]; obtain ⟨q0, q1, -⟩ := m5 k k0 k1; exact ⟨q0, by omega, by omega⟩), fun w11 hP => ?_⟩
      have hE : agB w7 (fun q => (w7 78 q, w7 79 q)) a1 = agB w3 (ag w3) a1 := agB_congr (by omega) (hA.2 54 _ (by omega)) (fun k _ _ => hA.2 55 _ (by omega)) (fun k k0 k1 => by
          obtain ⟨q0, q1, -⟩ := m5 k k0 k1
          have h9 := hA.1 _ q0 (by omega)
          show (w7 78 _, w7 79 _) = ag w3 _
          rw [h9.1, h9.2])
      rw [hE] at hP
      have hF : Fr S78 w3 w11 := fun r j h => by rw [hP.2.2 r j (by unfold S78 at h; omega) (by unfold S78 at h; omega)]; exact hA.2 r j h
      refine ⟨h17, ?_⟩
      refine ⟨fun g6 => ?_, fun g7 => ?_⟩
      · refine ⟨h17, ?_⟩
        refine ⟨h17, ?_⟩
        refine ⟨h17, ?_⟩
        refine ⟨h17, ?_⟩
        rw [hP.1, hP.2.1]
        refine ⟨rfl, Or.inl ⟨hT, by assumption, by rw [← hP.2.1]; assumption, ?_, rfl⟩⟩
        intro r j h
        unfold upd2
        split
        · rfl
        · split
          · rfl
          · exact hF r j h
      · exact ⟨rfl, Or.inr ⟨fun q => q.2.2 (by rw [← hP.2.1]; assumption), hF, rfl⟩⟩
    · exact ⟨rfl, Or.inr ⟨fun q => by first | exact absurd q.1 (by assumption) | exact absurd q.2.1 (by assumption), Fr.rf, rfl⟩⟩
