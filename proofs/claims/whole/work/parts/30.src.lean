/-! ===== a source ===== -/
def tW (b : Int → Int) (n a : Int) : Int := lWord b n (tS b n a)
def typ (w : Int) : Int := if w = 14 then 110 else if w = 20 then 116 else 100
def rType (b : Int → Int) (n a : Int) : Bool × Int := if tK b n a = 256 ∧ (tW b n a = 14 ∨ tW b n a = 20 ∨ tW b n a = 4) then (true, a + 1) else (false, tS b n a)
def rCols (b : Int → Int) (n : Int) : Nat → Int → Bool × Int
  | 0, a => (false, tS b n a)
  | m + 1, a => rThen (rName b n a) (fun a => rThen (rType b n a) (fun a => if tK b n a = 44 then rCols b n m (a + 1) else rTake b n 41 a))
def rSource (b : Int → Int) (n a : Int) : Bool × Int := rThen (rTake b n 40 a) (rCols b n 6)
theorem now_type {b : Int → Int} {n p : Int} (h : p ≤ n) (h0 : 0 ≤ p) (hT : TX b n) : ((lNow b n p = 1 ∧ (lWord b n p = 14 ∨ lWord b n p = 20 ∨ lWord b n p = 4)) ↔ (tKind b n p = 256 ∧ (lWord b n p = 14 ∨ lWord b n p = 20 ∨ lWord b n p = 4))) ∧ (tKind b n p = 256 → lE b n p = tEnd b n p) := by
  rcases tcase b h with q | q | q | q | q
  · obtain ⟨q1, q2, q3, q4, q5, q6, q7⟩ := q; omega
  · obtain ⟨q1, q2, q3, q4, q5, q6⟩ := q
    have := wKind_cases (lWord b n p); omega
  · obtain ⟨q1, q2, q3, q4, q5, q6⟩ := q; omega
  · obtain ⟨q1, q2, q3, q4, q5, q6, q7⟩ := q; omega
  · obtain ⟨q1, q2, q3, q4, q5, q6, q7⟩ := q
    have := hT.2 p h0 q1
    omega
def SS (T r j : Int) : Prop := AS T r j ∨ (r = 51 ∧ j = T) ∨ ((r = 52 ∨ r = 53) ∧ 8 * T ≤ j ∧ j < 8 * T + 8)
theorem SS_AS {T r j : Int} (h : AS T r j) : SS T r j := Or.inl h
def SrcOK (b : Int → Int) (n T a0 C : Int) (v : VV) : Prop := ∀ c, 0 ≤ c → c < C → v 52 (8 * T + c) = tW b n (a0 + 3 * c) ∧ v 53 (8 * T + c) = typ (tW b n (a0 + 3 * c + 1)) ∧ tK b n (a0 + 3 * c) = 256 ∧ tL b n (a0 + 3 * c) ≤ 8
theorem SrcOK.fr {b : Int → Int} {n T a0 C : Int} {v v1 : VV} (h : SrcOK b n T a0 C v) (hC : C ≤ 6) (hf : Fr (AS T) v v1) : SrcOK b n T a0 C v1 := fun c c0 c1 => by
  obtain ⟨h1, h2, h3⟩ := h c c0 c1
  exact ⟨(hf _ _ (by unfold AS; omega)).trans h1, (hf _ _ (by unfold AS; omega)).trans h2, h3⟩
theorem rName_t {b : Int → Int} {n a : Int} (h : (rName b n a).1 = true) : rName b n a = (true, a + 1) ∧ tK b n a = 256 ∧ tL b n a ≤ 8 := by
  unfold rName at h ⊢
  by_cases h1 : tK b n a = 256
  · rw [if_pos h1] at h ⊢
    by_cases h2 : tL b n a ≤ 8
    · rw [if_pos h2]; exact ⟨rfl, h1, h2⟩
    · rw [if_neg h2] at h; exact Bool.noConfusion h
  · rw [if_neg h1] at h; exact Bool.noConfusion h
theorem rTake_t {b : Int → Int} {n s a : Int} (h : (rTake b n s a).1 = true) : rTake b n s a = (true, a + 1) ∧ tK b n a = s := by
  unfold rTake at h ⊢
  by_cases h1 : tK b n a = s
  · rw [if_pos h1]; exact ⟨rfl, h1⟩
  · rw [if_neg h1] at h; exact Bool.noConfusion h
set_option maxRecDepth 100000 in
set_option maxHeartbeats 4000000 in
theorem l_sbad {X : XX} {V : VV} {Q : QQ} {d mc ms : Nat} (hW : SW X) (hd : 4 ≤ d) (x1 : Int) (h25 : V 47 25 = 1) (hQ : Q none X V) : Ex mX11_source d 83 [(2, 47), (0, x1)] [] X V mc ms Q ∧ Ex mX11_source d 140 [(2, 47), (0, x1)] [] X V mc ms Q ∧ Ex mX11_source d 46 [(2, 47), (0, x1)] [] X V mc ms Q := by
  have l140 : Ex mX11_source d 140 [(2, 47), (0, x1)] [] X V mc ms Q := bX11_source_140 x1 hd hW (fun _ => ⟨fun g => by omega, fun _ => hQ⟩)
  have l83 : Ex mX11_source d 83 [(2, 47), (0, x1)] [] X V mc ms Q := bX11_source_83 x1 hd hW (fun _ => ⟨fun _ => l140, fun g => by omega⟩)
  exact ⟨l83, l140, bX11_source_46 x1 hd hW (fun _ => ⟨fun _ => l83, fun g => by omega⟩)⟩
set_option maxRecDepth 100000 in
set_option maxHeartbeats 4000000 in
theorem l_src {X : XX} {v : VV} {Q : QQ} {d mc ms : Nat} {b : Int → Int} {n T a0 : Int} (hW : SW X) (hd : 4 ≤ d) : ∀ (m : Nat) (a : Int) (V : VV), m ≤ 6 → a = a0 + 3 * (6 - (m : Int)) → V 51 T = 6 - (m : Int) → AT0 b n T a V → V 47 25 = 0 → Fr (SS T) v V → SrcOK b n T a0 (6 - (m : Int)) V → ((rCols b n m a).1 = false → ∀ V', Fr (SS T) v V' → V' 47 25 = 1 → V' 47 26 = (rCols b n m a).2 → Q none X V') → ((rCols b n m a).1 = true → ∀ C V', AT0 b n T (rCols b n m a).2 V' → V' 47 25 = 0 → Fr (SS T) v V' → V' 51 T = C → (1 ≤ C ∧ C ≤ 6) → SrcOK b n T a0 C V' → (rCols b n m a).2 = a0 + 3 * C → Q none X V') → Ex mX11_source d 19 [(2, 47), (0, 1)] [] X V mc ms Q := by
  intro m
  induction m with
  | zero =>
    intro a V _ hae h51 hA h25 hFr hS hF hT
    obtain ⟨hB, ha, a1, a2, a3, a4, a5, a6, a7⟩ := id hA
    have hT2 := hB.2.2.2.1
    refine bX11_source_19 1 hd hW (fun _ => ⟨fun g => absurd g (by decide), fun _ => ?_⟩)
    rw [hB.2.2.1]
    refine ⟨⟨by omega, by omega⟩, fun g => absurd h51 g, fun _ => ⟨_, c_fail hW _ _, fun w11 hP => ?_⟩⟩
    obtain rfl := hP
    obtain ⟨f1, ⟨z, -, -⟩ | ⟨-, z1, z2⟩⟩ := PR.fail (b := b) (n := n) (T := T) (p := V 47 30) h25 hFr (Or.inl (AS25 T)) (Or.inl (AS26 T))
    · exact Bool.noConfusion z
    · exact (l_sbad hW hd 1 z1 (hF rfl _ f1 z1 (z2.trans a1))).2.2
  | succ m ih =>
    intro a V hm hae h51 hA h25 hFr hS hF hT
    obtain ⟨hB, ha, a1, a2, a3, a4, a5, a6, a7⟩ := id hA
    have hT2 := hB.2.2.2.1
    obtain ⟨c, hc⟩ : ∃ c : Int, c = 6 - ((m + 1 : Nat) : Int) := ⟨_, rfl⟩
    rw [← hc] at h51 hS hae
    have ec : rCols b n (m + 1) a = rThen (rName b n a) (fun a => rThen (rType b n a) (fun a => if tK b n a = 44 then rCols b n m (a + 1) else rTake b n 41 a)) := rfl
    rw [ec] at hF hT
    refine bX11_source_19 1 hd hW (fun _ => ⟨fun g => absurd g (by decide), fun _ => ?_⟩)
    rw [hB.2.2.1, h51]
    refine ⟨⟨by omega, by omega⟩, fun _ => ?_, fun g => by omega⟩
    refine bX11_source_46 1 hd hW (fun _ => ⟨fun g => absurd h25 g, fun _ => ?_⟩)
    rw [hB.2.2.1, h51, a5]
    refine ⟨fun _ => ⟨by omega, by omega⟩, ⟨by omega, by omega⟩, fun _ _ => ⟨by omega, by omega⟩, ⟨by omega, by omega⟩, ?_⟩
    have u1 : AT0 b n T a (upd2 V 52 (8 * T + c) (lWord b n (tS b n a))) := AT.up hA (by unfold TBs; omega) (by unfold AS; omega)
    have u2 : upd2 V 52 (8 * T + c) (lWord b n (tS b n a)) 47 25 = 0 := by rw [upd2_n _ (by omega)]; exact h25
    have u3 : Fr (SS T) v (upd2 V 52 (8 * T + c) (lWord b n (tS b n a))) := hFr.up (by unfold SS; omega)
    have u4 : upd2 V 52 (8 * T + c) (lWord b n (tS b n a)) 51 T = c := by rw [upd2_n _ (by omega)]; exact h51
    have u5 : upd2 V 52 (8 * T + c) (lWord b n (tS b n a)) 52 (8 * T + c) = tW b n a := upd2_s _ _ _ _
    have u6 : SrcOK b n T a0 c (upd2 V 52 (8 * T + c) (lWord b n (tS b n a))) := fun k k0 k1 => by
      rw [upd2_n _ (by omega), upd2_n _ (by omega)]; exact hS k k0 k1
    generalize upd2 V 52 (8 * T + c) (lWord b n (tS b n a)) = u at *
    refine ⟨_, c_name (b := b) (n := n) (T := T) (a := a) hW u1 u2, fun w15 hP => ?_⟩
    obtain ⟨f1, ⟨z1, z2, z3⟩ | ⟨z1, z2, z3⟩⟩ := hP
    rotate_left
    · rw [rThen_f z1] at hF
      exact (l_sbad hW hd 1 z2 (hF z1 _ (u3.via f1 (fun _ _ q => q) (fun _ _ q => SS_AS q)) z2 z3)).1
    obtain ⟨e1, e2, e3⟩ := rName_t z1
    rw [e1] at z2
    rw [rThen_t z1, e1] at hF hT
    replace z2 : AT0 b n T (a + 1) w15 := z2
    obtain ⟨hB2, hb, b1, b2, b3, b4, b5, b6, b7⟩ := id z2
    have f2 : Fr (SS T) v w15 := u3.via f1 (fun _ _ q => q) (fun _ _ q => SS_AS q)
    have hS2 : SrcOK b n T a0 c w15 := u6.fr (by omega) f1
    have k51 : w15 51 T = c := (f1 51 T (by unfold AS; omega)).trans u4
    have k52 : w15 52 (8 * T + c) = tW b n a := (f1 52 _ (by unfold AS; omega)).trans u5
    have hp := tS_bd b hB2.2.2.2.2.1.1.1 (a + 1)
    obtain ⟨t1, t2⟩ := now_type (b := b) hp.2 hp.1 hB2.2.2.2.2.1
    have bad131 : ¬ (tK b n (a + 1) = 256 ∧ (tW b n (a + 1) = 14 ∨ tW b n (a + 1) = 20 ∨ tW b n (a + 1) = 4)) → Ex mX11_source d 131 [(2, 47), (0, 1)] [] X w15 mc ms Q := fun hno => by
      have e : rType b n (a + 1) = (false, tS b n (a + 1)) := if_neg hno
      have e' : rThen (rType b n (a + 1)) (fun a => if tK b n a = 44 then rCols b n m (a + 1) else rTake b n 41 a) = (false, tS b n (a + 1)) := by rw [e]; rfl
      refine bX11_source_131 1 hd hW (fun _ => ⟨_, c_fail hW _ _, fun w22 hP => ?_⟩)
      obtain rfl := hP
      obtain ⟨f3, ⟨z, -, -⟩ | ⟨-, y1, y2⟩⟩ := PR.fail (b := b) (n := n) (T := T) (p := w15 47 30) z3 f2 (Or.inl (AS25 T)) (Or.inl (AS26 T))
      · exact Bool.noConfusion z
      · refine (l_sbad hW hd 1 y1 (hF ?_ _ f3 y1 ?_)).2.1
        · show (rThen (rType b n (a + 1)) _).1 = false
          rw [e']
        · show _ = (rThen (rType b n (a + 1)) (fun a => if tK b n a = 44 then rCols b n m (a + 1) else rTake b n 41 a)).2
          rw [e']; exact y2.trans b1
    have good140 : (tK b n (a + 1) = 256 ∧ (tW b n (a + 1) = 14 ∨ tW b n (a + 1) = 20 ∨ tW b n (a + 1) = 4)) → Ex mX11_source d 140 [(2, 47), (0, 1)] [] X w15 mc ms Q := fun hyes => by
      have e : rType b n (a + 1) = (true, a + 1 + 1) := if_pos hyes
      have e' : rThen (rType b n (a + 1)) (fun a => if tK b n a = 44 then rCols b n m (a + 1) else rTake b n 41 a) = if tK b n (a + 1 + 1) = 44 then rCols b n m (a + 1 + 1 + 1) else rTake b n 41 (a + 1 + 1) := by rw [e]; rfl
      replace hF : (rThen (rType b n (a + 1)) (fun a => if tK b n a = 44 then rCols b n m (a + 1) else rTake b n 41 a)).1 = false → ∀ V', Fr (SS T) v V' → V' 47 25 = 1 → V' 47 26 = (rThen (rType b n (a + 1)) (fun a => if tK b n a = 44 then rCols b n m (a + 1) else rTake b n 41 a)).2 → Q none X V' := hF
      replace hT : (rThen (rType b n (a + 1)) (fun a => if tK b n a = 44 then rCols b n m (a + 1) else rTake b n 41 a)).1 = true → ∀ C V', AT0 b n T (rThen (rType b n (a + 1)) (fun a => if tK b n a = 44 then rCols b n m (a + 1) else rTake b n 41 a)).2 V' → V' 47 25 = 0 → Fr (SS T) v V' → V' 51 T = C → (1 ≤ C ∧ C ≤ 6) → SrcOK b n T a0 C V' → (rThen (rType b n (a + 1)) (fun a => if tK b n a = 44 then rCols b n m (a + 1) else rTake b n 41 a)).2 = a0 + 3 * C → Q none X V' := hT
      rw [e'] at hF hT
      have fin : ∀ ty, ty = typ (tW b n (a + 1)) → ∃ P : Option AV → VV → Prop, CX mX11_keeps 2 [(2, 47)] X (upd2 (upd2 w15 53 (8 * T + c) ty) 51 T (c + 1)) P ∧ ∀ w28, P none w28 → ((¬ w28 47 29 = 44 → Ex mX11_source d 19 [(2, 47), (0, 0)] [] X w28 mc ms Q) ∧ (w28 47 29 = 44 → ∃ P30 : Option AV → VV → Prop, CX mX11_keeps 2 [(2, 47)] X w28 P30 ∧ ∀ w32, P30 none w32 → Ex mX11_source d 19 [(2, 47), (0, 1)] [] X w32 mc ms Q)) := fun ty hty => by
        have y1 : AT0 b n T (a + 1) (upd2 (upd2 w15 53 (8 * T + c) ty) 51 T (c + 1)) := AT.up (AT.up z2 (by unfold TBs; omega) (by unfold AS; omega)) (by unfold TBs; omega) (by unfold AS; omega)
        have y2 : upd2 (upd2 w15 53 (8 * T + c) ty) 51 T (c + 1) 47 25 = 0 := by rw [upd2_n _ (by omega), upd2_n _ (by omega)]; exact z3
        have y3 : Fr (SS T) v (upd2 (upd2 w15 53 (8 * T + c) ty) 51 T (c + 1)) := (f2.up (by unfold SS; omega)).up (by unfold SS; omega)
        have y4 : upd2 (upd2 w15 53 (8 * T + c) ty) 51 T (c + 1) 51 T = c + 1 := upd2_s _ _ _ _
        have y6 : SrcOK b n T a0 (c + 1) (upd2 (upd2 w15 53 (8 * T + c) ty) 51 T (c + 1)) := fun k k0 k1 => by
          by_cases hk : k = c
          · subst hk
            rw [upd2_n _ (by omega), upd2_n _ (by omega), upd2_n _ (by omega), upd2_s, ← hae]
            exact ⟨k52, hty, e2, e3⟩
          · rw [upd2_n _ (by omega), upd2_n _ (by omega), upd2_n _ (by omega), upd2_n _ (by omega)]; exact hS2 k k0 (by omega)
        generalize upd2 (upd2 w15 53 (8 * T + c) ty) 51 T (c + 1) = y at *
        refine ⟨_, c_keeps (b := b) (n := n) (T := T) (a := a + 1) hW (y1.tEnd (t2 hyes.1)) (by have := hyes.1; omega), fun w28 hP => ?_⟩
        obtain ⟨x1, ⟨x2, -⟩, x3⟩ := hP
        have x4 : Fr (SS T) v w28 := y3.via x3 (fun _ _ q => q) (fun _ _ q => SS_AS q)
        have x5 : SrcOK b n T a0 (c + 1) w28 := y6.fr (by omega) x3
        have x6 : w28 51 T = c + 1 := (x3 51 T (by unfold AS; omega)).trans y4
        obtain ⟨hB3, hc3, d1, d2, d3, d4, d5, d6, d7⟩ := id x1
        obtain ⟨s1, s2⟩ := now_sign (b := b) (tS_bd b hB3.2.2.2.2.1.1.1 (a + 1 + 1)).2 (s := 44) (by unfold sgB; omega)
        rw [d3]
        refine ⟨fun g => ?_, fun g => ?_⟩
        · have g2 : ¬ tK b n (a + 1 + 1) = 44 := fun z => g (s1.mpr z)
          rw [if_neg g2] at hF hT
          refine bX11_source_19 0 hd hW (fun _ => ⟨fun _ => ⟨_, c_sign (b := b) (n := n) (T := T) hW x1 (x2.trans y2) 41 (by unfold sgB; omega), fun w7 hP => ?_⟩, fun g => absurd rfl g⟩)
          obtain ⟨f5, ⟨v1, v2, v3⟩ | ⟨v1, v2, v3⟩⟩ := hP
          · refine hT v1 (c + 1) w7 v2 v3 (x4.via f5 (fun _ _ q => q) (fun _ _ q => SS_AS q)) ((f5 51 T (by unfold AS; omega)).trans x6) ⟨by omega, by omega⟩ (x5.fr (by omega) f5) ?_
            rw [(rTake_t v1).1]
            show a + 1 + 1 + 1 = _
            omega
          · exact hF v1 w7 (x4.via f5 (fun _ _ q => q) (fun _ _ q => SS_AS q)) v2 v3
        · have g2 : tK b n (a + 1 + 1) = 44 := s1.mp g
          rw [if_pos g2] at hF hT
          refine ⟨_, c_keeps (b := b) (n := n) (T := T) (a := a + 1 + 1) hW (x1.tEnd (s2 g2).1) (s2 g2).2, fun w32 hP => ?_⟩
          obtain ⟨o1, ⟨o2, -⟩, o3⟩ := hP
          have ecm : (6 : Int) - (m : Int) = c + 1 := by omega
          exact ih _ w32 (by omega) (by omega) (by rw [ecm]; exact (o3 51 T (by unfold AS; omega)).trans x6) o1 (o2.trans (x2.trans y2)) (x4.via o3 (fun _ _ q => q) (fun _ _ q => SS_AS q)) (by rw [ecm]; exact x5.fr (by omega) o3) hF hT
      refine bX11_source_140 1 hd hW (fun _ => ⟨fun _ => ?_, fun g => absurd z3 g⟩)
      rw [hB2.2.2.1, k51, b5]
      have hw : lWord b n (tS b n (a + 1)) = tW b n (a + 1) := rfl
      rw [hw]
      refine ⟨fun _ => ⟨by omega, by omega⟩, ⟨by omega, by omega⟩, fun _ _ => ⟨by omega, by omega⟩, fun g1 => ⟨fun g2 => ⟨⟨by omega, by omega⟩, ⟨by omega, by omega⟩, fun _ => ⟨by omega, by omega⟩, ⟨by omega, by omega⟩, fin _ (by unfold typ; rw [if_neg g1, if_neg g2])⟩, fun g2 => ⟨⟨by omega, by omega⟩, ⟨by omega, by omega⟩, fun _ => ⟨by omega, by omega⟩, ⟨by omega, by omega⟩, fin _ (by unfold typ; rw [if_neg g1, if_pos g2])⟩⟩, fun g1 => ⟨⟨by omega, by omega⟩, ⟨by omega, by omega⟩, fun _ => ⟨by omega, by omega⟩, ⟨by omega, by omega⟩, fin _ (by unfold typ; rw [if_pos g1])⟩⟩
    refine bX11_source_83 1 hd hW (fun _ => ⟨fun g => absurd z3 g, fun _ => ?_⟩)
    rw [b3, b5]
    have hno : ¬ (lNow b n (tS b n (a + 1)) = 1 ∧ (lWord b n (tS b n (a + 1)) = 14 ∨ lWord b n (tS b n (a + 1)) = 20 ∨ lWord b n (tS b n (a + 1)) = 4)) → Ex mX11_source d 131 [(2, 47), (0, 1)] [] X w15 mc ms Q := fun h => bad131 (fun z => h (t1.mpr z))
    exact ⟨fun g => hno (fun z => g z.1), fun g => ⟨fun g1 => good140 (t1.mp ⟨g, Or.inl g1⟩), fun g1 => ⟨fun g2 => good140 (t1.mp ⟨g, Or.inr (Or.inl g2)⟩), fun g2 => ⟨fun g3 => good140 (t1.mp ⟨g, Or.inr (Or.inr g3)⟩), fun g3 => hno (fun z => z.2.elim g1 (fun q => q.elim g2 g3))⟩⟩⟩⟩
/-- behind source() -/
def SrcR (b : Int → Int) (n T : Int) (v : VV) (a0 : Int) (r : Bool × Int) (v1 : VV) : Prop := PR b n T (SS T) v r v1 ∧ (r.1 = true → ∃ C, v1 51 T = C ∧ (1 ≤ C ∧ C ≤ 6) ∧ SrcOK b n T a0 C v1 ∧ r.2 = a0 + 3 * C)
set_option maxRecDepth 100000 in
set_option maxHeartbeats 4000000 in
theorem c_source {X : XX} {v : VV} {b : Int → Int} {n T a : Int} (hW : SW X) (hA : AT0 b n T a v) (h25 : v 47 25 = 0) (h51 : v 51 T = 0) : CX mX11_source 4 [(2, 47)] X v (fun o v1 => SrcR b n T v (a + 1) (rSource b n a) v1) := by
  obtain ⟨hB, ha, a1, a2, a3, a4, a5, a6, a7⟩ := id hA
  refine CX.of (by decide +kernel) rfl rfl rfl (bX11_source_0 (Nat.le_refl _) hW ⟨_, c_sign2 (b := b) (n := n) (T := T) hW hA h25 40 (by unfold sgB; omega), fun w3 hP => ?_⟩)
  obtain ⟨⟨f1, ⟨z1, z2, z3⟩ | ⟨z1, z2, z3⟩⟩, hP2⟩ := hP
  · refine ⟨fun g => absurd z3 g, fun _ => ?_⟩
    have e : rSource b n a = rCols b n 6 (a + 1) := by unfold rSource; rw [rThen_t z1, (rTake_t z1).1]
    rw [(rTake_t z1).1] at z2
    rw [e]
    have f2 : Fr (SS T) v w3 := f1.mono (fun _ _ h q => h (SS_AS q))
    refine l_src (v := v) (a0 := a + 1) hW (Nat.le_refl _) 6 (a + 1) w3 (Nat.le_refl _) (by omega) ?_ z2 z3 f2 (fun c c0 c1 => by omega) (fun y V' y1 y2 y3 => ⟨rfl, ⟨y1, Or.inr ⟨y, y2, y3⟩⟩, fun q => by rw [y] at q; exact Bool.noConfusion q⟩) (fun y C V' y1 y2 y3 y4 y5 y6 y7 => ⟨rfl, ⟨y3, Or.inl ⟨y, y1, y2⟩⟩, fun _ => ⟨C, y4, y5, y6, y7⟩⟩)
    rw [f1 51 T (by unfold AS; omega)]; exact h51
  · refine ⟨fun _ => ?_, fun g => by omega⟩
    have e : rSource b n a = rTake b n 40 a := by unfold rSource; rw [rThen_f z1]
    rw [e]
    have hA2 : AT0 b n T a w3 := by rw [hP2 z1]; exact AT.mf hA _ _ (by decide)
    refine bX11_source_19 0 (Nat.le_refl _) hW (fun _ => ⟨fun _ => ⟨_, c_signBad (b := b) (n := n) (T := T) hW hA2 z2 41 (by unfold sgB; omega), fun w7 hP => ?_⟩, fun g => absurd rfl g⟩)
    obtain ⟨q1, q2, q3⟩ := hP
    exact ⟨rfl, ⟨f1.via q3 (fun _ _ q => SS_AS q) (fun _ _ q => SS_AS q), Or.inr ⟨z1, q1, q2.trans z3⟩⟩, fun q => by rw [z1] at q; exact Bool.noConfusion q⟩
