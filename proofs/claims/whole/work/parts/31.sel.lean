/-! ===== a select ===== -/
theorem now_kw {b : Int → Int} {n p cd kd : Int} (h : p ≤ n) (h0 : 0 ≤ p) (hT : TX b n) (hc : (cd = 10650290 ∧ kd = 261) ∨ (cd = 439745 ∧ kd = 262) ∨ (cd = 70441 ∧ kd = 263) ∨ (cd = 131638 ∧ kd = 264) ∨ (cd = 12384743 ∧ kd = 265) ∨ (cd = 8897 ∧ kd = 266) ∨ (cd = 14409 ∧ kd = 267)) : ((lNow b n p = 1 ∧ lWord b n p = cd) ↔ tKind b n p = kd) ∧ (tKind b n p = kd → lE b n p = tEnd b n p ∧ ¬ tKind b n p = 260) := by
  rcases tcase b h with q | q | q | q | q
  · obtain ⟨q1, q2, q3, q4, q5, q6, q7⟩ := q; omega
  · obtain ⟨q1, q2, q3, q4, q5, q6⟩ := q
    have := wKind_cases (lWord b n p); omega
  · obtain ⟨q1, q2, q3, q4, q5, q6⟩ := q; omega
  · obtain ⟨q1, q2, q3, q4, q5, q6, q7⟩ := q; omega
  · obtain ⟨q1, q2, q3, q4, q5, q6, q7⟩ := q
    have := hT.2 p h0 q1
    omega
noncomputable def rRes (b : Int → Int) (n : Int) : Nat → Int → Bool × Int
  | 0, a => (false, tS b n a)
  | m + 1, a => rThen (rName b n a) (fun a => rThen (rTake b n 58 a) (fun a => rThen (rForm b n 3 a) (fun a => if tK b n a = 44 then rRes b n m (a + 1) else rTake b n 264 a)))
def rBeh (b : Int → Int) (n : Int) : Nat → Int → Bool × Int
  | 0, a => (false, tS b n a)
  | m + 1, a => rThen (rName b n a) (fun a => if tK b n a = 44 then rBeh b n m (a + 1) else (true, a))
noncomputable def rWhere (b : Int → Int) (n a : Int) : Bool × Int := if tK b n a = 265 then rThen (rForm b n 3 (a + 1)) (fun a => if tK b n a = 60 ∨ tK b n a = 61 then rForm b n 3 (a + 1) else (false, tS b n a)) else (true, a)
noncomputable def rSelect (b : Int → Int) (n a : Int) : Bool × Int := rThen (rTake b n 61 a) (fun a => rThen (rRes b n 6 a) (fun a => rThen (rBeh b n 3 a) (rWhere b n)))
/-- where result c begins -/
noncomputable def qN (b : Int → Int) (n a0 : Int) : Nat → Int
  | 0 => a0
  | c + 1 => (rForm b n 3 (qN b n a0 c + 2)).2 + 1
def ResP (b : Int → Int) (n a0 : Int) (C : Nat) : Prop := ∀ c, c < C → tK b n (qN b n a0 c) = 256 ∧ tL b n (qN b n a0 c) ≤ 8 ∧ tK b n (qN b n a0 c + 1) = 58 ∧ (rForm b n 3 (qN b n a0 c + 2)).1 = true ∧ (c + 1 < C → tK b n (qN b n a0 (c + 1) - 1) = 44)
def ResM (b : Int → Int) (n T a0 : Int) (C : Nat) (v : VV) : Prop := ∀ c : Nat, c < C → v 52 (8 * T + c) = tW b n (qN b n a0 c) ∧ v 65 (8 * T + c) = qN b n a0 c + 2 ∧ v 66 (8 * T + c) = (rForm b n 3 (qN b n a0 c + 2)).2
def BehP (b : Int → Int) (n a1 : Int) (B : Nat) : Prop := ∀ k : Nat, k < B → tK b n (a1 + 2 * k) = 256 ∧ tL b n (a1 + 2 * k) ≤ 8 ∧ (k + 1 < B → tK b n (a1 + 2 * k + 1) = 44)
def BehM (b : Int → Int) (n a1 : Int) (B : Nat) (v : VV) : Prop := ∀ k : Nat, k < B → v 70 k = tW b n (a1 + 2 * k) ∧ v 71 k = tS b n (a1 + 2 * k)
def SeS (T r j : Int) : Prop := AS T r j ∨ (r = 51 ∧ j = T) ∨ (r = 54 ∧ j = T) ∨ ((r = 52 ∨ r = 65 ∨ r = 66) ∧ 8 * T ≤ j ∧ j < 8 * T + 8) ∨ (r = 67 ∧ j = T) ∨ r = 69 ∨ r = 70 ∨ r = 71 ∨ (r = 47 ∧ (j = 41 ∨ j = 42))
theorem SeS_AS {T r j : Int} (h : AS T r j) : SeS T r j := Or.inl h
theorem SeS_FG {T f r j : Int} (hf : 0 ≤ f ∧ f < 8) (h : FG T f r j) : SeS T r j := by
  rcases h with (h | h) | h
  · exact Or.inl h
  · unfold SeS; omega
  · unfold SeS; omega
theorem SeS_TB {T r j : Int} (h : TBs r j) : ¬ SeS T r j := fun q => by
  unfold SeS at q
  rcases q with q | q
  · exact AS_TB h q
  · unfold TBs at h; omega
theorem ResM.fr {S : Int → Int → Prop} {b : Int → Int} {n T a0 : Int} {C : Nat} {v v1 : VV} (h : ResM b n T a0 C v) (hf : Fr S v v1) (hs : ∀ c : Nat, c < C → ¬ S 52 (8 * T + c) ∧ ¬ S 65 (8 * T + c) ∧ ¬ S 66 (8 * T + c)) : ResM b n T a0 C v1 := fun c hc => by
  obtain ⟨h1, h2, h3⟩ := h c hc
  obtain ⟨s1, s2, s3⟩ := hs c hc
  exact ⟨(hf _ _ s1).trans h1, (hf _ _ s2).trans h2, (hf _ _ s3).trans h3⟩
theorem BehM.fr {S : Int → Int → Prop} {b : Int → Int} {n a1 : Int} {B : Nat} {v v1 : VV} (h : BehM b n a1 B v) (hf : Fr S v v1) (hs : ∀ j, ¬ S 70 j ∧ ¬ S 71 j) : BehM b n a1 B v1 := fun k hk => by
  obtain ⟨h1, h2⟩ := h k hk
  exact ⟨(hf _ _ (hs _).1).trans h1, (hf _ _ (hs _).2).trans h2⟩
set_option maxRecDepth 100000 in
set_option maxHeartbeats 4000000 in
theorem l_selbad {X : XX} {V : VV} {Q : QQ} {d mc ms : Nat} (hW : SW X) (hd : 6 ≤ d) (x1 : Int) (h25 : V 47 25 = 1) (hQ : Q none X V) : Ex mX11_select d 64 [(2, 47), (0, x1)] [] X V mc ms Q ∧ Ex mX11_select d 101 [(2, 47), (0, x1)] [] X V mc ms Q ∧ Ex mX11_select d 114 [(2, 47), (0, x1)] [] X V mc ms Q ∧ Ex mX11_select d 134 [(2, 47), (0, x1)] [] X V mc ms Q ∧ Ex mX11_select d 208 [(2, 47), (0, x1)] [] X V mc ms Q ∧ Ex mX11_select d 261 [(2, 47), (0, x1)] [] X V mc ms Q ∧ Ex mX11_select d 308 [(2, 47), (0, x1)] [] X V mc ms Q ∧ Ex mX11_select d 411 [(2, 47), (0, x1)] [] X V mc ms Q := by
  have l134 : Ex mX11_select d 134 [(2, 47), (0, x1)] [] X V mc ms Q := bX11_select_134 x1 hd hW (fun _ => ⟨fun g => by omega, fun _ => hQ⟩)
  have l114 : Ex mX11_select d 114 [(2, 47), (0, x1)] [] X V mc ms Q := bX11_select_114 x1 hd hW (fun _ => ⟨fun _ => l134, fun g => by omega⟩)
  have l101 : Ex mX11_select d 101 [(2, 47), (0, x1)] [] X V mc ms Q := bX11_select_101 x1 hd hW (fun _ => ⟨fun _ => l114, fun g => by omega⟩)
  have l308 : Ex mX11_select d 308 [(2, 47), (0, x1)] [] X V mc ms Q := bX11_select_308 x1 hd hW (fun _ => ⟨fun g => by omega, fun _ => hQ⟩)
  exact ⟨bX11_select_64 x1 hd hW (fun _ => ⟨fun _ => l101, fun g => by omega⟩), l101, l114, l134, bX11_select_208 x1 hd hW (fun _ => ⟨fun g => by omega, fun _ => hQ⟩), bX11_select_261 x1 hd hW (fun _ => ⟨fun _ => l308, fun g => by omega⟩), l308, bX11_select_411 x1 hd hW (fun _ => ⟨fun g => by omega, fun _ => hQ⟩)⟩
noncomputable def rR1 (b : Int → Int) (n : Int) (m : Nat) (a : Int) : Bool × Int := if tK b n a = 44 then rRes b n m (a + 1) else rTake b n 264 a
noncomputable def rR2 (b : Int → Int) (n : Int) (m : Nat) (a : Int) : Bool × Int := rThen (rForm b n 3 a) (rR1 b n m)
noncomputable def rR3 (b : Int → Int) (n : Int) (m : Nat) (a : Int) : Bool × Int := rThen (rTake b n 58 a) (rR2 b n m)
theorem rRes_s (b : Int → Int) (n : Int) (m : Nat) (a : Int) : rRes b n (m + 1) a = rThen (rName b n a) (rR3 b n m) := rfl
def ReF (X : XX) (v : VV) (Q : QQ) (S : Int → Int → Prop) (r : Bool × Int) : Prop := r.1 = false → ∀ V', Fr S v V' → V' 47 25 = 1 → V' 47 26 = r.2 → Q none X V'
/-- what the results touch -/
def SeQ (T r j : Int) : Prop := AS T r j ∨ (r = 51 ∧ j = T) ∨ ((r = 52 ∨ r = 65 ∨ r = 66) ∧ 8 * T ≤ j ∧ j < 8 * T + 6) ∨ r = 69
theorem SeQ_AS {T r j : Int} (h : AS T r j) : SeQ T r j := Or.inl h
theorem SeQ_FG {T f r j : Int} (hf : 0 ≤ f ∧ f < 6) (h : FG T f r j) : SeQ T r j := by
  rcases h with (h | h) | h
  · exact Or.inl h
  · unfold SeQ; omega
  · unfold SeQ; omega
def ReT (X : XX) (v : VV) (Q : QQ) (d mc ms : Nat) (b : Int → Int) (n T a0 : Int) (r : Bool × Int) : Prop := r.1 = true → ∀ (C : Nat) V', (1 ≤ C ∧ C ≤ 6) → AT0 b n T (qN b n a0 C) V' → V' 47 25 = 0 → Fr (SeQ T) v V' → V' 51 T = C → ResP b n a0 C → ResM b n T a0 C V' → tK b n (qN b n a0 C - 1) = 264 → r.2 = qN b n a0 C → Ex mX11_select d 235 [(2, 47), (0, 1)] [] X (upd2 V' 47 41 (qN b n a0 C)) mc ms Q
set_option maxRecDepth 100000 in
set_option maxHeartbeats 4000000 in
theorem l_res {X : XX} {v : VV} {Q : QQ} {d mc ms : Nat} {b : Int → Int} {n T a0 : Int} (hW : SW X) (hd : 6 ≤ d) : ∀ (m c : Nat) (V : VV), m + c = 6 → V 51 T = c → AT0 b n T (qN b n a0 c) V → V 47 25 = 0 → Fr (SeQ T) v V → ResP b n a0 c → (0 < c → tK b n (qN b n a0 c - 1) = 44) → ResM b n T a0 c V → ReF X v Q (SeQ T) (rRes b n m (qN b n a0 c)) → ReT X v Q d mc ms b n T a0 (rRes b n m (qN b n a0 c)) → Ex mX11_select d 37 [(2, 47), (0, 1)] [] X V mc ms Q := by
  intro m
  induction m with
  | zero =>
    intro c V hmc h51 hA h25 hFr hRP h44 hRM hF hT
    obtain ⟨hB, ha, a1, a2, a3, a4, a5, a6, a7⟩ := id hA
    have hT2 := hB.2.2.2.1
    refine bX11_select_37 1 hd hW (fun _ => ⟨fun g => absurd g (by decide), fun _ => ?_⟩)
    rw [hB.2.2.1]
    refine ⟨⟨by omega, by omega⟩, fun g => by omega, fun _ => ⟨_, c_fail hW _ _, fun w11 hP => ?_⟩⟩
    obtain rfl := hP
    obtain ⟨f1, ⟨z, -, -⟩ | ⟨-, z1, z2⟩⟩ := PR.fail (b := b) (n := n) (T := T) (p := V 47 30) h25 hFr (Or.inl (AS25 T)) (Or.inl (AS26 T))
    · exact Bool.noConfusion z
    · exact (l_selbad hW hd 1 z1 (hF rfl _ f1 z1 (z2.trans a1))).1
  | succ m ih =>
    intro c V hmc h51 hA h25 hFr hRP h44 hRM hF hT
    obtain ⟨a, hae⟩ : ∃ a, a = qN b n a0 c := ⟨_, rfl⟩
    rw [← hae, rRes_s] at hF hT
    rw [← hae] at hA h44
    obtain ⟨hB, ha, a1, a2, a3, a4, a5, a6, a7⟩ := id hA
    have hT2 := hB.2.2.2.1
    refine bX11_select_37 1 hd hW (fun _ => ⟨fun g => absurd g (by decide), fun _ => ?_⟩)
    rw [hB.2.2.1, h51]
    refine ⟨⟨by omega, by omega⟩, fun _ => ?_, fun g => by omega⟩
    refine bX11_select_64 1 hd hW (fun _ => ⟨fun g => absurd h25 g, fun _ => ?_⟩)
    rw [hB.2.2.1, h51, a5]
    refine ⟨fun _ => ⟨by omega, by omega⟩, ⟨by omega, by omega⟩, fun _ _ => ⟨by omega, by omega⟩, ⟨by omega, by omega⟩, ?_⟩
    have u1 : AT0 b n T a (upd2 V 52 (8 * T + c) (lWord b n (tS b n a))) := AT.up hA (by unfold TBs; omega) (by unfold AS; omega)
    have u2 : upd2 V 52 (8 * T + c) (lWord b n (tS b n a)) 47 25 = 0 := by rw [upd2_n _ (by omega)]; exact h25
    have u3 : Fr (SeQ T) v (upd2 V 52 (8 * T + c) (lWord b n (tS b n a))) := hFr.up (by unfold SeQ; omega)
    have u4 : upd2 V 52 (8 * T + c) (lWord b n (tS b n a)) 51 T = c := by rw [upd2_n _ (by omega)]; exact h51
    have u5 : upd2 V 52 (8 * T + c) (lWord b n (tS b n a)) 52 (8 * T + c) = tW b n a := upd2_s _ _ _ _
    have u6 : ResM b n T a0 c (upd2 V 52 (8 * T + c) (lWord b n (tS b n a))) := hRM.fr (S := fun r j => r = 52 ∧ j = 8 * T + c) (Fr.rf.up ⟨rfl, rfl⟩) (fun k hk => ⟨by omega, by omega, by omega⟩)
    generalize upd2 V 52 (8 * T + c) (lWord b n (tS b n a)) = u at *
    refine ⟨_, c_name (b := b) (n := n) (T := T) (a := a) hW u1 u2, fun w19 hP => ?_⟩
    obtain ⟨f1, ⟨z1, z2, z3⟩ | ⟨z1, z2, z3⟩⟩ := hP
    rotate_left
    · rw [rThen_f z1] at hF
      exact (l_selbad hW hd 1 z2 (hF z1 _ (u3.via f1 (fun _ _ q => q) (fun _ _ q => SeQ_AS q)) z2 z3)).2.1
    obtain ⟨e1, e2, e3⟩ := rName_t z1
    rw [rThen_t z1, e1] at hF hT
    rw [e1] at z2
    replace z2 : AT0 b n T (a + 1) w19 := z2
    replace hF : ReF X v Q (SeQ T) (rThen (rTake b n 58 (a + 1)) (rR2 b n m)) := hF
    replace hT : ReT X v Q d mc ms b n T a0 (rThen (rTake b n 58 (a + 1)) (rR2 b n m)) := hT
    have f2 : Fr (SeQ T) v w19 := u3.via f1 (fun _ _ q => q) (fun _ _ q => SeQ_AS q)
    refine bX11_select_101 1 hd hW (fun _ => ⟨fun g => absurd z3 g, fun _ => ⟨_, c_sign (b := b) (n := n) (T := T) hW z2 z3 58 (by unfold sgB; omega), fun w23 hP => ?_⟩⟩)
    obtain ⟨f3, ⟨y1, y2, y3⟩ | ⟨y1, y2, y3⟩⟩ := hP
    rotate_left
    · rw [rThen_f y1] at hF
      exact (l_selbad hW hd 1 y2 (hF y1 _ (f2.via f3 (fun _ _ q => q) (fun _ _ q => SeQ_AS q)) y2 y3)).2.2.1
    obtain ⟨e4, e5⟩ := rTake_t y1
    rw [rThen_t y1, e4] at hF hT
    rw [e4] at y2
    have ea : a + 1 + 1 = a + 2 := by omega
    replace y2 : AT0 b n T (a + 1 + 1) w23 := y2
    replace hF : ReF X v Q (SeQ T) (rR2 b n m (a + 1 + 1)) := hF
    replace hT : ReT X v Q d mc ms b n T a0 (rR2 b n m (a + 1 + 1)) := hT
    rw [ea] at y2 hF hT
    have f4 : Fr (SeQ T) v w23 := f2.via f3 (fun _ _ q => q) (fun _ _ q => SeQ_AS q)
    have f4u : Fr (AS T) u w23 := f1.via f3 (fun _ _ q => q) (fun _ _ q => q)
    have k51 : w23 51 T = c := (f4u 51 T (by unfold AS; omega)).trans u4
    refine bX11_select_114 1 hd hW (fun _ => ⟨fun g => absurd y3 g, fun _ => ?_⟩)
    rw [y2.1.2.2.1, k51]
    refine ⟨⟨by omega, by omega⟩, _, c_formula (b := b) (n := n) (T := T) (a := a + 2) hW (f := (c : Int)) ⟨by omega, by omega⟩ y2 y3, fun w27 hP => ?_⟩
    obtain ⟨⟨f5, hz⟩, hfm⟩ := hP
    have f6 : Fr (SeQ T) v w27 := f4.via f5 (fun _ _ q => q) (fun _ _ q => SeQ_FG ⟨by omega, by omega⟩ q)
    obtain ⟨r, hre⟩ : ∃ r, r = rForm b n 3 (a + 2) := ⟨_, rfl⟩
    have hF' : ReF X v Q (SeQ T) (rThen r (rR1 b n m)) := by rw [hre]; exact hF
    have hT' : ReT X v Q d mc ms b n T a0 (rThen r (rR1 b n m)) := by rw [hre]; exact hT
    rw [← hre] at hz hfm
    rcases hz with ⟨x1, x2, x3⟩ | ⟨x1, x2, x3⟩
    rotate_left
    · rw [rThen_f x1] at hF'
      exact (l_selbad hW hd 1 x2 (hF' x1 _ f6 x2 x3)).2.2.2.1
    rw [rThen_t x1] at hF' hT'
    obtain ⟨m65, m66, hno⟩ := hfm x1
    have eq1 : qN b n a0 (c + 1) = r.2 + 1 := by
      show (rForm b n 3 (qN b n a0 c + 2)).2 + 1 = _
      rw [← hae, ← hre]
    have hRP2 : ResP b n a0 (c + 1) := fun k hk => by
      by_cases hkc : k = c
      · subst hkc
        rw [← hae]
        exact ⟨e2, e3, e5, by rw [← hre]; exact x1, fun q => by omega⟩
      · obtain ⟨p1, p2, p3, p4, p5⟩ := hRP k (by omega)
        refine ⟨p1, p2, p3, p4, fun q => ?_⟩
        by_cases hk2 : k + 1 < c
        · exact p5 hk2
        · have : k + 1 = c := by omega
          rw [this, ← hae]
          exact h44 (by omega)
    have hRM2 : ResM b n T a0 (c + 1) w27 := fun k hk => by
      by_cases hkc : k = c
      · subst hkc
        rw [← hae]
        refine ⟨?_, m65, ?_⟩
        · rw [f5 52 _ (by unfold FG FS AS; omega), f4u 52 _ (by unfold AS; omega)]; exact u5
        · rw [m66, hre]
      · obtain ⟨p1, p2, p3⟩ := u6 k (by omega)
        refine ⟨?_, ?_, ?_⟩
        · rw [f5 52 _ (by unfold FG FS AS; omega), f4u 52 _ (by unfold AS; omega)]; exact p1
        · rw [f5 65 _ (by unfold FG FS AS; omega), f4u 65 _ (by unfold AS; omega)]; exact p2
        · rw [f5 66 _ (by unfold FG FS AS; omega), f4u 66 _ (by unfold AS; omega)]; exact p3
    have k51b : w27 51 T = c := (f5 51 T (by unfold FG FS AS; omega)).trans k51
    obtain ⟨hB2, hb, b1, b2, b3, b4, b5, b6, b7⟩ := id x2
    refine bX11_select_134 1 hd hW (fun _ => ⟨fun _ => ?_, fun g => absurd x3 g⟩)
    rw [hB2.2.2.1, k51b, b3]
    have s1 : AT0 b n T r.2 (upd2 w27 51 T ((c : Int) + 1)) := AT.up x2 (by unfold TBs; omega) (by unfold AS; omega)
    have s2 : upd2 w27 51 T ((c : Int) + 1) 47 25 = 0 := by rw [upd2_n _ (by omega)]; exact x3
    have s3 : Fr (SeQ T) v (upd2 w27 51 T ((c : Int) + 1)) := f6.up (by unfold SeQ; omega)
    have s4 : upd2 w27 51 T ((c : Int) + 1) 51 T = ((c + 1 : Nat) : Int) := by rw [upd2_s]; omega
    have s5 : ResM b n T a0 (c + 1) (upd2 w27 51 T ((c : Int) + 1)) := hRM2.fr (S := fun r j => r = 51 ∧ j = T) (Fr.rf.up ⟨rfl, rfl⟩) (fun k hk => ⟨by omega, by omega, by omega⟩)
    generalize upd2 w27 51 T ((c : Int) + 1) = s at *
    have hp := tS_bd b hB2.2.2.2.2.1.1.1 r.2
    obtain ⟨c1, c2⟩ := now_sign (b := b) hp.2 (s := 44) (by unfold sgB; omega)
    refine ⟨⟨by omega, by omega⟩, fun _ => ⟨by omega, by omega⟩, ⟨by omega, by omega⟩, fun g => ?_, fun g => ?_⟩
    · have g2 : ¬ tK b n r.2 = 44 := fun z => g (c1.mpr z)
      have e7 : rR1 b n m r.2 = rTake b n 264 r.2 := if_neg g2
      rw [e7] at hF' hT'
      obtain ⟨hB3, hc3, d1, d2, d3, d4, d5, d6, d7⟩ := id s1
      obtain ⟨kw1, kw2⟩ := now_kw (b := b) (n := n) (p := tS b n r.2) (cd := 131638) (kd := 264) hp.2 hp.1 hB2.2.2.2.2.1 (by omega)
      refine bX11_select_37 0 hd hW (fun _ => ⟨fun _ => ⟨fun g3 => absurd s2 g3, fun _ => ⟨_, c_isWord hW _, fun r6 w7 hP => ?_⟩⟩, fun g3 => absurd rfl g3⟩)
      obtain ⟨rfl, hr⟩ := hP
      obtain rfl : r6 = bI (w7 47 29 = 1 ∧ w7 47 32 = w7 47 36) := by simpa using hr
      rw [hB3.2.2.2.2.2.2.2.2.1, d3, d5]
      refine ⟨fun g4 => ?_, fun g4 => ?_⟩
      · rw [bI_n0, kw1] at g4
        have e8 : rTake b n 264 r.2 = (true, r.2 + 1) := if_pos g4
        rw [e8] at hT'
        refine bX11_select_208 0 hd hW (fun _ => ⟨fun _ => ⟨_, c_keeps (b := b) (n := n) (T := T) (a := r.2) hW (s1.tEnd (kw2 g4).1) (kw2 g4).2, fun w35 hP => ?_⟩, fun g5 => absurd s2 g5⟩)
        obtain ⟨o1, ⟨o2, -⟩, o3⟩ := hP
        rw [o1.1.2.2.1, o1.2.2.2.2.2.2.2.1, ← eq1]
        refine ⟨⟨by omega, by omega⟩, hT' rfl (c + 1) w35 ⟨by omega, by omega⟩ (by rw [eq1]; exact o1) (o2.trans s2) (s3.via o3 (fun _ _ q => q) (fun _ _ q => SeQ_AS q)) ((o3 51 T (by unfold AS; omega)).trans s4) hRP2 (s5.fr o3 (fun k hk => ⟨by unfold AS; omega, by unfold AS; omega, by unfold AS; omega⟩)) ?_ ?_⟩
        · rw [eq1, show r.2 + 1 - 1 = r.2 by omega]; exact g4
        · rw [eq1]
      · rw [bI_0, kw1] at g4
        have e8 : rTake b n 264 r.2 = (false, tS b n r.2) := if_neg g4
        rw [e8] at hF'
        refine ⟨_, c_fail hW _ _, fun w11 hP => ?_⟩
        obtain rfl := hP
        obtain ⟨f9, ⟨z, -, -⟩ | ⟨-, t1, t2⟩⟩ := PR.fail (b := b) (n := n) (T := T) (p := w7 47 30) s2 s3 (Or.inl (AS25 T)) (Or.inl (AS26 T))
        · exact Bool.noConfusion z
        · exact (l_selbad hW hd 0 t1 (hF' rfl _ f9 t1 (t2.trans d1))).2.2.2.2.1
    · have g2 : tK b n r.2 = 44 := c1.mp g
      have e7 : rR1 b n m r.2 = rRes b n m (r.2 + 1) := if_pos g2
      rw [e7, ← eq1] at hF' hT'
      refine ⟨_, c_keeps (b := b) (n := n) (T := T) (a := r.2) hW (s1.tEnd (c2 g2).1) (c2 g2).2, fun w31 hP => ?_⟩
      obtain ⟨o1, ⟨o2, -⟩, o3⟩ := hP
      refine ih (c + 1) w31 (by omega) ((o3 51 T (by unfold AS; omega)).trans s4) (by rw [eq1]; exact o1) (o2.trans s2) (s3.via o3 (fun _ _ q => q) (fun _ _ q => SeQ_AS q)) hRP2 (fun _ => ?_) (s5.fr o3 (fun k hk => ⟨by unfold AS; omega, by unfold AS; omega, by unfold AS; omega⟩)) hF' hT'
      rw [eq1, show r.2 + 1 - 1 = r.2 by omega]; exact g2
def BeS (T r j : Int) : Prop := AS T r j ∨ (r = 54 ∧ j = T) ∨ r = 70 ∨ r = 71
theorem BeS_AS {T r j : Int} (h : AS T r j) : BeS T r j := Or.inl h
def rB1 (b : Int → Int) (n : Int) (m : Nat) (a : Int) : Bool × Int := if tK b n a = 44 then rBeh b n m (a + 1) else (true, a)
theorem rBeh_s (b : Int → Int) (n : Int) (m : Nat) (a : Int) : rBeh b n (m + 1) a = rThen (rName b n a) (rB1 b n m) := rfl
def BeT (X : XX) (v : VV) (Q : QQ) (d mc ms : Nat) (b : Int → Int) (n T a1 : Int) (r : Bool × Int) : Prop := r.1 = true → ∀ (B : Nat) V', (1 ≤ B ∧ B ≤ 3) → AT0 b n T r.2 V' → V' 47 25 = 0 → Fr (BeS T) v V' → V' 54 T = B → BehP b n a1 B → BehM b n a1 B V' → r.2 = a1 + 2 * B - 1 → ¬ tK b n r.2 = 44 → Ex mX11_select d 235 [(2, 47), (0, 0)] [] X V' mc ms Q
set_option maxRecDepth 100000 in
set_option maxHeartbeats 4000000 in
theorem l_beh {X : XX} {v : VV} {Q : QQ} {d mc ms : Nat} {b : Int → Int} {n T a1 : Int} (hW : SW X) (hd : 6 ≤ d) : ∀ (m k : Nat) (a : Int) (V : VV), m + k = 3 → a = a1 + 2 * k → V 54 T = k → AT0 b n T a V → V 47 25 = 0 → Fr (BeS T) v V → BehP b n a1 k → (0 < k → tK b n (a - 1) = 44) → BehM b n a1 k V → ReF X v Q (BeS T) (rBeh b n m a) → BeT X v Q d mc ms b n T a1 (rBeh b n m a) → Ex mX11_select d 235 [(2, 47), (0, 1)] [] X V mc ms Q := by
  intro m
  induction m with
  | zero =>
    intro k a V hmk hae h54 hA h25 hFr hBP h44 hBM hF hT
    obtain ⟨hB, ha, c1, c2, c3, c4, c5, c6, c7⟩ := id hA
    have hT2 := hB.2.2.2.1
    refine bX11_select_235 1 hd hW (fun _ => ⟨fun g => absurd g (by decide), fun _ => ?_⟩)
    rw [hB.2.2.1]
    refine ⟨⟨by omega, by omega⟩, fun g => by omega, fun _ => ⟨_, c_fail hW _ _, fun w11 hP => ?_⟩⟩
    obtain rfl := hP
    obtain ⟨f1, ⟨z, -, -⟩ | ⟨-, z1, z2⟩⟩ := PR.fail (b := b) (n := n) (T := T) (p := V 47 30) h25 hFr (Or.inl (AS25 T)) (Or.inl (AS26 T))
    · exact Bool.noConfusion z
    · exact (l_selbad hW hd 1 z1 (hF rfl _ f1 z1 (z2.trans c1))).2.2.2.2.2.1
  | succ m ih =>
    intro k a V hmk hae h54 hA h25 hFr hBP h44 hBM hF hT
    rw [rBeh_s] at hF hT
    obtain ⟨hB, ha, c1, c2, c3, c4, c5, c6, c7⟩ := id hA
    have hT2 := hB.2.2.2.1
    refine bX11_select_235 1 hd hW (fun _ => ⟨fun g => absurd g (by decide), fun _ => ?_⟩)
    rw [hB.2.2.1, h54]
    refine ⟨⟨by omega, by omega⟩, fun _ => ?_, fun g => by omega⟩
    refine bX11_select_261 1 hd hW (fun _ => ⟨fun g => absurd h25 g, fun _ => ?_⟩)
    rw [hB.2.2.1, h54, c5, c1]
    refine ⟨⟨by omega, by omega⟩, ⟨by omega, by omega⟩, ⟨by omega, by omega⟩, ⟨by omega, by omega⟩, ?_⟩
    have u1 : AT0 b n T a (upd2 (upd2 V 70 k (lWord b n (tS b n a))) 71 k (tS b n a)) := AT.up (AT.up hA (by unfold TBs; omega) (by unfold AS; omega)) (by unfold TBs; omega) (by unfold AS; omega)
    have u2 : upd2 (upd2 V 70 k (lWord b n (tS b n a))) 71 k (tS b n a) 47 25 = 0 := by rw [upd2_n _ (by omega), upd2_n _ (by omega)]; exact h25
    have u3 : Fr (BeS T) v (upd2 (upd2 V 70 k (lWord b n (tS b n a))) 71 k (tS b n a)) := (hFr.up (by unfold BeS; omega)).up (by unfold BeS; omega)
    have u4 : upd2 (upd2 V 70 k (lWord b n (tS b n a))) 71 k (tS b n a) 54 T = k := by rw [upd2_n _ (by omega), upd2_n _ (by omega)]; exact h54
    have u6 : BehM b n a1 (k + 1) (upd2 (upd2 V 70 k (lWord b n (tS b n a))) 71 k (tS b n a)) := fun i hi => by
      by_cases hik : i = k
      · subst hik
        rw [upd2_n _ (by omega), upd2_s, upd2_s, ← hae]
        exact ⟨rfl, rfl⟩
      · rw [upd2_n _ (by omega), upd2_n _ (by omega), upd2_n _ (by omega), upd2_n _ (by omega)]
        exact hBM i (by omega)
    generalize upd2 (upd2 V 70 k (lWord b n (tS b n a))) 71 k (tS b n a) = u at *
    refine ⟨_, c_name (b := b) (n := n) (T := T) (a := a) hW u1 u2, fun w59 hP => ?_⟩
    obtain ⟨f1, ⟨z1, z2, z3⟩ | ⟨z1, z2, z3⟩⟩ := hP
    rotate_left
    · rw [rThen_f z1] at hF
      exact (l_selbad hW hd 1 z2 (hF z1 _ (u3.via f1 (fun _ _ q => q) (fun _ _ q => BeS_AS q)) z2 z3)).2.2.2.2.2.2.1
    obtain ⟨e1, e2, e3⟩ := rName_t z1
    rw [rThen_t z1, e1] at hF hT
    rw [e1] at z2
    replace z2 : AT0 b n T (a + 1) w59 := z2
    replace hF : ReF X v Q (BeS T) (rB1 b n m (a + 1)) := hF
    replace hT : BeT X v Q d mc ms b n T a1 (rB1 b n m (a + 1)) := hT
    have f2 : Fr (BeS T) v w59 := u3.via f1 (fun _ _ q => q) (fun _ _ q => BeS_AS q)
    have k54 : w59 54 T = k := (f1 54 T (by unfold AS; omega)).trans u4
    have hBP2 : BehP b n a1 (k + 1) := fun i hi => by
      by_cases hik : i = k
      · subst hik
        rw [← hae]
        exact ⟨e2, e3, fun q => by omega⟩
      · obtain ⟨p1, p2, p3⟩ := hBP i (by omega)
        refine ⟨p1, p2, fun q => ?_⟩
        by_cases hk2 : i + 1 < k
        · exact p3 hk2
        · have : a - 1 = a1 + 2 * (i : Int) + 1 := by omega
          rw [← this]
          exact h44 (by omega)
    obtain ⟨hB2, hb, b1, b2, b3, b4, b5, b6, b7⟩ := id z2
    refine bX11_select_308 1 hd hW (fun _ => ⟨fun _ => ?_, fun g => absurd z3 g⟩)
    rw [hB2.2.2.1, k54, b3]
    have s1 : AT0 b n T (a + 1) (upd2 w59 54 T ((k : Int) + 1)) := AT.up z2 (by unfold TBs; omega) (by unfold AS; omega)
    have s2 : upd2 w59 54 T ((k : Int) + 1) 47 25 = 0 := by rw [upd2_n _ (by omega)]; exact z3
    have s3 : Fr (BeS T) v (upd2 w59 54 T ((k : Int) + 1)) := f2.up (by unfold BeS; omega)
    have s4 : upd2 w59 54 T ((k : Int) + 1) 54 T = ((k + 1 : Nat) : Int) := by rw [upd2_s]; omega
    have s5 : BehM b n a1 (k + 1) (upd2 w59 54 T ((k : Int) + 1)) := (u6.fr f1 (fun j => ⟨by unfold AS; omega, by unfold AS; omega⟩)).fr (S := fun r j => r = 54 ∧ j = T) (Fr.rf.up ⟨rfl, rfl⟩) (fun j => ⟨by omega, by omega⟩)
    generalize upd2 w59 54 T ((k : Int) + 1) = s at *
    have hp := tS_bd b hB2.2.2.2.2.1.1.1 (a + 1)
    obtain ⟨c1, c2⟩ := now_sign (b := b) hp.2 (s := 44) (by unfold sgB; omega)
    refine ⟨⟨by omega, by omega⟩, fun _ => ⟨by omega, by omega⟩, ⟨by omega, by omega⟩, fun g => ?_, fun g => ?_⟩
    · have g2 : ¬ tK b n (a + 1) = 44 := fun z => g (c1.mpr z)
      have e7 : rB1 b n m (a + 1) = (true, a + 1) := if_neg g2
      rw [e7] at hT
      refine hT rfl (k + 1) s ⟨by omega, by omega⟩ s1 s2 s3 s4 hBP2 s5 ?_ g2
      show a + 1 = _
      omega
    · have g2 : tK b n (a + 1) = 44 := c1.mp g
      have e7 : rB1 b n m (a + 1) = rBeh b n m (a + 1 + 1) := if_pos g2
      rw [e7] at hF hT
      refine ⟨_, c_keeps (b := b) (n := n) (T := T) (a := a + 1) hW (s1.tEnd (c2 g2).1) (c2 g2).2, fun w63 hP => ?_⟩
      obtain ⟨o1, ⟨o2, -⟩, o3⟩ := hP
      refine ih (k + 1) _ w63 (by omega) (by omega) ((o3 54 T (by unfold AS; omega)).trans s4) o1 (o2.trans s2) (s3.via o3 (fun _ _ q => q) (fun _ _ q => BeS_AS q)) hBP2 (fun _ => ?_) (s5.fr o3 (fun j => ⟨by unfold AS; omega, by unfold AS; omega⟩)) hF hT
      rw [show a + 1 + 1 - 1 = a + 1 by omega]; exact g2
def WhS (T r j : Int) : Prop := AS T r j ∨ r = 69 ∨ ((r = 65 ∨ r = 66) ∧ (j = 8 * T + 6 ∨ j = 8 * T + 7)) ∨ (r = 47 ∧ j = 42)
noncomputable def rW1 (b : Int → Int) (n a : Int) : Bool × Int := if tK b n a = 60 ∨ tK b n a = 61 then rForm b n 3 (a + 1) else (false, tS b n a)
theorem rWhere_y {b : Int → Int} {n a : Int} (h : tK b n a = 265) : rWhere b n a = rThen (rForm b n 3 (a + 1)) (rW1 b n) := if_pos h
/-- what the where leaves -/
def WhM (b : Int → Int) (n T a : Int) (v v1 : VV) : Prop := (¬ tK b n a = 265 → v1 = v) ∧ (tK b n a = 265 → v1 65 (8 * T + 6) = a + 1 ∧ v1 66 (8 * T + 6) = (rForm b n 3 (a + 1)).2 ∧ (rForm b n 3 (a + 1)).1 = true ∧ (tK b n (rForm b n 3 (a + 1)).2 = 60 ∨ tK b n (rForm b n 3 (a + 1)).2 = 61) ∧ v1 47 42 = tS b n (rForm b n 3 (a + 1)).2 ∧ v1 65 (8 * T + 7) = (rForm b n 3 (a + 1)).2 + 1 ∧ v1 66 (8 * T + 7) = (rForm b n 3 ((rForm b n 3 (a + 1)).2 + 1)).2 ∧ (rForm b n 3 ((rForm b n 3 (a + 1)).2 + 1)).1 = true)
set_option maxRecDepth 100000 in
set_option maxHeartbeats 4000000 in
theorem l_where {X : XX} {v : VV} {Q : QQ} {mc ms : Nat} {b : Int → Int} {n T a : Int} (hW : SW X) (hA : AT0 b n T a v) (h25 : v 47 25 = 0) (hQ : ∀ V', PR b n T (WhS T) v (rWhere b n a) V' → ((rWhere b n a).1 = true → WhM b n T a v V') → Q none X V') : Ex mX11_select 6 235 [(2, 47), (0, 0)] [] X v mc ms Q := by
  obtain ⟨hB, ha, c1, c2, c3, c4, c5, c6, c7⟩ := id hA
  have hT2 := hB.2.2.2.1
  have hp := tS_bd b hB.2.2.2.2.1.1.1 a
  obtain ⟨kw1, kw2⟩ := now_kw (b := b) (n := n) (p := tS b n a) (cd := 12384743) (kd := 265) hp.2 hp.1 hB.2.2.2.2.1 (by omega)
  refine bX11_select_235 0 (Nat.le_refl _) hW (fun _ => ⟨fun _ => ⟨_, c_isWord hW _, fun r38 w39 hP => ?_⟩, fun g => absurd rfl g⟩)
  obtain ⟨rfl, hr⟩ := hP
  obtain rfl : r38 = bI (w39 47 29 = 1 ∧ w39 47 32 = w39 47 37) := by simpa using hr
  rw [hB.2.2.2.2.2.2.2.2.2.1, c3, c5]
  refine ⟨fun g => ?_, fun g => ?_⟩
  rotate_left
  · rw [bI_0, kw1] at g
    have e : rWhere b n a = (true, a) := if_neg g
    rw [e] at hQ
    exact hQ _ ⟨Fr.rf, Or.inl ⟨rfl, hA, h25⟩⟩ (fun _ => ⟨fun _ => rfl, fun z => absurd z g⟩)
  rw [bI_n0, kw1] at g
  have g' : tK b n a = 265 := g
  rw [rWhere_y g'] at hQ
  refine ⟨_, c_keeps (b := b) (n := n) (T := T) (a := a) hW (hA.tEnd (kw2 g).1) (kw2 g).2, fun w43 hP => ?_⟩
  obtain ⟨o1, ⟨o2, -⟩, o3⟩ := hP
  have f1 : Fr (WhS T) w39 w43 := o3.mono (fun _ _ h q => h (Or.inl q))
  refine ⟨_, c_formula (b := b) (n := n) (T := T) (a := a + 1) hW (f := 6) ⟨by omega, by omega⟩ o1 (o2.trans h25), fun w47 hP => ?_⟩
  obtain ⟨⟨f5, hz⟩, hfm⟩ := hP
  have fgw : ∀ f r j, (f = 6 ∨ f = 7) → FG T f r j → WhS T r j := fun f r j hf h => by
    rcases h with (h | h) | h
    · exact Or.inl h
    · unfold WhS; omega
    · unfold WhS; omega
  have f6 : Fr (WhS T) w39 w47 := f1.via f5 (fun _ _ q => q) (fun _ _ q => fgw 6 _ _ (Or.inl rfl) q)
  obtain ⟨r, hre⟩ : ∃ r, r = rForm b n 3 (a + 1) := ⟨_, rfl⟩
  have hWM : ∀ w, WhM b n T a w39 w ↔ WhM b n T a w39 w := fun _ => Iff.rfl
  unfold WhM at hQ
  rw [← hre] at hz hfm hQ
  rcases hz with ⟨x1, x2, x3⟩ | ⟨x1, x2, x3⟩
  rotate_left
  · rw [rThen_f x1] at hQ
    refine ⟨fun _ => (l_selbad hW (Nat.le_refl _) 0 x2 (hQ w47 ⟨f6, Or.inr ⟨x1, x2, x3⟩⟩ (fun z => by rw [x1] at z; exact Bool.noConfusion z))).2.2.2.2.2.2.2, fun g => by omega⟩
  rw [rThen_t x1] at hQ
  obtain ⟨m65, m66, hno⟩ := hfm x1
  obtain ⟨hB2, hb, b1, b2, b3, b4, b5, b6, b7⟩ := id x2
  have hp2 := tS_bd b hB2.2.2.2.2.1.1.1 r.2
  obtain ⟨s1, s2⟩ := now_sign (b := b) hp2.2 (s := 60) (by unfold sgB; omega)
  obtain ⟨s3, s4⟩ := now_sign (b := b) hp2.2 (s := 61) (by unfold sgB; omega)
  have l411 : (tK b n r.2 = 60 ∨ tK b n r.2 = 61) → Ex mX11_select 6 411 [(2, 47), (0, 0)] [] X w47 mc ms Q := fun h60 => by
    have e7 : rW1 b n r.2 = rForm b n 3 (r.2 + 1) := if_pos h60
    rw [e7] at hQ
    have hend : lE b n (tS b n r.2) = tEnd b n (tS b n r.2) ∧ ¬ tKind b n (tS b n r.2) = 260 := h60.elim s2 s4
    refine bX11_select_411 0 (Nat.le_refl _) hW (fun _ => ⟨fun _ => ?_, fun g => absurd x3 g⟩)
    rw [b1]
    have u1 : AT0 b n T r.2 (upd2 w47 47 42 (tS b n r.2)) := AT.up x2 (by unfold TBs; omega) (by unfold AS; omega)
    have u2 : upd2 w47 47 42 (tS b n r.2) 47 25 = 0 := by rw [upd2_n _ (by omega)]; exact x3
    have u3 : Fr (WhS T) w39 (upd2 w47 47 42 (tS b n r.2)) := f6.up (by unfold WhS; omega)
    have u4 : upd2 w47 47 42 (tS b n r.2) 47 42 = tS b n r.2 := upd2_s _ _ _ _
    have u5 : upd2 w47 47 42 (tS b n r.2) 65 (8 * T + 6) = a + 1 := by rw [upd2_n _ (by omega)]; exact m65
    have u6 : upd2 w47 47 42 (tS b n r.2) 66 (8 * T + 6) = r.2 := by rw [upd2_n _ (by omega)]; exact m66
    generalize upd2 w47 47 42 (tS b n r.2) = u at *
    refine ⟨_, c_keeps (b := b) (n := n) (T := T) (a := r.2) hW (u1.tEnd hend.1) hend.2, fun w67 hP => ?_⟩
    obtain ⟨p1, ⟨p2, -⟩, p3⟩ := hP
    refine ⟨_, c_formula (b := b) (n := n) (T := T) (a := r.2 + 1) hW (f := 7) ⟨by omega, by omega⟩ p1 (p2.trans u2), fun w71 hP => ?_⟩
    obtain ⟨⟨f8, hz⟩, hfm2⟩ := hP
    have f9 : Fr (WhS T) w39 w71 := (u3.via p3 (fun _ _ q => q) (fun _ _ q => Or.inl q)).via f8 (fun _ _ q => q) (fun _ _ q => fgw 7 _ _ (Or.inr rfl) q)
    refine hQ w71 ⟨f9, hz⟩ (fun hy => ⟨fun z => absurd g' z, fun _ => ?_⟩)
    obtain ⟨m1, m2, m3⟩ := hfm2 hy
    refine ⟨?_, ?_, x1, h60, ?_, m1, m2, hy⟩
    · rw [f8 65 _ (by unfold FG FS AS; omega), p3 65 _ (by unfold AS; omega)]; exact u5
    · rw [f8 66 _ (by unfold FG FS AS; omega), p3 66 _ (by unfold AS; omega)]; exact u6
    · rw [f8 47 42 (by unfold FG FS AS; omega), p3 47 42 (by unfold AS; omega)]; exact u4
  refine ⟨fun g2 => absurd x3 g2, fun _ => ?_⟩
  rw [b3]
  refine ⟨fun g2 => l411 (Or.inl (s1.mp g2)), fun g2 => ⟨fun g3 => l411 (Or.inr (s3.mp g3)), fun g3 => ⟨_, c_fail hW _ _, fun w51 hP => ?_⟩⟩⟩
  obtain rfl := hP
  have e7 : rW1 b n r.2 = (false, tS b n r.2) := if_neg (fun z => z.elim (fun y => g2 (s1.mpr y)) (fun y => g3 (s3.mpr y)))
  rw [e7, b1.symm] at hQ
  have hPR := PR.fail (b := b) (n := n) (T := T) (p := w47 47 30) x3 f6 (Or.inl (AS25 T)) (Or.inl (AS26 T))
  refine (l_selbad hW (Nat.le_refl _) 0 ?_ (hQ _ hPR (fun z => Bool.noConfusion z))).2.2.2.2.2.2.2
  obtain ⟨-, ⟨z, -, -⟩ | ⟨-, t1, -⟩⟩ := hPR
  · exact Bool.noConfusion z
  · exact t1
/-- behind select() -/
def SelR (b : Int → Int) (n T : Int) (v : VV) (a : Int) (r : Bool × Int) (v1 : VV) : Prop := PR b n T (SeS T) v r v1 ∧ (r.1 = true → ∃ C B : Nat, ((1 ≤ C ∧ C ≤ 6) ∧ (1 ≤ B ∧ B ≤ 3)) ∧ (v1 51 T = C ∧ v1 54 T = B ∧ v1 67 T = a ∧ v1 47 41 = qN b n (a + 1) C) ∧ ResP b n (a + 1) C ∧ ResM b n T (a + 1) C v1 ∧ tK b n (qN b n (a + 1) C - 1) = 264 ∧ BehP b n (qN b n (a + 1) C) B ∧ BehM b n (qN b n (a + 1) C) B v1 ∧ ¬ tK b n (qN b n (a + 1) C + 2 * B - 1) = 44 ∧ r = rWhere b n (qN b n (a + 1) C + 2 * B - 1) ∧ ∃ u, (∀ q, (q = 6 ∨ q = 7) → u 65 (8 * T + q) = v 65 (8 * T + q) ∧ u 66 (8 * T + q) = v 66 (8 * T + q)) ∧ WhM b n T (qN b n (a + 1) C + 2 * B - 1) u v1)
set_option maxRecDepth 100000 in
set_option maxHeartbeats 4000000 in
theorem c_select {X : XX} {v : VV} {b : Int → Int} {n T a : Int} (hW : SW X) (hA : AT0 b n T a v) (h25 : v 47 25 = 0) (h51 : v 51 T = 0) (h54 : v 54 T = 0) : CX mX11_select 6 [(2, 47)] X v (fun o v1 => SelR b n T v a (rSelect b n a) v1) := by
  obtain ⟨hB, ha, a1, a2, a3, a4, a5, a6, a7⟩ := id hA
  have hT2 := hB.2.2.2.1
  refine CX.of (by decide +kernel) rfl rfl rfl (bX11_select_0 (Nat.le_refl _) hW ?_)
  rw [hB.2.2.1, a6]
  have u1 : AT0 b n T a (upd2 v 67 T a) := AT.up hA (by unfold TBs; omega) (by unfold AS; omega)
  have u2 : upd2 v 67 T a 47 25 = 0 := by rw [upd2_n _ (by omega)]; exact h25
  have u3 : Fr (fun r j => r = 67 ∧ j = T) v (upd2 v 67 T a) := Fr.rf.up ⟨rfl, rfl⟩
  have u4 : upd2 v 67 T a 67 T = a := upd2_s _ _ _ _
  generalize upd2 v 67 T a = u at *
  have s67 : ∀ r j, (r = 67 ∧ j = T) → SeS T r j := fun r j q => by unfold SeS; omega
  have f0 : Fr (SeS T) v u := u3.mono (fun r j h q => h (s67 r j q))
  have sQS : ∀ r j, SeQ T r j → SeS T r j := fun r j q => by
    rcases q with q | q
    · exact Or.inl q
    · unfold SeS; omega
  have sBS : ∀ r j, BeS T r j → SeS T r j := fun r j q => by
    rcases q with q | q
    · exact Or.inl q
    · unfold SeS; omega
  have sWS : ∀ r j, WhS T r j → SeS T r j := fun r j q => by
    rcases q with q | q
    · exact Or.inl q
    · unfold SeS; omega
  have bad_ : ∀ r V, rSelect b n a = r → r.1 = false → Fr (SeS T) v V → V 47 25 = 1 → V 47 26 = r.2 → SelR b n T v a (rSelect b n a) V := fun r V e z1 z2 z3 z4 => by
    rw [e]; exact ⟨⟨z2, Or.inr ⟨z1, z3, z4⟩⟩, fun z => by rw [z1] at z; exact Bool.noConfusion z⟩
  refine ⟨⟨by omega, by omega⟩, ⟨by omega, by omega⟩, _, c_sign (b := b) (n := n) (T := T) hW u1 u2 61 (by unfold sgB; omega), fun w3 hP => ?_⟩
  obtain ⟨f1, ⟨z1, z2, z3⟩ | ⟨z1, z2, z3⟩⟩ := hP
  rotate_left
  · refine ⟨fun _ => ?_, fun g => by omega⟩
    have e : rSelect b n a = rTake b n 61 a := by unfold rSelect; rw [rThen_f z1]
    have hq := bad_ _ w3 e z1 (f0.via f1 (fun _ _ q => q) (fun _ _ q => SeS_AS q)) z2 z3
    refine bX11_select_37 0 (Nat.le_refl _) hW (fun _ => ⟨fun _ => ⟨fun _ => (l_selbad hW (Nat.le_refl _) 0 z2 ⟨rfl, hq⟩).2.2.2.2.1, fun g => by omega⟩, fun g => absurd rfl g⟩)
  refine ⟨fun g => absurd z3 g, fun _ => ?_⟩
  obtain ⟨e1, e2⟩ := rTake_t z1
  rw [e1] at z2
  have f2 : Fr (SeS T) v w3 := f0.via f1 (fun _ _ q => q) (fun _ _ q => SeS_AS q)
  have es : rSelect b n a = rThen (rRes b n 6 (a + 1)) (fun a => rThen (rBeh b n 3 a) (rWhere b n)) := by unfold rSelect; rw [rThen_t z1, e1]
  have g3 : ∀ r j, ¬ AS T r j → w3 r j = u r j := f1
  have q0 : qN b n (a + 1) 0 = a + 1 := rfl
  refine l_res (v := w3) (a0 := a + 1) hW (Nat.le_refl _) 6 0 w3 rfl ?_ (by rw [q0]; exact z2) z3 Fr.rf (fun c hc => absurd hc (Nat.not_lt_zero _)) (fun h => absurd h (Nat.lt_irrefl _)) (fun c hc => absurd hc (Nat.not_lt_zero _)) (fun y V' y1 y2 y3 => by rw [q0] at y y3; exact ⟨rfl, bad_ _ V' (es.trans (rThen_f y)) y (f2.via y1 (fun _ _ q => q) sQS) y2 y3⟩) (fun y C V' y1 y2 y3 y4 y5 y6 y7 y8 y9 => ?_)
  · rw [g3 51 T (by unfold AS; omega), u3 51 T (by omega)]; exact h51
  · rw [q0] at y y9
    rw [rThen_t y, y9] at es
    have t1 : AT0 b n T (qN b n (a + 1) C) (upd2 V' 47 41 (qN b n (a + 1) C)) := AT.up y2 (by unfold TBs; omega) (by unfold AS; omega)
    have t2 : upd2 V' 47 41 (qN b n (a + 1) C) 47 25 = 0 := by rw [upd2_n _ (by omega)]; exact y3
    have t3 : Fr (fun r j => r = 47 ∧ j = 41) V' (upd2 V' 47 41 (qN b n (a + 1) C)) := Fr.rf.up ⟨rfl, rfl⟩
    have t4 : upd2 V' 47 41 (qN b n (a + 1) C) 47 41 = qN b n (a + 1) C := upd2_s _ _ _ _
    generalize upd2 V' 47 41 (qN b n (a + 1) C) = t at *
    have f4 : Fr (SeS T) v t := (f2.via y4 (fun _ _ q => q) sQS).via t3 (fun _ _ q => q) (fun r j q => by unfold SeS; omega)
    have k54 : t 54 T = 0 := by
      rw [t3 54 T (by omega), y4 54 T (by unfold SeQ AS; omega), g3 54 T (by unfold AS; omega), u3 54 T (by omega)]; exact h54
    refine l_beh (v := t) (a1 := qN b n (a + 1) C) hW (Nat.le_refl _) 3 0 _ t rfl (by omega) k54 t1 t2 Fr.rf (fun c hc => absurd hc (Nat.not_lt_zero _)) (fun h => absurd h (Nat.lt_irrefl _)) (fun c hc => absurd hc (Nat.not_lt_zero _)) (fun x V2 x1 x2 x3 => ⟨rfl, bad_ _ V2 (by rw [es]; exact rThen_f x) x (f4.via x1 (fun _ _ q => q) sBS) x2 x3⟩) (fun x B V2 x1 x2 x3 x4 x5 x6 x7 x8 x9 => ?_)
    have es2 : rSelect b n a = rWhere b n (qN b n (a + 1) C + 2 * B - 1) := by rw [es, ← x8]; exact rThen_t x
    rw [x8] at x2 x9
    have f5 : Fr (SeS T) v V2 := f4.via x4 (fun _ _ q => q) sBS
    refine l_where (v := V2) hW x2 x3 (fun V3 v1 v2 => ⟨rfl, v1.mono f5 (fun r j h q => h (sWS r j q)) |>.r es2, fun hy => ⟨C, B, ⟨y1, x1⟩, ⟨?_, ?_, ?_, ?_⟩, y6, ?_, y8, x6, ?_, x9, es2, V2, fun q hq => ⟨?_, ?_⟩, v2 (by rw [← es2]; exact hy)⟩⟩)
    · rw [v1.1 51 T (by unfold WhS AS; omega), x4 51 T (by unfold BeS AS; omega), t3 51 T (by omega)]; exact y5
    · rw [v1.1 54 T (by unfold WhS AS; omega)]; exact x5
    · rw [v1.1 67 T (by unfold WhS AS; omega), x4 67 T (by unfold BeS AS; omega), t3 67 T (by omega), y4 67 T (by unfold SeQ AS; omega), g3 67 T (by unfold AS; omega)]; exact u4
    · rw [v1.1 47 41 (by unfold WhS AS; omega), x4 47 41 (by unfold BeS AS; omega)]; exact t4
    · refine ((y7.fr t3 (fun c hc => ⟨by omega, by omega, by omega⟩)).fr x4 (fun c hc => ⟨by unfold BeS AS; omega, by unfold BeS AS; omega, by unfold BeS AS; omega⟩)).fr v1.1 (fun c hc => ⟨by unfold WhS AS; omega, by unfold WhS AS; omega, by unfold WhS AS; omega⟩)
    · exact x7.fr v1.1 (fun j => ⟨by unfold WhS AS; omega, by unfold WhS AS; omega⟩)
    · rw [x4 65 _ (by unfold BeS AS; omega), t3 65 _ (by omega), y4 65 _ (by unfold SeQ AS; omega), g3 65 _ (by unfold AS; omega), u3 65 _ (by omega)]
    · rw [x4 66 _ (by unfold BeS AS; omega), t3 66 _ (by omega), y4 66 _ (by unfold SeQ AS; omega), g3 66 _ (by unfold AS; omega), u3 66 _ (by omega)]
