/-! ===== ages on either side ===== -/
def AgO (q : Int × Int) : Prop := (q.1 = -1 ∧ q.2 = -1) ∨ (0 ≤ q.1 ∧ q.1 ≤ q.2 ∧ q.2 ≤ 30000)
theorem agL_ok {g : Int → Int × Int} {fr : Int → Int} : ∀ (n : Nat), (∀ k : Int, 0 ≤ k → k < n → AgO (g (fr k))) → ∀ q, agL g fr n = some q → AgO q ∧ (0 < n → ¬ q.2 = -1)
  | 0, _, q, h => by
    have : q = (-1, -1) := by have h' : some ((-1 : Int), (-1 : Int)) = some q := h; simpa using h'.symm
    subst this
    exact ⟨Or.inl ⟨rfl, rfl⟩, fun z => absurd z (Nat.lt_irrefl 0)⟩
  | n + 1, hg, q, h => by
    unfold agL at h
    cases hn : agL g fr n with
    | none => rw [hn] at h; simp at h
    | some q0 =>
      rw [hn] at h
      obtain ⟨h0, -⟩ := agL_ok n (fun k k0 k1 => hg k k0 (by omega)) q0 hn
      have hk := hg n (by omega) (by omega)
      by_cases hz : (g (fr n)).2 = -1
      · simp [hz] at h
      · simp only [hz, if_false, Option.some.injEq] at h
        subst h
        unfold AgO at h0 hk ⊢
        refine ⟨Or.inr ?_, fun _ => ?_⟩
        · simp only
          split <;> split <;> omega
        · simp only
          split <;> omega
theorem agB_ok {v : VV} {g : Int → Int × Int} {t : Int} (h : ∀ k, 0 ≤ k → k < v 54 t → AgO (g (v 55 (3 * t + k)))) : AgO (agB v g t) := by
  unfold agB
  cases hn : agL g (fun k => v 55 (3 * t + k)) (v 54 t).toNat with
  | none => exact Or.inl ⟨rfl, rfl⟩
  | some q => exact (agL_ok _ (fun k k0 k1 => h k k0 (by omega)) q hn).1
theorem ag_ok {v : VV} (hb : v 47 0 ≤ 16) (hM : MT v) : ∀ (f : Nat) (t : Int), 0 ≤ t → t < v 47 0 → t.toNat < f → AgO (ag v t)
  | 0, _, _, _, h => absurd h (Nat.not_lt_zero _)
  | f + 1, t, h0, h1, hf => by
    rw [ag_eq hb hM t h0 h1]
    obtain ⟨-, -, -, m4, m5, -, -, -, -, m10⟩ := hM t h0 h1
    split
    · refine agB_ok (fun k k0 k1 => ?_)
      obtain ⟨q0, q1, -⟩ := m5 k k0 k1
      exact ag_ok hb hM f _ q0 (by omega) (by omega)
    · exact m10
/-- the class takes a view's age from the tables behind -/
def TkA (X : XX) (v : VV) (o : Int) (fr : Int → Int) (n : Nat) (o1 : Option AV) (v1 : VV) : Prop := ((agL (fun s => (v (X.2 37 s) 6, v (X.2 37 s) 7)) fr n = none ∨ n = 0) ∧ v1 = v ∧ o1 = some (0, 0)) ∨ (∃ q, agL (fun s => (v (X.2 37 s) 6, v (X.2 37 s) 7)) fr n = some q ∧ 0 < n ∧ v1 = upd2 (upd2 v o 6 q.1) o 7 q.2 ∧ o1 = some (0, 1))
set_option maxRecDepth 100000 in
set_option maxHeartbeats 4000000 in
theorem k_takeAge {X : XX} {v : VV} {o : Int} {B : Nat} {fr : Int → Int} (hW : SW X) (hTO : TObj X) (hs : X.1.2 o = (7, 0) ∧ (0 ≤ o ∧ o < X.1.1)) (h2 : X.2 o 2 = o + 2) (hR : RowS X (o + 2) (o + 3) B) (hn : 0 ≤ v (o + 2) 1 ∧ v (o + 2) 1 ≤ B) (hB : B ≤ 3) (hfr : ∀ k, 0 ≤ k → k < v (o + 2) 1 → v (o + 3) k = fr k ∧ (0 ≤ fr k ∧ fr k < 16) ∧ ¬ X.2 37 (fr k) = -1 ∧ AgO (v (X.2 37 (fr k)) 6, v (X.2 37 (fr k)) 7)) : CX mX10_takeAgeFromBehind 1 [(2, 0), (2, o)] X v (fun o1 v1 => TkA X v o fr (v (o + 2) 1).toNat o1 v1) := by
  have hok : ∀ k : Int, 0 ≤ k → k < v (o + 2) 1 → AgO ((fun s => (v (X.2 37 s) 6, v (X.2 37 s) 7)) (fr k)) := fun k k0 k1 => (hfr k k0 k1).2.2.2
  have key : ∀ (i x2 x3 : Int), (0 ≤ i ∧ i ≤ v (o + 2) 1) → (∃ q, agL (fun s => (v (X.2 37 s) 6, v (X.2 37 s) 7)) fr i.toNat = some q ∧ x3 = q.2 ∧ ((i = 0 ∧ q.1 = -1 ∧ q.2 = -1 ∧ x2 = 30000) ∨ (0 < i ∧ 0 ≤ q.1 ∧ q.1 ≤ q.2 ∧ q.2 ≤ 30000 ∧ x2 = q.1))) → Ex mX10_takeAgeFromBehind 1 9 [(2, 0), (2, o), (0, x2), (0, x3), (0, i), (3, 0)] [] X v 0 0 (fun o1 X1 v1 => X1 = X ∧ TkA X v o fr (v (o + 2) 1).toNat o1 v1) := by
    refine loop3 (fun (i _ _ : Int) => (v (o + 2) 1 - i).toNat) (fun (i x2 x3 : Int) => (0 ≤ i ∧ i ≤ v (o + 2) 1) → (∃ q, agL (fun s => (v (X.2 37 s) 6, v (X.2 37 s) 7)) fr i.toNat = some q ∧ x3 = q.2 ∧ ((i = 0 ∧ q.1 = -1 ∧ q.2 = -1 ∧ x2 = 30000) ∨ (0 < i ∧ 0 ≤ q.1 ∧ q.1 ≤ q.2 ∧ q.2 ≤ 30000 ∧ x2 = q.1))) → Ex mX10_takeAgeFromBehind 1 9 [(2, 0), (2, o), (0, x2), (0, x3), (0, i), (3, 0)] [] X v 0 0 (fun o1 X1 v1 => X1 = X ∧ TkA X v o fr (v (o + 2) 1).toNat o1 v1)) (fun i x2 x3 ih => ?_)
    intro hi hq
    obtain ⟨q, q1, q2, q3⟩ := hq
    refine bX10_takeAgeFromBehind_9 o x2 x3 i (Nat.le_refl _) hW (fun _ _ _ => ?_)
    rw [h2]
    refine ⟨hs.1, hs.2, hR.1, hR.2.1, _, k_size hW hR, fun r4 w5 hP => ?_⟩
    obtain ⟨rfl, hr⟩ := hP
    obtain rfl : r4 = w5 (o + 2) 1 := by simpa using hr
    refine ⟨fun g => ?_, fun g => ?_⟩
    · have ei : i = w5 (o + 2) 1 := by omega
      rw [ei] at q1
      refine ⟨fun g2 => ⟨rfl, Or.inr ⟨q, q1, by omega, ?_, rfl⟩⟩, fun g2 => ⟨rfl, Or.inl ⟨Or.inr (by omega), rfl, rfl⟩⟩⟩
      rw [q2]
      rcases q3 with z | z
      · omega
      · rw [z.2.2.2.2]
    · obtain ⟨f1, f2, f3, f4⟩ := hfr i hi.1 g
      refine ⟨_, k_get hW hR hn.2 i, fun r8 w9 hP => ?_⟩
      obtain ⟨rfl, hr8⟩ := hP
      obtain rfl : r8 = fr i := by rw [rGet_in ⟨hi.1, g⟩, f1] at hr8; simpa using hr8
      refine ⟨_, k_tableAt hW _, fun r12 w13 hP => ?_⟩
      obtain ⟨rfl, hr12⟩ := hP
      obtain rfl : r12 = X.2 37 (fr i) := by rw [if_pos f2] at hr12; simpa using hr12
      have hL : agL (fun s => (w13 (X.2 37 s) 6, w13 (X.2 37 s) 7)) fr (i + 1).toNat = if w13 (X.2 37 (fr i)) 7 = -1 then none else some (if q.1 = -1 ∨ w13 (X.2 37 (fr i)) 6 < q.1 then w13 (X.2 37 (fr i)) 6 else q.1, if q.2 < w13 (X.2 37 (fr i)) 7 then w13 (X.2 37 (fr i)) 7 else q.2) := by
        rw [show (i + 1).toNat = i.toNat + 1 by omega]
        unfold agL
        rw [q1, Int.toNat_of_nonneg hi.1]
      have ho := (hTO (fr i) f2.1 f2.2).elim (fun z => absurd z f3) id
      refine ⟨fun g2 => absurd g2 f3, fun _ => ⟨ho.1, ⟨by omega, ho.2.2⟩, fun g3 => ⟨⟨by omega, by omega⟩, ?_⟩, fun g3 => ⟨rfl, Or.inl ⟨?_, rfl, rfl⟩⟩⟩⟩
      · rw [if_neg g3] at hL
        refine ih (i + 1) _ _ (by omega) ⟨by omega, by omega⟩ ⟨_, hL, by rw [q2], Or.inr ⟨by omega, ?_⟩⟩
        have f5 : AgO (w13 (X.2 37 (fr i)) 6, w13 (X.2 37 (fr i)) 7) := f4
        unfold AgO at f5
        simp only at f5
        rcases q3 with ⟨z1, z2, z3, z4⟩ | ⟨z1, z2, z3, z4, z5⟩
        · rw [z2, z3, z4]
          rw [if_pos (Or.inl rfl)]
          refine ⟨by omega, ?_, ?_, ?_⟩
          · split <;> omega
          · split <;> omega
          · split <;> omega
        · rw [z5]
          refine ⟨?_, ?_, ?_, ?_⟩
          · split <;> omega
          · split <;> split <;> omega
          · split <;> omega
          · by_cases y : w13 (X.2 37 (fr i)) 6 < q.1
            · rw [if_pos y, if_pos (Or.inr y)]
            · rw [if_neg y, if_neg (by omega)]
      · rw [if_pos g3] at hL
        exact Or.inl (agL_none hL _ (by omega))
  exact CX.of (by decide +kernel) rfl rfl rfl (bX10_takeAgeFromBehind_0 o (Nat.le_refl _) hW (key 0 30000 (-1) ⟨Int.le_refl _, hn.1⟩ ⟨(-1, -1), rfl, rfl, Or.inl ⟨rfl, rfl, rfl, rfl⟩⟩))
/-- the ages of the tables -/
def SAg (X : XX) (r j : Int) : Prop := (∃ t, 0 ≤ t ∧ t < 16 ∧ ¬ X.2 37 t = -1 ∧ r = X.2 37 t) ∧ (j = 6 ∨ j = 7)
def Dsj (X : XX) : Prop := ∀ s t, 0 ≤ s → s < t → t < 16 → ¬ X.2 37 s = -1 → ¬ X.2 37 t = -1 → X.2 37 s + 13 ≤ X.2 37 t
theorem Dsj.ne {X : XX} (h : Dsj X) {s t : Int} (h0 : 0 ≤ s ∧ s < 16) (h1 : 0 ≤ t ∧ t < 16) (hs : ¬ X.2 37 s = -1) (ht : ¬ X.2 37 t = -1) (hne : ¬ s = t) : X.2 37 s + 13 ≤ X.2 37 t ∨ X.2 37 t + 13 ≤ X.2 37 s := by
  rcases Int.lt_trichotomy s t with z | z | z
  · exact Or.inl (h s t h0.1 z h1.2 hs ht)
  · exact absurd z hne
  · exact Or.inr (h t s h1.1 z h0.2 ht hs)
/-- writing ages leaves all else of a table as it is -/
theorem TabN.ag {G : GT} {X : XX} {vc w vm : VV} {C : Nat} {t : Int} (h : TabN G X vc vm C t (X.2 37 t)) (hD : Dsj X) (ht : (0 ≤ t ∧ t < 16) ∧ ¬ X.2 37 t = -1) (hf : Fr (SAg X) vc w) : TabN G X w vm C t (X.2 37 t) := h.c (fun r j r0 r1 hn => hf r j (fun ⟨⟨s, s0, s1, s2, e⟩, hj⟩ => by
    by_cases z : s = t
    · rw [z] at e; exact hn ⟨e, hj⟩
    · have := hD.ne ⟨s0, s1⟩ ht.1 s2 ht.2 z
      omega))
set_option maxRecDepth 100000 in
set_option maxHeartbeats 4000000 in
theorem k_settle {G : GT} {X : XX} {v vm : VV} {cC : Int → Nat} (hW : SW X) (hTO : TObj X) (hD : Dsj X) (hb : vm 47 0 ≤ 16) (hM : MT vm) (hlv : ∀ t, 0 ≤ t → t < 16 → ((t < vm 47 0 ∧ ¬ vm 48 t = 0) ↔ ¬ X.2 37 t = -1)) (hN : ∀ t, 0 ≤ t → t < 16 → ¬ X.2 37 t = -1 → TabN G X v vm (cC t) t (X.2 37 t)) (h0 : ∀ t, 0 ≤ t → t < 16 → ¬ X.2 37 t = -1 → ¬ vm 50 t = 1 → v (X.2 37 t) 6 = (ag vm t).1 ∧ v (X.2 37 t) 7 = (ag vm t).2) (h1 : ∀ t, 0 ≤ t → t < 16 → ¬ X.2 37 t = -1 → vm 50 t = 1 → (ag vm t).2 = -1 → v (X.2 37 t) 6 = -1 ∧ v (X.2 37 t) 7 = -1) : CX mX10_settleViews 2 [(2, 0)] X v (fun _ v1 => Fr (SAg X) v v1 ∧ ∀ t, 0 ≤ t → t < 16 → ¬ X.2 37 t = -1 → v1 (X.2 37 t) 6 = (ag vm t).1 ∧ v1 (X.2 37 t) 7 = (ag vm t).2) := by
  have key : ∀ (x : Int) (V : VV), (0 ≤ x ∧ x ≤ 16) → Fr (SAg X) v V → (∀ t, 0 ≤ t → t < 16 → ¬ X.2 37 t = -1 → (t < x ∨ ¬ vm 50 t = 1) → V (X.2 37 t) 6 = (ag vm t).1 ∧ V (X.2 37 t) 7 = (ag vm t).2) → (∀ t, x ≤ t → t < 16 → ¬ X.2 37 t = -1 → V (X.2 37 t) 6 = v (X.2 37 t) 6 ∧ V (X.2 37 t) 7 = v (X.2 37 t) 7) → Ex mX10_settleViews 2 2 [(2, 0), (0, x), (3, 0)] [] X V 0 0 (fun _ X1 v1 => X1 = X ∧ Fr (SAg X) v v1 ∧ ∀ t, 0 ≤ t → t < 16 → ¬ X.2 37 t = -1 → v1 (X.2 37 t) 6 = (ag vm t).1 ∧ v1 (X.2 37 t) 7 = (ag vm t).2) := by
    refine loop2 (fun (x : Int) (_ : VV) => (16 - x).toNat) (fun (x : Int) (V : VV) => (0 ≤ x ∧ x ≤ 16) → Fr (SAg X) v V → (∀ t, 0 ≤ t → t < 16 → ¬ X.2 37 t = -1 → (t < x ∨ ¬ vm 50 t = 1) → V (X.2 37 t) 6 = (ag vm t).1 ∧ V (X.2 37 t) 7 = (ag vm t).2) → (∀ t, x ≤ t → t < 16 → ¬ X.2 37 t = -1 → V (X.2 37 t) 6 = v (X.2 37 t) 6 ∧ V (X.2 37 t) 7 = v (X.2 37 t) 7) → Ex mX10_settleViews 2 2 [(2, 0), (0, x), (3, 0)] [] X V 0 0 (fun _ X1 v1 => X1 = X ∧ Fr (SAg X) v v1 ∧ ∀ t, 0 ≤ t → t < 16 → ¬ X.2 37 t = -1 → v1 (X.2 37 t) 6 = (ag vm t).1 ∧ v1 (X.2 37 t) 7 = (ag vm t).2)) (fun x V ih => ?_)
    intro hx hf hA hB
    -- on, when nothing is done at x
    have skip : ∀ W, W = V → (¬ X.2 37 x = -1 → vm 50 x = 1 → V (X.2 37 x) 6 = (ag vm x).1 ∧ V (X.2 37 x) 7 = (ag vm x).2) → x < 16 → i32 (x + 1) ∧ Ex mX10_settleViews 2 2 [(2, 0), (0, x + 1), (3, 0)] [] X W 0 0 (fun _ X1 v1 => X1 = X ∧ Fr (SAg X) v v1 ∧ ∀ t, 0 ≤ t → t < 16 → ¬ X.2 37 t = -1 → v1 (X.2 37 t) 6 = (ag vm t).1 ∧ v1 (X.2 37 t) 7 = (ag vm t).2) := fun W hWV hx1 hx2 => by
      subst hWV
      refine ⟨⟨by omega, by omega⟩, ih (x + 1) W (by omega) ⟨by omega, by omega⟩ hf (fun t t0 t1 t2 t3 => ?_) (fun t t0 t1 t2 => hB t (by omega) t1 t2)⟩
      by_cases z : t = x
      · rw [z] at t2 t3 ⊢
        by_cases y : vm 50 x = 1
        · exact hx1 t2 y
        · exact hA x hx.1 hx2 t2 (Or.inr y)
      · exact hA t t0 t1 t2 (by omega)
    refine bX10_settleViews_2 x (Nat.le_refl _) hW (fun _ => ⟨fun g => ⟨rfl, hf, fun t t0 t1 t2 => hA t t0 t1 t2 (Or.inl (by omega))⟩, fun g => ⟨⟨hx.1, g⟩, fun g2 => skip V rfl (fun z => absurd g2 z) g, fun g2 => ?_⟩⟩)
    have ho := (hTO x hx.1 g).elim (fun z => absurd z g2) id
    have hNx := (hN x hx.1 g g2).ag hD ⟨⟨hx.1, g⟩, g2⟩ hf
    obtain ⟨B, I, W, ⟨⟨s1, s2, -, ⟨s3, s4⟩, -⟩, -, hB3, -⟩, ⟨k1, -⟩, ⟨⟨k2, k3, k4⟩, k5⟩, -⟩ := hNx
    have hlx := (hlv x hx.1 g).mpr g2
    obtain ⟨m1, -, -, m4, m5, -⟩ := hM x hx.1 hlx.1
    have h48 : vm 48 x = 1 := m1.elim (fun z => absurd z hlx.2) id
    rw [k1]
    refine ⟨ho.1, ⟨by omega, ho.2.2⟩, fun g3 => skip V rfl (fun _ z => absurd z g3) g, fun g3 => ?_⟩
    have hbeh : ∀ k, 0 ≤ k → k < vm 54 x → (0 ≤ vm 55 (3 * x + k) ∧ vm 55 (3 * x + k) < x) ∧ ¬ X.2 37 (vm 55 (3 * x + k)) = -1 := fun k i0 i1 => by
      obtain ⟨a1, a2, a3⟩ := m5 k i0 i1
      refine ⟨⟨a1, a2⟩, (hlv _ a1 (by omega)).mp ⟨by omega, ?_⟩⟩
      rw [a3 h48]; decide
    have hst : ∀ k, 0 ≤ k → k < vm 54 x → V (X.2 37 (vm 55 (3 * x + k))) 6 = (ag vm (vm 55 (3 * x + k))).1 ∧ V (X.2 37 (vm 55 (3 * x + k))) 7 = (ag vm (vm 55 (3 * x + k))).2 := fun k i0 i1 => by
      obtain ⟨⟨a1, a2⟩, a3⟩ := hbeh k i0 i1
      exact hA _ a1 (by omega) a3 (Or.inl a2)
    have hage := ag_eq hb hM x hx.1 hlx.1
    rw [if_pos g3] at hage
    have hagL : agL (fun s => (V (X.2 37 s) 6, V (X.2 37 s) 7)) (fun k => vm 55 (3 * x + k)) (V (X.2 37 x + 2) 1).toNat = agL (ag vm) (fun k => vm 55 (3 * x + k)) (vm 54 x).toNat := by
      rw [k2]
      refine agL_congr _ (fun i i0 i1 => ?_)
      have := hst i i0 (by omega)
      show (V (X.2 37 (vm 55 (3 * x + i))) 6, V (X.2 37 (vm 55 (3 * x + i))) 7) = ag vm (vm 55 (3 * x + i))
      rw [this.1, this.2]
    refine ⟨_, k_takeAge (fr := fun k => vm 55 (3 * x + k)) hW hTO ⟨ho.1, by omega, ho.2.2⟩ s3 s4 ⟨by omega, by omega⟩ hB3 (fun k i0 i1 => ?_), fun r3 w4 hP => ?_⟩
    · rw [k2] at i1
      obtain ⟨⟨a1, a2⟩, a3⟩ := hbeh k i0 i1
      have a4 := hst k i0 i1
      have a5 := ag_ok hb hM 17 (vm 55 (3 * x + k)) a1 (by omega) (by omega)
      refine ⟨k5 k i0 i1, ⟨a1, by omega⟩, a3, ?_⟩
      show AgO (V (X.2 37 (vm 55 (3 * x + k))) 6, V (X.2 37 (vm 55 (3 * x + k))) 7)
      rw [a4.1, a4.2]
      exact a5
    · have m7 : 1 ≤ vm 54 x := by
        obtain ⟨-, -, -, -, -, -, m7, -⟩ := hM x hx.1 hlx.1
        exact m7 (Or.inl g3)
      rcases hP with ⟨p1, p2, -⟩ | ⟨q, q1, -, q3, -⟩
      · rcases p1 with p1 | p1
        · rw [hagL] at p1
          have hz : ag vm x = (-1, -1) := by rw [hage]; unfold agB; rw [p1]; rfl
          refine skip w4 p2 (fun _ _ => ?_) g
          rw [(hB x (Int.le_refl _) g g2).1, (hB x (Int.le_refl _) g g2).2, hz]
          exact h1 x hx.1 g g2 g3 (by rw [hz])
        · omega
      · rw [hagL] at q1
        have hz : ag vm x = q := by rw [hage]; unfold agB; rw [q1]; rfl
        refine ⟨⟨by omega, by omega⟩, ?_⟩
        have hup : ∀ r j, ¬ (r = X.2 37 x ∧ (j = 6 ∨ j = 7)) → w4 r j = V r j := fun r j hn => by
          rw [q3, upd2_n _ (by omega), upd2_n _ (by omega)]
        refine ih (x + 1) w4 (by omega) ⟨by omega, by omega⟩ (fun r j hn => ?_) (fun t t0 t1 t2 t3 => ?_) (fun t t0 t1 t2 => ?_)
        · rw [hup r j (fun z => hn ⟨⟨x, hx.1, g, g2, z.1⟩, z.2⟩)]; exact hf r j hn
        · by_cases z : t = x
          · rw [z, hz, q3]
            exact ⟨by rw [upd2_n _ (by omega), upd2_s], upd2_s _ _ _ _⟩
          · have := hD.ne ⟨t0, t1⟩ ⟨hx.1, g⟩ t2 g2 z
            rw [hup _ _ (by omega), hup _ _ (by omega)]
            exact hA t t0 t1 t2 (by omega)
        · have := hD.ne ⟨by omega, t1⟩ ⟨hx.1, g⟩ t2 g2 (by omega)
          rw [hup _ _ (by omega), hup _ _ (by omega)]
          exact hB t (by omega) t1 t2
  exact CX.of (by decide +kernel) rfl rfl rfl (bX10_settleViews_0 (Nat.le_refl _) hW (key 0 v ⟨by decide, by decide⟩ Fr.rf (fun t t0 t1 t2 t3 => h0 t t0 t1 t2 (t3.elim (fun z => by omega) id)) (fun t t0 t1 t2 => ⟨rfl, rfl⟩)))
