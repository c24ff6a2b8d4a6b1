/-! ===== stored types are what they should be ===== -/
theorem Rt_live {G : GT} {v : VV} {τ τ' : Int → Int} {q f : Int} (hI : MS G v) (hS : isS v q) (hp : PF v q f) (h : ∀ s c, isC v s c → s < q → τ (8 * s + c) = τ' (8 * s + c)) : ∀ k, rfF (G q).1 (G q).2 3 (v 65 (8 * q + f)) k → Rt G v τ q k = Rt G v τ' q k := fun k hk => by
  obtain ⟨-, -, -, -, f5⟩ := (hI.2.2 q hS).2 f hp
  obtain ⟨⟨a1, a2, a3⟩, a4, a5⟩ := f5 k hk
  exact h _ _ ⟨⟨a1, by have := hS.1.2.1; omega, a3⟩, a4, a5⟩ a2
theorem TyC_live {G : GT} {v : VV} {τ τ' : Int → Int} {q f : Int} (hI : MS G v) (hS : isS v q) (hp : PF v q f) (h : ∀ s c, isC v s c → s < q → τ (8 * s + c) = τ' (8 * s + c)) : TyC G v τ q f = TyC G v τ' q f := tyF_cg (Rt_live hI hS hp h)
theorem ErC_live {G : GT} {v : VV} {τ τ' : Int → Int} {q f : Int} (hI : MS G v) (hS : isS v q) (hp : PF v q f) (h : ∀ s c, isC v s c → s < q → τ (8 * s + c) = τ' (8 * s + c)) : ErC G v τ q f ↔ ErC G v τ' q f := by
  unfold ErC
  have e : ∀ p, erF (G q).1 (G q).2 (Rt G v τ q) 3 (v 65 (8 * q + f)) p ↔ erF (G q).1 (G q).2 (Rt G v τ' q) 3 (v 65 (8 * q + f)) p := fun p => erF_cg (Rt_live hI hS hp h)
  simp only [e]
theorem badW_live {G : GT} {v : VV} {τ τ' : Int → Int} {q : Int} (hI : MS G v) (hS : isS v q) (h : ∀ s c, isC v s c → s < q → τ (8 * s + c) = τ' (8 * s + c)) : badW G v τ q ↔ badW G v τ' q := by
  unfold badW
  by_cases hw : 0 < v 66 (8 * q + 7)
  · rw [ErC_live hI hS (Or.inr ⟨Or.inl rfl, hw⟩) h, ErC_live hI hS (Or.inr ⟨Or.inr rfl, hw⟩) h, TyC_live hI hS (Or.inr ⟨Or.inl rfl, hw⟩) h, TyC_live hI hS (Or.inr ⟨Or.inr rfl, hw⟩) h]
  · exact ⟨fun z => absurd z.1 hw, fun z => absurd z.1 hw⟩
/-- only the columns of living tables count -/
theorem tau_live {G : GT} {v : VV} {τ0 τ1 : Int → Int} (hI : MS G v) (h : ∀ s c, isC v s c → τ0 (8 * s + c) = τ1 (8 * s + c)) : ∀ (q : Nat) (s c : Int), isC v s c → tau G v τ0 q (8 * s + c) = tau G v τ1 q (8 * s + c)
  | 0, s, c, hc => h s c hc
  | q + 1, s, c, hc => by
    have ih := tau_live hI h q
    show @ite Int _ (Classical.propDecidable _) _ _ = @ite Int _ (Classical.propDecidable _) _ _
    by_cases z : isS v q ∧ 8 * (q : Int) ≤ 8 * s + c ∧ 8 * s + c < 8 * q + v 51 q
    · have hp : PF v q (8 * s + c - 8 * q) := Or.inl ⟨by omega, by omega⟩
      have hE : ErC G v (tau G v τ0 q) q (8 * s + c - 8 * q) ↔ ErC G v (tau G v τ1 q) q (8 * s + c - 8 * q) := ErC_live hI z.1 hp (fun s c hc _ => ih s c hc)
      by_cases y : ErC G v (tau G v τ0 q) q (8 * s + c - 8 * q)
      · rw [if_neg (fun x => x.2 y), if_neg (fun x => x.2 (hE.mp y))]; exact ih s c hc
      · rw [if_pos ⟨z, y⟩, if_pos ⟨z, fun x => y (hE.mpr x)⟩]
        exact TyC_live hI z.1 hp (fun s c hc _ => ih s c hc)
    · rw [if_neg (fun x => z x.1), if_neg (fun x => z x.1)]; exact ih s c hc
/-- what lies ahead of the change stays -/
theorem tau_old {G : GT} {v : VV} {τ0 : Int → Int} {T : Int} (hI : MS G v) (hTy : TyOK G v) (h : ∀ s c, isC v s c → s < T → τ0 (8 * s + c) = v 53 (8 * s + c)) : ∀ (q : Nat), (q : Int) ≤ T → ∀ j, tau G v τ0 q j = τ0 j
  | 0, _, _ => rfl
  | q + 1, hq, j => by
    have ih := tau_old hI hTy h q (by omega)
    show @ite Int _ (Classical.propDecidable _) _ _ = _
    by_cases z : (isS v q ∧ 8 * (q : Int) ≤ j ∧ j < 8 * q + v 51 q) ∧ ¬ ErC G v (tau G v τ0 q) q (j - 8 * q)
    · rw [if_pos z]
      obtain ⟨⟨z1, z2, z3⟩, -⟩ := z
      have hp : PF v q (j - 8 * q) := Or.inl ⟨by omega, by omega⟩
      rw [TyC_live (τ' := v 53) hI z1 hp (fun s c hc hs => by rw [ih]; exact h s c hc (by omega)), ((hTy q z1).1 (j - 8 * q) (by omega) (by omega)).2]
      have := h q (j - 8 * q) ⟨z1.1, by omega, by omega⟩ (by omega)
      rw [show 8 * (q : Int) + (j - 8 * q) = j by omega] at this ⊢
      exact this.symm
    · rw [if_neg z]; exact ih j
/-- the tables ahead of the change give no trouble -/
theorem trb_old {G : GT} {v : VV} {τ0 : Int → Int} {T : Int} (hI : MS G v) (hTy : TyOK G v) (h : ∀ s c, isC v s c → s < T → τ0 (8 * s + c) = v 53 (8 * s + c)) (hF : ∀ s c, isC v s c → s < T → tauF G v τ0 (8 * s + c) = v 53 (8 * s + c)) {j : Int} (hj : j / 8 ≤ T) : ¬ trb G v τ0 j := by
  rintro ⟨hS, z⟩
  obtain ⟨y1, y2⟩ := hTy (j / 8) hS
  have hl : ∀ s c, isC v s c → s < j / 8 → tauF G v τ0 (8 * s + c) = v 53 (8 * s + c) := fun s c hc hs => hF s c hc (by omega)
  rcases z with ⟨z1, z2⟩ | ⟨z1, z2⟩
  · have hp : PF v (j / 8) (j % 8) := Or.inl ⟨by omega, z1⟩
    exact (y1 (j % 8) (by omega) z1).1 ((ErC_live hI hS hp hl).mp z2)
  · exact y2 ((badW_live hI hS hl).mp z2)
set_option maxRecDepth 100000 in
set_option maxHeartbeats 4000000 in
theorem k_countBeside {X : XX} {v : VV} (hW : SW X) (a : Int) : CX mX10_countRetypedBeside 0 [(2, 0), (0, a)] X v (fun o w => w = v ∧ o = some (0, cnt (fun j => ¬ j = a ∧ ¬ v 39 j = v 38 j) 128)) := by
  have key : ∀ (x : Int), (0 ≤ x ∧ x ≤ 128) → Ex mX10_countRetypedBeside 0 4 [(2, 0), (0, a), (0, cnt (fun j => ¬ j = a ∧ ¬ v 39 j = v 38 j) x.toNat), (0, x)] [] X v 0 0 (fun o X1 w => X1 = X ∧ w = v ∧ o = some (0, cnt (fun j => ¬ j = a ∧ ¬ v 39 j = v 38 j) 128)) := by
    refine loop1 (fun (x : Int) => (128 - x).toNat) (fun (x : Int) => (0 ≤ x ∧ x ≤ 128) → Ex mX10_countRetypedBeside 0 4 [(2, 0), (0, a), (0, cnt (fun j => ¬ j = a ∧ ¬ v 39 j = v 38 j) x.toNat), (0, x)] [] X v 0 0 (fun o X1 w => X1 = X ∧ w = v ∧ o = some (0, cnt (fun j => ¬ j = a ∧ ¬ v 39 j = v 38 j) 128))) (fun x ih => ?_)
    intro hx
    have hs := cnt_s (fun j => ¬ j = a ∧ ¬ v 39 j = v 38 j) hx.1
    have hb := cnt_bd (fun j => ¬ j = a ∧ ¬ v 39 j = v 38 j) x.toNat
    have no : x < 128 → ¬ (¬ x = a ∧ ¬ v 39 x = v 38 x) → i32 (x + 1) ∧ Ex mX10_countRetypedBeside 0 4 [(2, 0), (0, a), (0, cnt (fun j => ¬ j = a ∧ ¬ v 39 j = v 38 j) x.toNat), (0, x + 1)] [] X v 0 0 (fun o X1 w => X1 = X ∧ w = v ∧ o = some (0, cnt (fun j => ¬ j = a ∧ ¬ v 39 j = v 38 j) 128)) := fun g z => by
      have hi := ih (x + 1) (by omega) ⟨by omega, by omega⟩
      rw [hs, bI_f z, Int.add_zero] at hi
      exact ⟨⟨by omega, by omega⟩, hi⟩
    refine bX10_countRetypedBeside_4 a _ x (Nat.le_refl _) hW (fun _ _ _ => ⟨fun g => ?_, fun g => ⟨fun g2 => no g (fun z => z.1 g2), fun g2 => ⟨⟨hx.1, g⟩, ⟨hx.1, g⟩, fun g3 => no g (fun z => z.2 g3), fun g3 => ?_⟩⟩⟩)
    · obtain rfl : x = 128 := by omega
      exact ⟨rfl, rfl, rfl⟩
    · have hi := ih (x + 1) (by omega) ⟨by omega, by omega⟩
      rw [hs, bI_t ⟨g2, g3⟩] at hi
      exact ⟨⟨by omega, by omega⟩, ⟨by omega, by omega⟩, hi⟩
  exact CX.of (by decide +kernel) rfl rfl rfl (bX10_countRetypedBeside_0 a (Nat.le_refl _) hW (fun _ => key 0 ⟨by decide, by decide⟩))
