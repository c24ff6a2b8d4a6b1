/-! ===== typing speaks of the references alone ===== -/
theorem tyL_cg {b : Int → Int} {n a : Int} {R R' : Int → Int} (h : tK b n a = 256 → R a = R' a) : tyL b n R a = tyL b n R' a := by
  unfold tyL
  by_cases h1 : tK b n a = 256
  · rw [if_pos h1, if_pos h1]; exact h h1
  · rw [if_neg h1, if_neg h1]
theorem tyT_cg {b : Int → Int} {n : Int} {R R' : Int → Int} : ∀ (j : Nat) (a : Int), (∀ k, rfT b n j a k → R k = R' k) → tyT b n R j a = tyT b n R' j a
  | 0, a, h => tyL_cg (fun q => h a ⟨q, rfl⟩)
  | j + 1, a, h => by
    show (if tK b n a = 266 then 110 else if tK b n a = 267 then 116 else tyL b n R a) = (if tK b n a = 266 then 110 else if tK b n a = 267 then 116 else tyL b n R' a)
    rw [tyL_cg (R := R) (R' := R') (fun q => h a (Or.inl ⟨q, rfl⟩))]
theorem tyM_cg {b : Int → Int} {n : Int} {R R' : Int → Int} {j : Nat} : ∀ (m : Nat) (l a : Int), (∀ k, rfM b n (rTerm b n j) (rfT b n j) m a k → R k = R' k) → tyM b n (tyT b n R j) (rTerm b n j) m l a = tyM b n (tyT b n R' j) (rTerm b n j) m l a
  | 0, _, _, _ => rfl
  | m + 1, l, a, h => by
    by_cases ho : isOp (tK b n a)
    · rw [tyM_s m ho, tyM_s m ho, tyT_cg j (a + 1) (fun k q => h k ⟨ho, Or.inl q⟩)]
      exact tyM_cg m _ _ (fun k q => h k ⟨ho, Or.inr q⟩)
    · rw [tyM_no _ ho, tyM_no _ ho]
theorem tyF_cg {b : Int → Int} {n : Int} {R R' : Int → Int} {j : Nat} {a : Int} (h : ∀ k, rfF b n j a k → R k = R' k) : tyF b n R j a = tyF b n R' j a := by
  unfold tyF
  rw [tyT_cg j a (fun k q => h k (Or.inl q)), tyM_cg 5 _ _ (fun k q => h k (Or.inr q))]
theorem erM_cg {b : Int → Int} {n : Int} {R R' : Int → Int} {j : Nat} {eT eT' : Int → Int → Prop} (hE : ∀ a p, (∀ k, rfT b n j a k → R k = R' k) → (eT a p ↔ eT' a p)) : ∀ (m : Nat) (l a p : Int), (∀ k, rfM b n (rTerm b n j) (rfT b n j) m a k → R k = R' k) → (erM b n (tyT b n R j) (rTerm b n j) eT m l a p ↔ erM b n (tyT b n R' j) (rTerm b n j) eT' m l a p)
  | 0, _, _, _, _ => Iff.rfl
  | m + 1, l, a, p, h => by
    show (isOp (tK b n a) ∧ (eT (a + 1) p ∨ (opBad (tK b n a) l (tyT b n R j (a + 1)) ∧ p = tS b n a) ∨ erM b n (tyT b n R j) (rTerm b n j) eT m (opT (tK b n a) l (tyT b n R j (a + 1))) (rTerm b n j (a + 1)).2 p)) ↔ (isOp (tK b n a) ∧ (eT' (a + 1) p ∨ (opBad (tK b n a) l (tyT b n R' j (a + 1)) ∧ p = tS b n a) ∨ erM b n (tyT b n R' j) (rTerm b n j) eT' m (opT (tK b n a) l (tyT b n R' j (a + 1))) (rTerm b n j (a + 1)).2 p))
    by_cases ho : isOp (tK b n a)
    · have h1 := fun k q => h k ⟨ho, Or.inl q⟩
      rw [tyT_cg j (a + 1) h1, hE (a + 1) p h1, erM_cg hE m _ _ p (fun k q => h k ⟨ho, Or.inr q⟩)]
    · exact ⟨fun q => absurd q.1 ho, fun q => absurd q.1 ho⟩
theorem erT_cg {b : Int → Int} {n : Int} {R R' : Int → Int} : ∀ (j : Nat) (a p : Int), (∀ k, rfT b n j a k → R k = R' k) → (erT b n R j a p ↔ erT b n R' j a p)
  | 0, _, _, _ => Iff.rfl
  | j + 1, a, p, h => by
    by_cases hy : tK b n a = 266 ∨ tK b n a = 267
    · have h1 : ∀ k, rfT b n j (a + 2) k → R k = R' k := fun k q => h k (Or.inr ⟨hy, Or.inl q⟩)
      have h2 : ∀ k, rfM b n (rTerm b n j) (rfT b n j) 5 (rTerm b n j (a + 2)).2 k → R k = R' k := fun k q => h k (Or.inr ⟨hy, Or.inr q⟩)
      have h3 : tyF b n R j (a + 2) = tyF b n R' j (a + 2) := tyF_cg (fun k q => q.elim (h1 k) (h2 k))
      show (_ ∧ ((erT b n R j (a + 2) p ∨ erM b n (tyT b n R j) (rTerm b n j) (erT b n R j) 5 (tyT b n R j (a + 2)) (rTerm b n j (a + 2)).2 p) ∨ (¬ tyF b n R j (a + 2) = 0 ∧ ¬ tyF b n R j (a + 2) = _ ∧ p = _))) ↔ (_ ∧ ((erT b n R' j (a + 2) p ∨ erM b n (tyT b n R' j) (rTerm b n j) (erT b n R' j) 5 (tyT b n R' j (a + 2)) (rTerm b n j (a + 2)).2 p) ∨ (¬ tyF b n R' j (a + 2) = 0 ∧ ¬ tyF b n R' j (a + 2) = _ ∧ p = _)))
      rw [erT_cg j (a + 2) p h1, erM_cg (R := R) (R' := R') (fun a p q => erT_cg j a p q) 5 _ _ p h2, h3, tyT_cg j (a + 2) h1]
    · exact ⟨fun q => absurd q.1 hy, fun q => absurd q.1 hy⟩
theorem erF_cg {b : Int → Int} {n : Int} {R R' : Int → Int} {j : Nat} {a p : Int} (h : ∀ k, rfF b n j a k → R k = R' k) : erF b n R j a p ↔ erF b n R' j a p := by
  unfold erF
  rw [erT_cg j a p (fun k q => h k (Or.inl q)), erM_cg (R := R) (R' := R') (fun a p q => erT_cg j a p q) 5 _ _ p (fun k q => h k (Or.inr q)), tyT_cg j a (fun k q => h k (Or.inl q))]
/-! ===== retype of the reference ===== -/
noncomputable def Rt (G : GT) (v : VV) (τ : Int → Int) (q k : Int) : Int := τ (uAt (G q).1 (G q).2 v q k)
noncomputable def TyC (G : GT) (v : VV) (τ : Int → Int) (q f : Int) : Int := tyF (G q).1 (G q).2 (Rt G v τ q) 3 (v 65 (8 * q + f))
def ErC (G : GT) (v : VV) (τ : Int → Int) (q f : Int) : Prop := ∃ p, erF (G q).1 (G q).2 (Rt G v τ q) 3 (v 65 (8 * q + f)) p
def badW (G : GT) (v : VV) (τ : Int → Int) (q : Int) : Prop := 0 < v 66 (8 * q + 7) ∧ (ErC G v τ q 6 ∨ ErC G v τ q 7 ∨ ¬ TyC G v τ q 6 = TyC G v τ q 7)
noncomputable def tau (G : GT) (v : VV) (τ0 : Int → Int) : Nat → Int → Int
  | 0, j => τ0 j
  | q + 1, j => @ite Int ((isS v q ∧ 8 * (q : Int) ≤ j ∧ j < 8 * q + v 51 q) ∧ ¬ ErC G v (tau G v τ0 q) q (j - 8 * q)) (Classical.propDecidable _) (TyC G v (tau G v τ0 q) q (j - 8 * q)) (tau G v τ0 q j)
theorem tau_out {G : GT} {v : VV} {τ0 : Int → Int} (hM : MT v) {q : Nat} {j : Int} (h : j < 8 * q ∨ 8 * q + 6 ≤ j ∨ ¬ isS v q) : tau G v τ0 (q + 1) j = tau G v τ0 q j := by
  show @ite Int _ (Classical.propDecidable _) _ _ = _
  rw [if_neg]
  rintro ⟨⟨h1, h2, h3⟩, -⟩
  obtain ⟨-, -, n3, -⟩ := hM q h1.1.1 h1.1.2.1
  rcases h with h | h | h
  · omega
  · omega
  · exact h h1
theorem tau_lo {G : GT} {v : VV} {τ0 : Int → Int} (hM : MT v) {j : Int} : ∀ (d q : Nat), j < 8 * q → tau G v τ0 (q + d) j = tau G v τ0 q j
  | 0, _, _ => rfl
  | d + 1, q, h => by
    have e : tau G v τ0 (q + (d + 1)) j = tau G v τ0 (q + d + 1) j := rfl
    rw [e, tau_out hM (Or.inl (by omega))]
    exact tau_lo hM d q h
theorem tau_le {G : GT} {v : VV} {τ0 : Int → Int} (hM : MT v) {j : Int} {q q' : Nat} (h : q ≤ q') (hj : j < 8 * q) : tau G v τ0 q' j = tau G v τ0 q j := by
  have := tau_lo (G := G) (τ0 := τ0) hM (q' - q) q hj
  rw [show q + (q' - q) = q' by omega] at this
  exact this
/-- what typing of a select sees -/
theorem Rt_cg {G : GT} {v : VV} {τ τ' : Int → Int} {q f : Int} (hI : MS G v) (hS : isS v q) (hp : PF v q f) (h : ∀ j, 0 ≤ j → j < 8 * q → τ j = τ' j) : ∀ k, rfF (G q).1 (G q).2 3 (v 65 (8 * q + f)) k → Rt G v τ q k = Rt G v τ' q k := fun k hk => by
  have hu := uAt_bd hI.1 hI.2.1 hS ((hI.2.2 q hS).2 f hp) hk
  exact h _ hu.1 hu.2.1
theorem TyC_cg {G : GT} {v : VV} {τ τ' : Int → Int} {q f : Int} (hI : MS G v) (hS : isS v q) (hp : PF v q f) (h : ∀ j, 0 ≤ j → j < 8 * q → τ j = τ' j) : TyC G v τ q f = TyC G v τ' q f := tyF_cg (Rt_cg hI hS hp h)
theorem ErC_cg {G : GT} {v : VV} {τ τ' : Int → Int} {q f : Int} (hI : MS G v) (hS : isS v q) (hp : PF v q f) (h : ∀ j, 0 ≤ j → j < 8 * q → τ j = τ' j) : ErC G v τ q f ↔ ErC G v τ' q f := by
  unfold ErC
  have e : ∀ p, erF (G q).1 (G q).2 (Rt G v τ q) 3 (v 65 (8 * q + f)) p ↔ erF (G q).1 (G q).2 (Rt G v τ' q) 3 (v 65 (8 * q + f)) p := fun p => erF_cg (Rt_cg hI hS hp h)
  simp only [e]
theorem badW_cg {G : GT} {v : VV} {τ τ' : Int → Int} {q : Int} (hI : MS G v) (hS : isS v q) (h : ∀ j, 0 ≤ j → j < 8 * q → τ j = τ' j) : badW G v τ q ↔ badW G v τ' q := by
  unfold badW
  by_cases hw : 0 < v 66 (8 * q + 7)
  · rw [ErC_cg hI hS (Or.inr ⟨Or.inl rfl, hw⟩) h, ErC_cg hI hS (Or.inr ⟨Or.inr rfl, hw⟩) h, TyC_cg hI hS (Or.inr ⟨Or.inl rfl, hw⟩) h, TyC_cg hI hS (Or.inr ⟨Or.inr rfl, hw⟩) h]
  · exact ⟨fun z => absurd z.1 hw, fun z => absurd z.1 hw⟩
/-- the types as they would be -/
noncomputable def tauF (G : GT) (v : VV) (τ0 : Int → Int) : Int → Int := tau G v τ0 (v 47 0).toNat
/-- where a type would be one that can't be -/
def trb (G : GT) (v : VV) (τ0 : Int → Int) (j : Int) : Prop := isS v (j / 8) ∧ ((j % 8 < v 51 (j / 8) ∧ ErC G v (tauF G v τ0) (j / 8) (j % 8)) ∨ (j % 8 = 6 ∧ badW G v (tauF G v τ0) (j / 8)))
/-- which others change -/
def oth (G : GT) (v : VV) (τ0 : Int → Int) (j : Int) : Prop := isS v (j / 8) ∧ j % 8 < v 51 (j / 8) ∧ ¬ tauF G v τ0 j = v 53 j
theorem FLx.to {p : Int → Prop} {len : Int} {get : Int → Int} {x : Int} (h0 : 0 ≤ x) : ∀ (d : Nat), FLx p x len get → (∀ j, x ≤ j → j < x + d → ¬ p j) → FLx p (x + d) len get
  | 0, h, _ => by rw [show x + ((0 : Nat) : Int) = x by omega]; exact h
  | d + 1, h, hn => by
    have h1 := FLx.to h0 d h (fun j j0 j1 => hn j j0 (by omega))
    have h2 := h1.skip (by omega) (hn (x + d) (by omega) (by omega))
    rw [show x + ((d + 1 : Nat) : Int) = x + d + 1 by omega]
    exact h2
theorem cnt_to {p : Int → Prop} {x : Int} (h0 : 0 ≤ x) : ∀ (d : Nat), (∀ j, x ≤ j → j < x + d → ¬ p j) → cnt p (x + d).toNat = cnt p x.toNat
  | 0, _ => by rw [show x + ((0 : Nat) : Int) = x by omega]
  | d + 1, hn => by
    rw [show x + ((d + 1 : Nat) : Int) = x + d + 1 by omega, cnt_s p (by omega), bI_f (hn (x + d) (by omega) (by omega)), cnt_to h0 d (fun j j0 j1 => hn j j0 (by omega))]
    omega
/-- what retype touches ahead of its end -/
def ReA (r j : Int) : Prop := (r = 47 ∧ (j = 25 ∨ j = 26 ∨ j = 50 ∨ j = 51 ∨ j = 57 ∨ j = 65)) ∨ r = 72 ∨ r = 73 ∨ r = 74 ∨ r = 75 ∨ r = 76 ∨ r = 77 ∨ r = 86
theorem ReA_ref : noRef ReA := fun j => ⟨by unfold ReA; omega, by unfold ReA; omega, by unfold ReA; omega, by unfold ReA; omega, by unfold ReA; omega, by unfold ReA; omega⟩
theorem TYs_ReA {r j : Int} (h : TYs r j) : ReA r j := by
  rcases h with h | h | h | h | h | h
  all_goals (unfold ReA; omega)
/-- typing in a retype -/
theorem type_at {X : XX} {v V : VV} {G : GT} {q f : Int} (hW : SW X) (hI : MS G v) (hMW : MW v) (h52 : v 47 52 = 0) (hf : Fr ReA v V) (hS : isS v q) (hp : PF v q f) (he : 0 ≤ V 47 50 ∧ V 47 50 ≤ 1000000) : CX mX11_typeOf 3 [(2, 47), (0, q), (0, f)] X V (fun o v1 => o = some (0, TyC G v (V 77) q f) ∧ Fr TYs V v1 ∧ (V 47 50 ≤ v1 47 50 ∧ v1 47 50 ≤ V 47 50 + 1000) ∧ (v1 47 50 = V 47 50 ↔ ¬ ErC G v (V 77) q f)) := by
  have g : ∀ r j, ¬ ReA r j → V r j = v r j := hf
  obtain ⟨hb, hM, hG⟩ := id hI
  have hT := hG q hS
  obtain ⟨f1, f2, f3, f4, f5⟩ := hT.2 f hp
  have hf8 := PF_bd hM hS hp
  have ht := isT_b hb hS.1
  have hb1 := hb.1
  have hq2 := hS.1.2.1
  obtain ⟨-, -, n3, m4, m5, -⟩ := hM q hS.1.1 hS.1.2.1
  have hH : TYH (G q).1 (G q).2 q (v 60 q) V := by
    refine ⟨hT.1.fr hf (fun j => ⟨by unfold ReA; omega, by unfold ReA; omega, by unfold ReA; omega, by unfold ReA; omega⟩), ?_, fun i i0 i1 => ?_, fun s s0 s1 => ?_, hMW.fr hf (fun j j0 j1 => by unfold ReA; omega)⟩
    · rw [g 54 _ (by unfold ReA; omega)]; exact m4
    · rw [g 54 _ (by unfold ReA; omega)] at i1
      rw [g 55 _ (by unfold ReA; omega)]
      have := m5 i i0 i1
      omega
    · rw [g 51 _ (by unfold ReA; omega)]
      obtain ⟨-, -, k3, -⟩ := hM s s0 (by omega)
      omega
  have e52 : V 47 52 = 0 := (g 47 52 (by unfold ReA; omega)).trans h52
  refine (c_typeOf (b := (G q).1) (n := (G q).2) (A := v 60 q) (a := v 65 (8 * q + f)) (fun _ _ => False) hW hH hf8 f1 (g 65 _ (by unfold ReA; omega)) f2 ((g 66 _ (by unfold ReA; omega)).trans f3) (by rw [g 66 _ (by unfold ReA; omega)]; omega) (by omega) (fun z => absurd e52 z)).mono (fun o v1 ⟨h1, h2⟩ => ?_)
  have eR : ∀ k, rfF (G q).1 (G q).2 3 (v 65 (8 * q + f)) k → RT (G q).1 (G q).2 V q k = Rt G v (V 77) q k := fun k hk => by
    obtain ⟨⟨q1, -⟩, q4, -⟩ := f5 k hk
    unfold RT refTy Rt uAt
    rw [e52, if_pos rfl, qOf_fs hf ReA_ref, cOf_fs hf ReA_ref, if_neg (by omega), if_neg (by omega)]
  obtain ⟨t1, t2, t3, t4, t5⟩ := h2
  refine ⟨?_, t1, t4, t5.trans ?_⟩
  · rw [h1, tyF_cg eR]; rfl
  · unfold ErC NFe
    have e : ∀ p, erF (G q).1 (G q).2 (RT (G q).1 (G q).2 V q) 3 (v 65 (8 * q + f)) p ↔ erF (G q).1 (G q).2 (Rt G v (V 77) q) 3 (v 65 (8 * q + f)) p := fun p => erF_cg eR
    simp only [e]
    exact ⟨fun h ⟨p, hp⟩ => h p (Or.inl ⟨trivial, hp⟩), fun h p hp => hp.elim (fun y => h ⟨p, y.2⟩) (fun y => absurd y.1 (by decide))⟩
/-- retype's state at a column: the types so far, the troubles, the others -/
def RSt (G : GT) (v : VV) (τ0 : Int → Int) (x oc : Int) (V : VV) : Prop := Fr ReA v V ∧ FLx (trb G v τ0) x (V 47 65) (V 86) ∧ (0 ≤ V 47 65 ∧ V 47 65 ≤ x ∧ (V 47 50 = v 47 50 ∨ (0 ≤ V 47 50 ∧ V 47 50 ≤ 2000))) ∧ oc = cnt (oth G v τ0) x.toNat
theorem RSt.to {G : GT} {v V : VV} {τ0 : Int → Int} {x y oc : Int} (h : RSt G v τ0 x oc V) (h0 : 0 ≤ x) (hy : x ≤ y) (hn : ∀ j, x ≤ j → j < y → ¬ trb G v τ0 j) (hn2 : ∀ j, x ≤ j → j < y → ¬ oth G v τ0 j) : RSt G v τ0 y oc V := by
  obtain ⟨h1, h2, h3, h4⟩ := h
  have e : y = x + ((y - x).toNat : Int) := by omega
  refine ⟨h1, ?_, by omega, ?_⟩
  · rw [e]; exact FLx.to h0 _ h2 (fun j j0 j1 => hn j j0 (by omega))
  · rw [h4, e, cnt_to h0 _ (fun j j0 j1 => hn2 j j0 (by omega))]
theorem RSt.fr {G : GT} {v V V1 : VV} {τ0 : Int → Int} {x oc : Int} (h : RSt G v τ0 x oc V) (hf : Fr (fun r j => ReA r j ∧ ¬ r = 86 ∧ ¬ (r = 47 ∧ j = 65)) V V1) (he : V1 47 50 = V 47 50 ∨ (0 ≤ V1 47 50 ∧ V1 47 50 ≤ 2000)) : RSt G v τ0 x oc V1 := by
  obtain ⟨h1, h2, h3, h4⟩ := h
  have e65 : V1 47 65 = V 47 65 := hf 47 65 (by omega)
  have e86 : V1 86 = V 86 := funext fun j => hf 86 j (by omega)
  exact ⟨h1.via hf (fun _ _ q => q) (fun _ _ q => q.1), by rw [e65, e86]; exact h2, by omega, h4⟩
/-- the types in the midst of table q -/
def mid (G : GT) (v : VV) (τ0 : Int → Int) (q : Nat) (k : Int) (V : VV) : Prop := ∀ j : Int, 0 ≤ j → j < 136 → V 77 j = if 8 * (q : Int) ≤ j ∧ j < 8 * q + k then tau G v τ0 (q + 1) j else tau G v τ0 q j
theorem mid_lo {G : GT} {v V : VV} {τ0 : Int → Int} {q : Nat} {k : Int} (h : mid G v τ0 q k V) (hq : q ≤ 16) : ∀ j : Int, 0 ≤ j → j < 8 * q → V 77 j = tau G v τ0 q j := fun j j0 j1 => by
  rw [h j j0 (by omega), if_neg (by omega)]
set_option maxRecDepth 100000 in
set_option maxHeartbeats 4000000 in
theorem l_re144 {X : XX} {v : VV} {Q : QQ} {d mc ms : Nat} {G : GT} {τ0 : Int → Int} (hW : SW X) (hd : 4 ≤ d) (hI : MS G v) (hMW : MW v) (h52 : v 47 52 = 0) (a1 a2 a3 x4 : Int) (q : Nat) (hS : isS v q) (next : ∀ V oc, RSt G v τ0 (8 * ((q : Int) + 1)) oc V → mid G v τ0 (q + 1) 0 V → Ex mX11_retype d 98 [(2, 47), (0, a1), (0, a2), (0, a3), (0, x4), (0, oc), (0, (q : Int) + 1), (3, 0), (3, 0)] [] X V mc ms Q) : ∀ (k oc : Int) (V : VV), (0 ≤ k ∧ k ≤ v 51 q) → RSt G v τ0 (8 * q + k) oc V → mid G v τ0 q k V → Ex mX11_retype d 144 [(2, 47), (0, a1), (0, a2), (0, a3), (0, x4), (0, oc), (0, (q : Int)), (0, k), (3, 0)] [] X V mc ms Q := by
  obtain ⟨hb, hM, hG⟩ := id hI
  have ht := isT_b hb hS.1
  have hb1 := hb.1
  have hq2 := hS.1.2.1
  obtain ⟨-, -, n3, -⟩ := hM q hS.1.1 hS.1.2.1
  have eF : ∀ j, j < 8 * (q : Int) + 8 → tauF G v τ0 j = tau G v τ0 (q + 1) j := fun j hj => tau_le hM (by omega) (by omega)
  have eF0 : ∀ j, 0 ≤ j → j < 8 * (q : Int) → tauF G v τ0 j = tau G v τ0 q j := fun j j0 hj => tau_le hM (by omega) hj
  refine loop3 (fun (k _ : Int) (_ : VV) => (v 51 q - k).toNat) (fun (k oc : Int) (V : VV) => (0 ≤ k ∧ k ≤ v 51 q) → RSt G v τ0 (8 * q + k) oc V → mid G v τ0 q k V → Ex mX11_retype d 144 [(2, 47), (0, a1), (0, a2), (0, a3), (0, x4), (0, oc), (0, (q : Int)), (0, k), (3, 0)] [] X V mc ms Q) (fun k oc V ih => ?_)
  intro hk hR hmd
  obtain ⟨hf, hL, hl, ho⟩ := id hR
  have g : ∀ r j, ¬ ReA r j → V r j = v r j := hf
  have hlo := mid_lo hmd (by omega)
  have e51 : V 51 q = v 51 q := g 51 q (by unfold ReA; omega)
  have hdv : ∀ i : Int, 0 ≤ i → i < 8 → (8 * (q : Int) + i) / 8 = q ∧ (8 * (q : Int) + i) % 8 = i := fun i i0 i1 => by omega
  have hcb := cnt_bd (oth G v τ0) (8 * (q : Int) + k).toNat
  refine bX11_retype_144 a1 a2 a3 x4 oc q k hd hW (fun _ _ _ _ _ _ _ => ?_)
  rw [e51]
  refine ⟨⟨by omega, by omega⟩, fun g1 => ?_, fun g1 => ?_⟩
  · -- behind the columns: the where
    have hk2 : k = v 51 q := by omega
    have hmid2 : ∀ W, (∀ j, W 77 j = V 77 j) → mid G v τ0 (q + 1) 0 W := fun W hWj j j0 j1 => by
      rw [hWj, hmd j j0 j1, if_neg (show ¬ (8 * ((q + 1 : Nat) : Int) ≤ j ∧ j < 8 * ((q + 1 : Nat) : Int) + 0) by omega)]
      by_cases h : 8 * (q : Int) ≤ j ∧ j < 8 * q + k
      · rw [if_pos h]
      · rw [if_neg h]
        show _ = @ite Int _ (Classical.propDecidable _) _ _
        rw [if_neg (fun z => h ⟨z.1.2.1, by omega⟩)]
    have hR6 : RSt G v τ0 (8 * q + 6) oc V := hR.to (by omega) (by omega) (fun j j0 j1 z => by
      obtain ⟨e1, e2⟩ := hdv (j - 8 * q) (by omega) (by omega)
      rw [show 8 * (q : Int) + (j - 8 * q) = j by omega] at e1 e2
      rcases z.2 with y | y
      · rw [e1, e2] at y; have := y.1; omega
      · rw [e2] at y; have := y.1; omega) (fun j j0 j1 z => by
      obtain ⟨e1, e2⟩ := hdv (j - 8 * q) (by omega) (by omega)
      rw [show 8 * (q : Int) + (j - 8 * q) = j by omega] at e1 e2
      have := z.2.1
      rw [e1, e2] at this; omega)
    have h6 : trb G v τ0 (8 * q + 6) ↔ badW G v (V 77) q := by
      obtain ⟨e1, e2⟩ := hdv 6 (by omega) (by omega)
      unfold trb
      rw [e1, e2, badW_cg hI hS (τ := tauF G v τ0) (τ' := V 77) (fun j j0 j1 => by rw [eF0 j j0 j1, hlo j j0 j1])]
      exact ⟨fun z => z.2.elim (fun y => by have := y.1; omega) (fun y => y.2), fun z => ⟨hS, Or.inr ⟨rfl, z⟩⟩⟩
    have no6 : ¬ oth G v τ0 (8 * q + 6) := fun z => by
      obtain ⟨e1, e2⟩ := hdv 6 (by omega) (by omega)
      have := z.2.1
      rw [e1, e2] at this; omega
    have n7 : ¬ trb G v τ0 (8 * q + 7) ∧ ¬ oth G v τ0 (8 * q + 7) := by
      obtain ⟨e1, e2⟩ := hdv 7 (by omega) (by omega)
      refine ⟨fun z => ?_, fun z => ?_⟩
      · rcases z.2 with y | y
        · rw [e1, e2] at y; have := y.1; omega
        · rw [e2] at y; have := y.1; omega
      · have := z.2.1
        rw [e1, e2] at this; omega
    have last : ∀ W, RSt G v τ0 (8 * q + 7) oc W → (∀ j, W 77 j = V 77 j) → i32 ((q : Int) + 1) ∧ Ex mX11_retype d 98 [(2, 47), (0, a1), (0, a2), (0, a3), (0, x4), (0, oc), (0, (q : Int) + 1), (3, 0), (3, 0)] [] X W mc ms Q := fun W hW1 hW2 =>
      ⟨⟨by omega, by omega⟩, next W oc (hW1.to (by omega) (by omega) (fun j j0 j1 => by rw [show j = 8 * (q : Int) + 7 by omega]; exact n7.1) (fun j j0 j1 => by rw [show j = 8 * (q : Int) + 7 by omega]; exact n7.2)) (hmid2 W hW2)⟩
    have quiet : ∀ W, RSt G v τ0 (8 * q + 6) oc W → (∀ j, W 77 j = V 77 j) → ¬ badW G v (V 77) q → i32 ((q : Int) + 1) ∧ Ex mX11_retype d 98 [(2, 47), (0, a1), (0, a2), (0, a3), (0, x4), (0, oc), (0, (q : Int) + 1), (3, 0), (3, 0)] [] X W mc ms Q := fun W hW1 hW2 hn =>
      last W (hW1.to (by omega) (by omega) (fun j j0 j1 => by rw [show j = 8 * (q : Int) + 6 by omega]; exact fun z => hn (h6.mp z)) (fun j j0 j1 => by rw [show j = 8 * (q : Int) + 6 by omega]; exact no6)) hW2
    have loud : ∀ W (x7 x8 : Int), RSt G v τ0 (8 * q + 6) oc W → (∀ j, W 77 j = V 77 j) → badW G v (V 77) q → Ex mX11_retype d 297 [(2, 47), (0, a1), (0, a2), (0, a3), (0, x4), (0, oc), (0, (q : Int)), (0, x7), (0, x8)] [] X W mc ms Q := fun W x7 x8 hW1 hW2 hy => by
      obtain ⟨w1, w2, w3, w4⟩ := hW1
      refine bX11_retype_297 a1 a2 a3 x4 oc q x7 x8 hd hW (fun _ _ _ _ _ _ _ _ => ⟨⟨by omega, by omega⟩, fun _ => ⟨by omega, by omega⟩, _, c_looks hW (by omega) _, fun w27 hP => ?_⟩)
      have e : w27 = upd2 (upd2 W 86 (W 47 65) (8 * q + 6)) 47 65 (W 47 65 + 1) := hP
      rw [e]
      refine last _ ⟨(w1.up (by unfold ReA; omega)).up (by unfold ReA; omega), ?_, ?_, ?_⟩ (fun j => by rw [upd2_n _ (by omega), upd2_n _ (by omega)]; exact hW2 j)
      · rw [upd2_s, show 8 * (q : Int) + 7 = 8 * q + 6 + 1 by omega]
        refine w2.add (by omega) (h6.mpr hy) ?_ (fun i hi => ?_)
        · rw [upd2_n _ (by omega), upd2_s]
        · rw [upd2_n _ (by omega), upd2_n _ (by omega)]
      · have e50 : upd2 (upd2 W 86 (W 47 65) (8 * (q : Int) + 6)) 47 65 (W 47 65 + 1) 47 50 = W 47 50 := by rw [upd2_n _ (by omega), upd2_n _ (by omega)]
        rw [upd2_s, e50]; omega
      · rw [w4, show 8 * (q : Int) + 7 = 8 * q + 6 + 1 by omega, cnt_s _ (by omega), bI_f no6]; omega
    refine ⟨_, c_hasWhere hW q ⟨by omega, by omega⟩, fun r6 w7 hP => ?_⟩
    obtain ⟨rfl, hr⟩ := hP
    obtain rfl : r6 = bI (0 < w7 66 (8 * q + 7)) := by simpa using hr
    have e66 : w7 66 (8 * q + 7) = v 66 (8 * q + 7) := g 66 _ (by unfold ReA; omega)
    rw [e66]
    refine ⟨fun g2 => ?_, fun g2 => quiet w7 hR6 (fun _ => rfl) (fun z => ?_)⟩
    · rw [bI_n0] at g2
      have u1 : RSt G v τ0 (8 * q + 6) oc (upd2 w7 47 50 0) := hR6.fr (Fr.rf.up (by unfold ReA; omega)) (Or.inr (by rw [upd2_s]; exact ⟨by decide, by decide⟩))
      have u2 : ∀ j, upd2 w7 47 50 0 77 j = w7 77 j := fun j => upd2_n _ (by omega)
      have u3 : upd2 w7 47 50 0 47 50 = 0 := upd2_s _ _ _ _
      generalize upd2 w7 47 50 0 = u at *
      have eu : u 77 = w7 77 := funext u2
      refine ⟨_, type_at (G := G) hW hI hMW h52 u1.1 hS (Or.inr ⟨Or.inl rfl, g2⟩) (by omega), fun r10 w11 hP => ?_⟩
      obtain ⟨hr10, t1, t2, t3⟩ := hP
      obtain rfl : r10 = TyC G v (u 77) q 6 := by simpa using hr10
      have v1 : RSt G v τ0 (8 * q + 6) oc w11 := u1.fr (t1.mono (fun r j h z => h ⟨TYs_ReA z, by unfold TYs at z; omega, by unfold TYs at z; omega⟩)) (Or.inr (by omega))
      have e11 : w11 77 = u 77 := funext fun j => t1 77 j (by unfold TYs; omega)
      refine ⟨_, type_at (G := G) hW hI hMW h52 v1.1 hS (Or.inr ⟨Or.inr rfl, g2⟩) (by omega), fun r14 w15 hP => ?_⟩
      obtain ⟨hr14, s1, s2, s3⟩ := hP
      obtain rfl : r14 = TyC G v (w11 77) q 7 := by simpa using hr14
      have v2 : RSt G v τ0 (8 * q + 6) oc w15 := v1.fr (s1.mono (fun r j h z => h ⟨TYs_ReA z, by unfold TYs at z; omega, by unfold TYs at z; omega⟩)) (Or.inr (by omega))
      have e15 : ∀ j, w15 77 j = w7 77 j := fun j => by rw [s1 77 j (by unfold TYs; omega), e11, eu]
      rw [e11, eu] at s3
      rw [eu] at t3
      rw [e11, eu]
      refine ⟨fun g3 => loud w15 _ _ v2 e15 ⟨g2, ?_⟩, fun g3 => ⟨fun g4 => quiet w15 v2 e15 (fun z => ?_), fun g4 => loud w15 _ _ v2 e15 ⟨g2, Or.inr (Or.inr g4)⟩⟩⟩
      · by_cases h1 : ErC G v (w7 77) q 6
        · exact Or.inl h1
        · by_cases h2 : ErC G v (w7 77) q 7
          · exact Or.inr (Or.inl h2)
          · have a1 := t3.mpr h1
            have a2 := s3.mpr h2
            omega
      · have a1 : w11 47 50 = u 47 50 := by omega
        have a2 : w15 47 50 = w11 47 50 := by omega
        rcases z.2 with y | y | y
        · exact t3.mp a1 y
        · exact s3.mp a2 y
        · exact y g4
    · rw [bI_0] at g2; exact g2 z.1
  · -- a column
    have hp : PF v q k := Or.inl ⟨hk.1, g1⟩
    obtain ⟨e1, e2⟩ := hdv k (by omega) (by omega)
    have u1 : RSt G v τ0 (8 * q + k) oc (upd2 V 47 50 0) := hR.fr (Fr.rf.up (by unfold ReA; omega)) (Or.inr (by rw [upd2_s]; exact ⟨by decide, by decide⟩))
    have u2 : ∀ j, upd2 V 47 50 0 77 j = V 77 j := fun j => upd2_n _ (by omega)
    have u3 : upd2 V 47 50 0 47 50 = 0 := upd2_s _ _ _ _
    generalize upd2 V 47 50 0 = u at *
    have eu : u 77 = V 77 := funext u2
    refine ⟨_, type_at (G := G) hW hI hMW h52 u1.1 hS hp (by omega), fun r18 w19 hP => ?_⟩
    obtain ⟨hr18, t1, t2, t3⟩ := hP
    obtain rfl : r18 = TyC G v (u 77) q k := by simpa using hr18
    rw [eu] at t3 ⊢
    have v1 : RSt G v τ0 (8 * q + k) oc w19 := u1.fr (t1.mono (fun r j h z => h ⟨TYs_ReA z, by unfold TYs at z; omega, by unfold TYs at z; omega⟩)) (Or.inr (by omega))
    have e19 : ∀ j, w19 77 j = V 77 j := fun j => by rw [t1 77 j (by unfold TYs; omega), eu]
    have hE : ErC G v (V 77) q k ↔ ErC G v (tau G v τ0 q) q k := ErC_cg hI hS hp hlo
    have hE2 : ErC G v (tauF G v τ0) q k ↔ ErC G v (tau G v τ0 q) q k := ErC_cg hI hS hp eF0
    have hTy : TyC G v (V 77) q k = TyC G v (tau G v τ0 q) q k := TyC_cg hI hS hp hlo
    have htr : trb G v τ0 (8 * q + k) ↔ ErC G v (V 77) q k := by
      unfold trb
      rw [e1, e2, hE2, hE]
      exact ⟨fun z => z.2.elim (fun y => y.2) (fun y => by have := y.1; omega), fun z => ⟨hS, Or.inl ⟨g1, z⟩⟩⟩
    have hot : oth G v τ0 (8 * q + k) ↔ ¬ tau G v τ0 (q + 1) (8 * q + k) = v 53 (8 * q + k) := by
      unfold oth
      rw [e1, e2, eF _ (by omega)]
      exact ⟨fun z => z.2.2, fun z => ⟨hS, g1, z⟩⟩
    have htau : tau G v τ0 (q + 1) (8 * q + k) = @ite Int (¬ ErC G v (V 77) q k) (Classical.propDecidable _) (TyC G v (V 77) q k) (tau G v τ0 q (8 * q + k)) := by
      show @ite Int _ (Classical.propDecidable _) _ _ = _
      rw [show 8 * (q : Int) + k - 8 * q = k by omega, ← hTy]
      by_cases h : ErC G v (V 77) q k
      · rw [if_neg (fun z => z.2 (hE.mp h)), if_neg (fun z => z h)]
      · rw [if_pos ⟨⟨hS, by omega, by omega⟩, fun z => h (hE.mpr z)⟩, if_pos h]
    have hcur : tau G v τ0 q (8 * q + k) = V 77 (8 * q + k) := by rw [hmd _ (by omega) (by omega), if_neg (by omega)]
    -- behind the column, with the new type in place
    have k208 : ∀ (W : VV) (x8 : Int), Fr ReA v W → (∀ j, 0 ≤ j → j < 136 → W 77 j = if j = 8 * (q : Int) + k then tau G v τ0 (q + 1) j else V 77 j) → FLx (trb G v τ0) (8 * q + k + 1) (W 47 65) (W 86) → (0 ≤ W 47 65 ∧ W 47 65 ≤ 8 * q + k + 1 ∧ (W 47 50 = v 47 50 ∨ (0 ≤ W 47 50 ∧ W 47 50 ≤ 2000))) → Ex mX11_retype d 208 [(2, 47), (0, a1), (0, a2), (0, a3), (0, x4), (0, oc), (0, (q : Int)), (0, k), (0, x8)] [] X W mc ms Q := fun W x8 w1 w2 w3 w4 => by
      have w53 : W 53 (8 * q + k) = v 53 (8 * q + k) := w1 53 _ (by unfold ReA; omega)
      have w77 : W 77 (8 * q + k) = tau G v τ0 (q + 1) (8 * q + k) := by rw [w2 _ (by omega) (by omega), if_pos rfl]
      have hmd2 : mid G v τ0 q (k + 1) W := fun j j0 j1 => by
        rw [w2 j j0 j1]
        by_cases hj : j = 8 * (q : Int) + k
        · rw [if_pos hj, if_pos (by omega)]
        · rw [if_neg hj, hmd j j0 j1]
          by_cases h : 8 * (q : Int) ≤ j ∧ j < 8 * q + k
          · rw [if_pos h, if_pos (by omega)]
          · rw [if_neg h, if_neg (by omega)]
      have hcs := cnt_s (oth G v τ0) (x := 8 * (q : Int) + k) (by omega)
      refine bX11_retype_208 a1 a2 a3 x4 oc q k x8 hd hW (fun _ _ _ _ _ _ _ _ => ?_)
      rw [w53, w77]
      refine ⟨⟨by omega, by omega⟩, fun _ => ⟨by omega, by omega⟩, ⟨by omega, by omega⟩, ⟨by omega, by omega⟩, fun _ => ⟨by omega, by omega⟩, ⟨by omega, by omega⟩, fun g5 => ⟨⟨by omega, by omega⟩, ?_⟩, fun g5 => ⟨⟨by omega, by omega⟩, ⟨by omega, by omega⟩, ?_⟩⟩
      · refine ih (k + 1) oc W (by omega) ⟨by omega, by omega⟩ ⟨w1, by rw [← Int.add_assoc]; exact w3, by omega, ?_⟩ hmd2
        rw [← Int.add_assoc, hcs, bI_f (fun z => hot.mp z g5)]; omega
      · refine ih (k + 1) (oc + 1) W (by omega) ⟨by omega, by omega⟩ ⟨w1, by rw [← Int.add_assoc]; exact w3, by omega, ?_⟩ hmd2
        rw [← Int.add_assoc, hcs, bI_t (hot.mpr g5)]; omega
    obtain ⟨z1, z2, z3, z4⟩ := v1
    refine ⟨fun g3 => ⟨⟨by omega, by omega⟩, fun _ => ⟨by omega, by omega⟩, ⟨by omega, by omega⟩, ?_⟩, fun g3 => ⟨⟨by omega, by omega⟩, fun _ => ⟨by omega, by omega⟩, _, c_looks hW (by omega) _, fun w23 hP => ?_⟩⟩
    · have hno : ¬ ErC G v (V 77) q k := t3.mp (by omega)
      refine k208 _ _ (z1.up (by unfold ReA; omega)) (fun j j0 j1 => ?_) ?_ ?_
      · by_cases hj : j = 8 * (q : Int) + k
        · rw [if_pos hj, hj, upd2_s, htau, if_pos hno]
        · rw [if_neg hj, upd2_n _ (by omega)]; exact e19 j
      · rw [upd2_n _ (by omega), show upd2 w19 77 (8 * (q : Int) + k) (TyC G v (V 77) q k) 86 = w19 86 from funext fun j => upd2_n _ (by omega)]
        exact z2.skip (by omega) (fun z => hno (htr.mp z))
      · rw [upd2_n _ (by omega), upd2_n _ (by omega)]; omega
    · have hyes : ErC G v (V 77) q k := Classical.byContradiction (fun z => by have := t3.mpr z; omega)
      have e : w23 = upd2 (upd2 w19 86 (w19 47 65) (8 * q + k)) 47 65 (w19 47 65 + 1) := hP
      rw [e]
      refine k208 _ _ ((z1.up (by unfold ReA; omega)).up (by unfold ReA; omega)) (fun j j0 j1 => ?_) ?_ ?_
      · rw [upd2_n _ (by omega), upd2_n _ (by omega), e19 j]
        by_cases hj : j = 8 * (q : Int) + k
        · rw [if_pos hj, hj, htau, if_neg (fun z => z hyes)]; exact hcur.symm
        · rw [if_neg hj]
      · rw [upd2_s]
        refine z2.add (by omega) (htr.mpr hyes) ?_ (fun i hi => ?_)
        · rw [upd2_n _ (by omega), upd2_s]
        · rw [upd2_n _ (by omega), upd2_n _ (by omega)]
      · have e50 : upd2 (upd2 w19 86 (w19 47 65) (8 * (q : Int) + k)) 47 65 (w19 47 65 + 1) 47 50 = w19 47 50 := by rw [upd2_n _ (by omega), upd2_n _ (by omega)]
        rw [upd2_s, e50]; omega
set_option maxRecDepth 100000 in
set_option maxHeartbeats 4000000 in
theorem l_re98 {X : XX} {v : VV} {Q : QQ} {d mc ms : Nat} {G : GT} {τ0 : Int → Int} (hW : SW X) (hd : 4 ≤ d) (hI : MS G v) (hMW : MW v) (h52 : v 47 52 = 0) (a1 a2 a3 x4 : Int) (next : ∀ V oc, RSt G v τ0 (8 * v 47 0) oc V → (∀ j, 0 ≤ j → j < 136 → V 77 j = tauF G v τ0 j) → (V 47 65 ≤ 0 → Ex mX11_retype d 379 [(2, 47), (0, a1), (0, a2), (0, a3), (0, x4), (0, oc), (0, 0), (3, 0), (3, 0)] [] X (upd2 V 47 57 x4) mc ms Q) ∧ (0 < V 47 65 → Ex mX11_retype d 333 [(2, 47), (0, a1), (0, a2), (0, a3), (0, x4), (0, oc), (0, 0), (3, 0), (3, 0)] [] X (upd2 V 47 57 (V 47 65)) mc ms Q)) : ∀ (q : Nat) (oc : Int) (V : VV), (q : Int) ≤ v 47 0 → RSt G v τ0 (8 * (q : Int)) oc V → mid G v τ0 q 0 V → Ex mX11_retype d 98 [(2, 47), (0, a1), (0, a2), (0, a3), (0, x4), (0, oc), (0, (q : Int)), (3, 0), (3, 0)] [] X V mc ms Q := by
  obtain ⟨hb, hM, hG⟩ := id hI
  have hb1 := hb.1
  refine loop3 (fun (q : Nat) (_ : Int) (_ : VV) => (v 47 0 - q).toNat) (fun (q : Nat) (oc : Int) (V : VV) => (q : Int) ≤ v 47 0 → RSt G v τ0 (8 * (q : Int)) oc V → mid G v τ0 q 0 V → Ex mX11_retype d 98 [(2, 47), (0, a1), (0, a2), (0, a3), (0, x4), (0, oc), (0, (q : Int)), (3, 0), (3, 0)] [] X V mc ms Q) (fun q oc V ih => ?_)
  intro hq hR hmd
  have g : ∀ r j, ¬ ReA r j → V r j = v r j := hR.1
  refine bX11_retype_98 a1 a2 a3 x4 oc q hd hW (fun _ _ _ _ _ _ => ?_)
  rw [g 47 0 (by unfold ReA; omega), g 48 q (by unfold ReA; omega), g 50 q (by unfold ReA; omega)]
  refine ⟨fun g1 => ?_, fun g1 => ?_⟩
  · have e : v 47 0 = q := by omega
    refine next V oc (by rw [e]; exact hR) (fun j j0 j1 => ?_)
    rw [hmd j j0 j1, if_neg (by omega)]
    unfold tauF
    rw [e, Int.toNat_natCast]
  · have skip : ¬ isS v q → i32 ((q : Int) + 1) ∧ Ex mX11_retype d 98 [(2, 47), (0, a1), (0, a2), (0, a3), (0, x4), (0, oc), (0, (q : Int) + 1), (3, 0), (3, 0)] [] X V mc ms Q := fun hn => by
      have hno : ∀ j, 8 * (q : Int) ≤ j → j < 8 * ((q + 1 : Nat) : Int) → ¬ isS v (j / 8) := fun j j0 j1 z => by
        rw [show j / 8 = (q : Int) by omega] at z; exact hn z
      have h := ih (q + 1) oc V (by omega) (by omega) (hR.to (by omega) (by omega) (fun j j0 j1 z => hno j j0 j1 z.1) (fun j j0 j1 z => hno j j0 j1 z.1)) (fun j j0 j1 => by
        rw [hmd j j0 j1, if_neg (by omega), if_neg (show ¬ (8 * ((q + 1 : Nat) : Int) ≤ j ∧ j < 8 * ((q + 1 : Nat) : Int) + 0) by omega), tau_out hM (Or.inr (Or.inr hn))])
      exact ⟨⟨by omega, by omega⟩, h⟩
    refine ⟨⟨by omega, by omega⟩, fun g3 => skip (fun z => z.1.2.2 g3), fun g3 => ⟨⟨by omega, by omega⟩, fun g4 => skip (fun z => by have := z.2; omega), fun g4 => ⟨⟨by omega, by omega⟩, fun g5 => ?_, fun g5 => skip (fun z => by have := z.2; omega)⟩⟩⟩
    obtain ⟨-, m2, n3, -⟩ := hM q (by omega) g1
    have hS : isS v q := ⟨⟨by omega, g1, g3⟩, by omega⟩
    refine l_re144 (τ0 := τ0) hW hd hI hMW h52 a1 a2 a3 x4 q hS (fun V2 oc2 h1 h2 => ?_) 0 oc V ⟨Int.le_refl _, by omega⟩ (by rw [Int.add_zero]; exact hR) hmd
    exact ih (q + 1) oc2 V2 (by omega) (by omega) h1 h2
def ReZ (r j : Int) : Prop := ReA r j ∨ r = 53 ∨ r = 81
set_option maxRecDepth 100000 in
set_option maxHeartbeats 4000000 in
theorem l_re333 {X : XX} {u : VV} {Q : QQ} {d mc ms : Nat} (hW : SW X) (hd : 4 ≤ d) (a1 a2 a3 x4 x5 : Int) (hu : 0 ≤ u 47 65 ∧ u 47 65 ≤ 136) (hQ : ∀ V, Fr (fun r _ => r = 81) u V → (∀ i, 0 ≤ i → i < u 47 65 → V 81 i = u 86 i) → Q (some (0, -2)) X (upd2 V 47 65 0)) : ∀ (x : Int) (V : VV), (0 ≤ x ∧ x ≤ u 47 65) → Fr (fun r _ => r = 81) u V → (∀ i, 0 ≤ i → i < x → V 81 i = u 86 i) → Ex mX11_retype d 333 [(2, 47), (0, a1), (0, a2), (0, a3), (0, x4), (0, x5), (0, x), (3, 0), (3, 0)] [] X V mc ms Q := by
  refine loop2 (fun (x : Int) (_ : VV) => (u 47 65 - x).toNat) (fun (x : Int) (V : VV) => (0 ≤ x ∧ x ≤ u 47 65) → Fr (fun r _ => r = 81) u V → (∀ i, 0 ≤ i → i < x → V 81 i = u 86 i) → Ex mX11_retype d 333 [(2, 47), (0, a1), (0, a2), (0, a3), (0, x4), (0, x5), (0, x), (3, 0), (3, 0)] [] X V mc ms Q) (fun x V ih => ?_)
  intro hx hf hz
  have g : ∀ r j, ¬ r = 81 → V r j = u r j := hf
  refine bX11_retype_333 a1 a2 a3 x4 x5 x hd hW (fun _ _ _ _ _ _ => ?_)
  rw [g 47 65 (by omega), g 86 x (by omega)]
  refine ⟨fun g1 => hQ V hf (fun i i0 i1 => hz i i0 (by omega)), fun g1 => ⟨⟨by omega, by omega⟩, ⟨by omega, by omega⟩, ⟨by omega, by omega⟩, ?_⟩⟩
  refine ih (x + 1) _ (by omega) ⟨by omega, by omega⟩ (hf.up rfl) (fun i i0 i1 => ?_)
  by_cases h : i = x
  · subst h; exact upd2_s _ _ _ _
  · rw [upd2_n _ (by omega)]; exact hz i i0 (by omega)
set_option maxRecDepth 100000 in
set_option maxHeartbeats 4000000 in
theorem l_re379 {X : XX} {u : VV} {Q : QQ} {d mc ms : Nat} (hW : SW X) (hd : 4 ≤ d) (a1 a2 a3 x4 x5 : Int) (hQ : ∀ V, Fr (fun r _ => r = 53) u V → (∀ i, 0 ≤ i → i < 136 → V 53 i = u 77 i) → Q (some (0, x5)) X V) : ∀ (x : Int) (V : VV), (0 ≤ x ∧ x ≤ 136) → Fr (fun r _ => r = 53) u V → (∀ i, 0 ≤ i → i < x → V 53 i = u 77 i) → Ex mX11_retype d 379 [(2, 47), (0, a1), (0, a2), (0, a3), (0, x4), (0, x5), (0, x), (3, 0), (3, 0)] [] X V mc ms Q := by
  refine loop2 (fun (x : Int) (_ : VV) => (136 - x).toNat) (fun (x : Int) (V : VV) => (0 ≤ x ∧ x ≤ 136) → Fr (fun r _ => r = 53) u V → (∀ i, 0 ≤ i → i < x → V 53 i = u 77 i) → Ex mX11_retype d 379 [(2, 47), (0, a1), (0, a2), (0, a3), (0, x4), (0, x5), (0, x), (3, 0), (3, 0)] [] X V mc ms Q) (fun x V ih => ?_)
  intro hx hf hz
  have g : ∀ r j, ¬ r = 53 → V r j = u r j := hf
  refine bX11_retype_379 a1 a2 a3 x4 x5 x hd hW (fun _ _ _ _ _ _ => ?_)
  rw [g 77 x (by omega)]
  refine ⟨fun g1 => hQ V hf (fun i i0 i1 => hz i i0 (by omega)), fun g1 => ⟨⟨by omega, by omega⟩, ⟨by omega, by omega⟩, ⟨by omega, by omega⟩, ?_⟩⟩
  refine ih (x + 1) _ (by omega) ⟨by omega, by omega⟩ (hf.up rfl) (fun i i0 i1 => ?_)
  by_cases h : i = x
  · subst h; exact upd2_s _ _ _ _
  · rw [upd2_n _ (by omega)]; exact hz i i0 (by omega)
set_option maxRecDepth 100000 in
set_option maxHeartbeats 4000000 in
theorem l_re41 {X : XX} {u : VV} {Q : QQ} {d mc ms : Nat} (hW : SW X) (hd : 4 ≤ d) (a1 a2 a3 : Int) (h8 : 0 ≤ a1 ∧ a1 < 17 ∧ 0 ≤ a2 ∧ a2 < 6) (next : ∀ V, Fr (fun r _ => r = 77) u V → (∀ i, 0 ≤ i → i < 136 → V 77 i = u 53 i) → Ex mX11_retype d 98 [(2, 47), (0, a1), (0, a2), (0, a3), (0, u 47 57), (0, 0), (0, 0), (3, 0), (3, 0)] [] X (upd2 (upd2 V 77 (8 * a1 + a2) a3) 47 57 0) mc ms Q) : ∀ (x : Int) (V : VV), (0 ≤ x ∧ x ≤ 136) → Fr (fun r _ => r = 77) u V → (∀ i, 0 ≤ i → i < x → V 77 i = u 53 i) → Ex mX11_retype d 41 [(2, 47), (0, a1), (0, a2), (0, a3), (0, x), (3, 0), (3, 0), (3, 0), (3, 0)] [] X V mc ms Q := by
  refine loop2 (fun (x : Int) (_ : VV) => (136 - x).toNat) (fun (x : Int) (V : VV) => (0 ≤ x ∧ x ≤ 136) → Fr (fun r _ => r = 77) u V → (∀ i, 0 ≤ i → i < x → V 77 i = u 53 i) → Ex mX11_retype d 41 [(2, 47), (0, a1), (0, a2), (0, a3), (0, x), (3, 0), (3, 0), (3, 0), (3, 0)] [] X V mc ms Q) (fun x V ih => ?_)
  intro hx hf hz
  have g : ∀ r j, ¬ r = 77 → V r j = u r j := hf
  refine bX11_retype_41 a1 a2 a3 x hd hW (fun _ _ _ _ => ?_)
  rw [g 53 x (by omega), g 47 57 (by omega)]
  refine ⟨fun g1 => ⟨⟨by omega, by omega⟩, fun _ => ⟨by omega, by omega⟩, ⟨by omega, by omega⟩, next V hf (fun i i0 i1 => hz i i0 (by omega))⟩, fun g1 => ⟨⟨by omega, by omega⟩, ⟨by omega, by omega⟩, ⟨by omega, by omega⟩, ?_⟩⟩
  refine ih (x + 1) _ (by omega) ⟨by omega, by omega⟩ (hf.up rfl) (fun i i0 i1 => ?_)
  by_cases h : i = x
  · subst h; exact upd2_s _ _ _ _
  · rw [upd2_n _ (by omega)]; exact hz i i0 (by omega)
def reArg (v : VV) (t c ty : Int) : Prop := isC v t c ∧ v 50 t = 0 ∧ (ty = 110 ∨ ty = 116 ∨ ty = 100)
/-- the types with one told anew -/
noncomputable def ty1 (v : VV) (t c ty : Int) (j : Int) : Int := if j = 8 * t + c then ty else v 53 j
set_option maxRecDepth 100000 in
set_option maxHeartbeats 4000000 in
theorem c_retype {X : XX} {v : VV} {G : GT} (hW : SW X) (hI : MS G v) (hMW : MW v) (h52 : v 47 52 = 0) (h65 : v 47 65 = 0) (a1 a2 a3 : Int) : CX mX11_retype 4 [(2, 47), (0, a1), (0, a2), (0, a3)] X v (fun o v1 => Fr ReZ v v1 ∧ (v1 47 65 = 0 ∧ (v1 47 50 = v 47 50 ∨ (0 ≤ v1 47 50 ∧ v1 47 50 ≤ 2000))) ∧ ((¬ reArg v a1 a2 a3 ∧ v1 = v ∧ o = some (0, -1)) ∨ (reArg v a1 a2 a3 ∧ (∃ j, 0 ≤ j ∧ j < 136 ∧ trb G v (ty1 v a1 a2 a3) j) ∧ o = some (0, -2) ∧ FLs (trb G v (ty1 v a1 a2 a3)) 136 (v1 47 57) (v1 81) ∧ (∀ j, v1 53 j = v 53 j)) ∨ (reArg v a1 a2 a3 ∧ (∀ j, 0 ≤ j → j < 136 → ¬ trb G v (ty1 v a1 a2 a3) j) ∧ o = some (0, cnt (oth G v (ty1 v a1 a2 a3)) 136) ∧ (∀ j, 0 ≤ j → j < 136 → v1 53 j = tauF G v (ty1 v a1 a2 a3) j) ∧ v1 47 57 = v 47 57 ∧ (∀ j, v1 81 j = v 81 j)))) := by
  obtain ⟨hb, hM, hG⟩ := id hI
  have hb1 := hb.1
  refine CX.of (by decide +kernel) rfl rfl rfl (bX11_retype_0 a1 a2 a3 (Nat.le_refl _) hW (fun _ _ _ => ⟨_, c_isColumn hW (by omega) a1 a2, fun r2 w3 hP => ?_⟩))
  obtain ⟨rfl, hr⟩ := hP
  obtain rfl : r2 = bI (isC w3 a1 a2) := by simpa using hr
  refine ⟨fun g => ?_, fun g => ?_⟩
  · rw [bI_0] at g; exact ⟨rfl, Fr.rf, ⟨h65, Or.inl rfl⟩, Or.inl ⟨fun z => g z.1, rfl, rfl⟩⟩
  rw [bI_n0] at g
  have ht := isT_b hb g.1
  have hT1 := g.1.1
  have hT2 := g.1.2.1
  have hC := g.2
  obtain ⟨-, -, n3, -⟩ := hM a1 hT1 hT2
  have big : ∀ j, 0 ≤ j → 8 * w3 47 0 ≤ j → ¬ isS w3 (j / 8) := fun j j0 j1 z => by have := z.1.2.1; omega
  have k41 : w3 50 a1 = 0 → (a3 = 110 ∨ a3 = 116 ∨ a3 = 100) → Ex mX11_retype 4 41 [(2, 47), (0, a1), (0, a2), (0, a3), (0, 0), (3, 0), (3, 0), (3, 0), (3, 0)] [] X w3 0 0 (fun o X1 v1 => X1 = X ∧ (Fr ReZ w3 v1 ∧ (v1 47 65 = 0 ∧ (v1 47 50 = w3 47 50 ∨ (0 ≤ v1 47 50 ∧ v1 47 50 ≤ 2000))) ∧ ((¬ reArg w3 a1 a2 a3 ∧ v1 = w3 ∧ o = some (0, -1)) ∨ (reArg w3 a1 a2 a3 ∧ (∃ j, 0 ≤ j ∧ j < 136 ∧ trb G w3 (ty1 w3 a1 a2 a3) j) ∧ o = some (0, -2) ∧ FLs (trb G w3 (ty1 w3 a1 a2 a3)) 136 (v1 47 57) (v1 81) ∧ (∀ j, v1 53 j = w3 53 j)) ∨ (reArg w3 a1 a2 a3 ∧ (∀ j, 0 ≤ j → j < 136 → ¬ trb G w3 (ty1 w3 a1 a2 a3) j) ∧ o = some (0, cnt (oth G w3 (ty1 w3 a1 a2 a3)) 136) ∧ (∀ j, 0 ≤ j → j < 136 → v1 53 j = tauF G w3 (ty1 w3 a1 a2 a3) j) ∧ v1 47 57 = w3 47 57 ∧ (∀ j, v1 81 j = w3 81 j))))) := fun g50 g3 => by
    have hA : reArg w3 a1 a2 a3 := ⟨g, g50, g3⟩
    refine l_re41 hW (Nat.le_refl _) a1 a2 a3 ⟨by omega, by omega, by omega, by omega⟩ (fun V f1 z1 => ?_) 0 w3 ⟨by omega, by omega⟩ Fr.rf (fun i i0 i1 => by omega)
    have u1 : Fr ReA w3 (upd2 (upd2 V 77 (8 * a1 + a2) a3) 47 57 0) := ((f1.mono (fun r j h z => h (by unfold ReA; omega))).up (by unfold ReA; omega)).up (by unfold ReA; omega)
    have u65 : upd2 (upd2 V 77 (8 * a1 + a2) a3) 47 57 0 47 65 = 0 := by rw [upd2_n _ (by omega), upd2_n _ (by omega), f1 47 65 (by omega)]; exact h65
    have u77 : ∀ j, 0 ≤ j → j < 136 → upd2 (upd2 V 77 (8 * a1 + a2) a3) 47 57 0 77 j = ty1 w3 a1 a2 a3 j := fun j j0 j1 => by
      rw [upd2_n _ (by omega)]
      unfold ty1
      by_cases h : j = 8 * a1 + a2
      · rw [if_pos h, h, upd2_s]
      · rw [if_neg h, upd2_n _ (by omega)]; exact z1 j j0 j1
    have u50 : upd2 (upd2 V 77 (8 * a1 + a2) a3) 47 57 0 47 50 = w3 47 50 := by rw [upd2_n _ (by omega), upd2_n _ (by omega), f1 47 50 (by omega)]
    generalize upd2 (upd2 V 77 (8 * a1 + a2) a3) 47 57 0 = u at *
    refine l_re98 (τ0 := ty1 w3 a1 a2 a3) hW (Nat.le_refl _) hI hMW h52 a1 a2 a3 (w3 47 57) (fun V2 oc hR hty => ?_) 0 0 u (by omega) ⟨u1, by rw [u65]; exact FLx.zero _ _, by omega, rfl⟩ (fun j j0 j1 => ?_)
    rotate_left
    · rw [u77 j j0 j1, if_neg (by omega)]; rfl
    have hR2 : RSt G w3 (ty1 w3 a1 a2 a3) 136 oc V2 := hR.to (by omega) (by omega) (fun j j0 j1 z => big j (by omega) j0 z.1) (fun j j0 j1 z => big j (by omega) j0 z.1)
    obtain ⟨r1, r2, r3, r4⟩ := hR2
    have r2f := r2.fin
    refine ⟨fun gl => ?_, fun gl => ?_⟩
    · have hno : ∀ j, 0 ≤ j → j < 136 → ¬ trb G w3 (ty1 w3 a1 a2 a3) j := fun j j0 j1 z => by
        have h1 : cnt (trb G w3 (ty1 w3 a1 a2 a3)) (j.toNat + 1) ≤ cnt (trb G w3 (ty1 w3 a1 a2 a3)) 136 := cnt_mono _ (by omega)
        have h2 : cnt (trb G w3 (ty1 w3 a1 a2 a3)) (j.toNat + 1) = cnt (trb G w3 (ty1 w3 a1 a2 a3)) j.toNat + 1 := by
          show cnt _ j.toNat + bI (trb G w3 (ty1 w3 a1 a2 a3) (j.toNat : Int)) = _
          rw [Int.toNat_of_nonneg j0, bI_t z]
        have h3 := cnt_bd (trb G w3 (ty1 w3 a1 a2 a3)) j.toNat
        have h4 : V2 47 65 = cnt (trb G w3 (ty1 w3 a1 a2 a3)) 136 := r2f.1
        omega
      refine l_re379 hW (Nat.le_refl _) a1 a2 a3 _ oc (fun V3 f3 z3 => ⟨rfl, ?_, ?_, Or.inr (Or.inr ⟨hA, hno, ?_, fun j j0 j1 => ?_, ?_, fun j => ?_⟩)⟩) 0 _ ⟨by omega, by omega⟩ Fr.rf (fun i i0 i1 => by omega)
      · exact ((r1.mono (fun r j h z => h (Or.inl z))).up (Or.inl (by unfold ReA; omega))).via f3 (fun _ _ z => z) (fun r j z => Or.inr (Or.inl z))
      · refine ⟨by rw [f3 47 65 (by omega), upd2_n _ (by omega)]; omega, ?_⟩
        rw [f3 47 50 (by omega), upd2_n _ (by omega)]; exact r3.2.2
      · rw [r4]; rfl
      · rw [z3 j j0 j1, upd2_n _ (by omega)]; exact hty j j0 j1
      · rw [f3 47 57 (by omega), upd2_s]
      · rw [f3 81 j (by omega), upd2_n _ (by omega), r1 81 j (by unfold ReA; omega)]
    · have hex : ∃ j, 0 ≤ j ∧ j < 136 ∧ trb G w3 (ty1 w3 a1 a2 a3) j := by
        have h4 : V2 47 65 = cnt (trb G w3 (ty1 w3 a1 a2 a3)) 136 := r2f.1
        obtain ⟨x, x1, x2, -⟩ := cnt_hit (trb G w3 (ty1 w3 a1 a2 a3)) 136 0 (Int.le_refl _) (by omega)
        exact ⟨x, by omega, by omega, x2⟩
      have e65 : upd2 V2 47 57 (V2 47 65) 47 65 = V2 47 65 := upd2_n _ (by omega)
      refine l_re333 hW (Nat.le_refl _) a1 a2 a3 _ oc (by rw [e65]; exact ⟨r3.1, r3.2.1⟩) (fun V3 f3 z3 => ⟨rfl, ?_, ⟨upd2_s _ _ _ _, by rw [upd2_n _ (by omega), f3 47 50 (by omega), upd2_n _ (by omega)]; exact r3.2.2⟩, Or.inr (Or.inl ⟨hA, hex, rfl, ?_, fun j => ?_⟩)⟩) 0 _ ⟨by omega, by rw [e65]; omega⟩ Fr.rf (fun i i0 i1 => by omega)
      · exact (((r1.mono (fun r j h z => h (Or.inl z))).up (Or.inl (by unfold ReA; omega))).via f3 (fun _ _ z => z) (fun r j z => Or.inr (Or.inr z))).up (Or.inl (by unfold ReA; omega))
      · rw [e65] at z3
        have e57 : upd2 V3 47 65 0 47 57 = V2 47 65 := by rw [upd2_n _ (by omega), f3 47 57 (by omega), upd2_s]
        rw [e57]
        refine ⟨r2f.1, fun x hx hp => ?_⟩
        have hc1 : cnt (trb G w3 (ty1 w3 a1 a2 a3)) (x + 1) ≤ cnt (trb G w3 (ty1 w3 a1 a2 a3)) 136 := cnt_mono _ (by omega)
        have hc2 : cnt (trb G w3 (ty1 w3 a1 a2 a3)) (x + 1) = cnt (trb G w3 (ty1 w3 a1 a2 a3)) x + 1 := by
          show cnt _ x + bI (trb G w3 (ty1 w3 a1 a2 a3) (x : Int)) = _
          rw [bI_t hp]
        have hc3 := (cnt_bd (trb G w3 (ty1 w3 a1 a2 a3)) x).1
        have h4 : V2 47 65 = cnt (trb G w3 (ty1 w3 a1 a2 a3)) 136 := r2f.1
        rw [upd2_n _ (by omega), z3 _ hc3 (by omega), upd2_n _ (by omega)]
        exact r2f.2 x hx hp
      · rw [upd2_n _ (by omega), f3 53 j (by omega), upd2_n _ (by omega), r1 53 j (by unfold ReA; omega)]
  refine ⟨⟨by omega, by omega⟩, fun g50 => ?_, fun g50 => ⟨fun h => k41 g50 (Or.inl h), fun h => ⟨fun h2 => k41 g50 (Or.inr (Or.inl h2)), fun h2 => ⟨fun h3 => k41 g50 (Or.inr (Or.inr h3)), fun h3 => ?_⟩⟩⟩⟩
  · exact ⟨rfl, Fr.rf, ⟨h65, Or.inl rfl⟩, Or.inl ⟨fun z => g50 z.2.1, rfl, rfl⟩⟩
  · exact ⟨rfl, Fr.rf, ⟨h65, Or.inl rfl⟩, Or.inl ⟨fun z => by have := z.2.2; omega, rfl, rfl⟩⟩
