/-! ===== the reference's half of a picture ===== -/
def mp (v : VV) : VV := fun r j => match r with
  | Int.ofNat k => bif Nat.ble 47 k && Nat.ble k 86 then v (Int.ofNat k) j else 0
  | Int.negSucc _ => 0
/-- the reference's cells are the same -/
def Emq (v w : VV) : Prop := ∀ r j : Int, 47 ≤ r → r ≤ 86 → w r j = v r j
/-- the class's cells are the same -/
def Ecq (v w : VV) : Prop := ∀ r j : Int, (r < 47 ∨ 86 < r) → w r j = v r j
theorem Emq.mp {v w : VV} (h : Emq v w) : mp w = mp v := by
  funext r j
  cases r with
  | ofNat k =>
    show (bif Nat.ble 47 k && Nat.ble k 86 then w (Int.ofNat k) j else 0) = (bif Nat.ble 47 k && Nat.ble k 86 then v (Int.ofNat k) j else 0)
    cases hb : (Nat.ble 47 k && Nat.ble k 86) with
    | false => rfl
    | true =>
      have h1 := Nat.le_of_ble_eq_true ((Bool.and_eq_true _ _ ▸ hb : Nat.ble 47 k = true ∧ Nat.ble k 86 = true).1)
      have h2 := Nat.le_of_ble_eq_true ((Bool.and_eq_true _ _ ▸ hb : Nat.ble 47 k = true ∧ Nat.ble k 86 = true).2)
      exact h (Int.ofNat k) j (Int.ofNat_le.mpr h1) (Int.ofNat_le.mpr h2)
  | negSucc k => rfl
theorem mp_in (v : VV) {r : Int} (j : Int) (h : 47 ≤ r ∧ r ≤ 86) : mp v r j = v r j := by
  obtain ⟨k, rfl⟩ : ∃ k : Nat, r = Int.ofNat k := ⟨r.toNat, by show r = (r.toNat : Int); omega⟩
  show (bif Nat.ble 47 k && Nat.ble k 86 then v (Int.ofNat k) j else 0) = _
  have h1 : Nat.ble 47 k = true := Nat.ble_eq_true_of_le (Int.ofNat_le.mp h.1)
  have h2 : Nat.ble k 86 = true := Nat.ble_eq_true_of_le (Int.ofNat_le.mp h.2)
  rw [h1, h2]
  rfl
theorem Emq.fr {S : Int → Int → Prop} {v w : VV} (h : Fr S v w) (hs : ∀ r j, S r j → r < 47 ∨ 86 < r) : Emq v w := fun r j h1 h2 => h r j (fun q => by have := hs r j q; omega)
theorem Ecq.fr {S : Int → Int → Prop} {v w : VV} (h : Fr S v w) (hs : ∀ r j, S r j → 47 ≤ r ∧ r ≤ 86) : Ecq v w := fun r j h1 => h r j (fun q => by have := hs r j q; omega)
theorem tr {α : Type} (P : VV → α) (hp : ∀ u, P u = P (mp u)) {v w : VV} (e : mp w = mp v) : P w = P v := (hp w).trans ((congrArg P e).trans (hp v).symm)
/-! ===== what holds between two calls ===== -/
def okN (x : Int) : Prop := x = 110 ∨ x = 116 ∨ x = 100
/-- a select's stored types are what its formulas give -/
def TyT (G : GT) (v : VV) (t : Int) : Prop := (∀ c, 0 ≤ c → c < v 51 t → ¬ ErC G v (v 53) t c ∧ TyC G v (v 53) t c = v 53 (8 * t + c)) ∧ ¬ badW G v (v 53) t
def TyOK (G : GT) (v : VV) : Prop := ∀ t, isS v t → TyT G v t
def TyA (G : GT) (v : VV) : Prop := (∀ t c, isC v t c → okN (v 53 (8 * t + c))) ∧ TyOK G v
/-- the reference alone -/
def MIn (G : GT) (E : Int) (vm : VV) : Prop := MS G vm ∧ MW vm ∧ (vm 47 52 = 0 ∧ vm 47 65 = 0 ∧ 0 ≤ vm 47 50 ∧ vm 47 50 ≤ E) ∧ AKr vm ∧ TX (vm 68) (vm 47 22) ∧ TyA G vm ∧ ∀ t, isS vm t → vm 67 t = 2 ∧ 2 ≤ vm 60 t ∧ (rStmt (G t).1 (G t).2).1 = true ∧ (rStmt (G t).1 (G t).2).2 = vm 60 t
/-- where the formulas of a select begin -/
def SelW (b : Int → Int) (n : Int) (vm : VV) (C : Nat) (t w : Int) : Prop := (∀ c : Nat, c < C → vm 65 (8 * t + c) = qN b n 3 c + 2) ∧ 0 ≤ w ∧ WhF b n t w vm
/-- what a name dot name of table t's text is -/
noncomputable def refU (b : Int → Int) (n : Int) (v : VV) (t r : Int) : Int := if qOf v t (tW b n r) = -1 then 0 else 1000 + uAt b n v t r
/-- a table's program -/
def PrgV (G : GT) (vc vm : VV) (C : Nat) (t o : Int) : Prop := (¬ (vm 50 t = 1 ∨ vm 50 t = 2) → ∀ f, 0 ≤ f → f ≤ 6 → PartR vc (o + 5) (o + 6) (o + 7) (o + 8) (o + 9) (o + 10) f []) ∧ ((vm 50 t = 1 ∨ vm 50 t = 2) → ∃ w, SelW (G t).1 (G t).2 vm C t w ∧ ∀ f, 0 ≤ f → f ≤ 6 → PartR vc (o + 5) (o + 6) (o + 7) (o + 8) (o + 9) (o + 10) f (LLs (G t).1 (G t).2 C w (refU (G t).1 (G t).2 vm t) f))
/-- a table object and the reference's table, but for its age -/
def TabN (G : GT) (X : XX) (vc vm : VV) (C : Nat) (t o : Int) : Prop := ∃ B I W : Nat, (TabS X o C B I W ∧ (1 ≤ C ∧ C ≤ 6) ∧ B ≤ 3 ∧ I ≤ 400 ∧ W ≤ 400) ∧ (vc o 5 = vm 50 t ∧ vc o 8 = vm 56 t ∧ vc o 9 = vm 57 t) ∧ ((vc (o + 2) 1 = vm 54 t ∧ 0 ≤ vm 54 t ∧ vm 54 t ≤ B) ∧ ∀ k, 0 ≤ k → k < vm 54 t → vc (o + 3) k = vm 55 (3 * t + k)) ∧ ((0 ≤ vc (o + 7) 1 ∧ vc (o + 7) 1 ≤ I) ∧ (0 ≤ vc (o + 9) 1 ∧ vc (o + 9) 1 ≤ I) ∧ PrgV G vc vm C t o) ∧ (vc (o + 11) 1 = W ∧ ((vm 50 t = 1 ∨ vm 50 t = 2) → RowL vc (o + 11) (o + 12) (wdN (G t).1 (G t).2 2 (vm 60 t - 1).toNat)))
def TabR (G : GT) (X : XX) (vc vm : VV) (C : Nat) (t o : Int) : Prop := TabN G X vc vm C t o ∧ vc o 6 = (ag vm t).1 ∧ vc o 7 = (ag vm t).2
def TabA (G : GT) (cC : Int → Nat) (X : XX) (vc vm : VV) : Prop := (∀ t, 0 ≤ t → t < 16 → ¬ X.2 37 t = -1 → TabR G X vc vm (cC t) t (X.2 37 t)) ∧ ∀ s t, 0 ≤ s → s < t → t < 16 → ¬ X.2 37 s = -1 → ¬ X.2 37 t = -1 → X.2 37 s + 13 ≤ X.2 37 t
/-- the asks -/
def AskR (X : XX) (vc vm : VV) : Prop := ∀ a, 0 ≤ a → a < 40 → (X.2 40 a = -1 ∧ ¬ (a < vm 47 59 ∧ ¬ vm 84 a = 0)) ∨ ((a < vm 47 59 ∧ ¬ vm 84 a = 0) ∧ ¬ X.2 40 a = -1 ∧ X.1.2 (X.2 40 a) = (0, 0) ∧ (87 ≤ X.2 40 a ∧ X.2 40 a < X.1.1) ∧ vc (X.2 40 a) 0 = vm 83 a ∧ vc (X.2 40 a) 1 = vm 84 a ∧ vc (X.2 40 a) 2 = vm 85 a)
/-- the draft's sizes and the columns' types -/
def Sc6 (vc : VV) : Prop := DSz vc ∧ ∀ j, 0 ≤ j → j < 128 → okT (vc 38 j)
theorem Sc6.eq {v w : VV} (h : Sc6 v) (e : ∀ r j : Int, (r = 17 ∨ r = 19 ∨ r = 21 ∨ r = 23 ∨ r = 28 ∨ r = 30 ∨ r = 38) → w r j = v r j) : Sc6 w := ⟨h.1.of (fun r hr => Or.inl (e r 1 (by omega))), fun j j0 j1 => by rw [e 38 j (by omega)]; exact h.2 j j0 j1⟩
/-- the counts, the tape, the found, the sizes -/
def Scal (vc vm : VV) : Prop := (vc 0 11 = vm 47 0 ∧ vc 0 12 = vm 47 59 ∧ vc 0 13 = vm 47 64 ∧ vc 0 14 = vm 47 27 ∧ vc 0 15 = vm 47 28) ∧ (vc 1 1 = vm 47 22 ∧ ∀ i, 0 ≤ i → i < vm 47 22 → vc 2 i = vm 68 i) ∧ (vc 43 1 = vm 47 57 ∧ vc 43 1 ≤ 128 ∧ ∀ i, 0 ≤ i → i < vm 47 57 → vc 44 i = vm 81 i) ∧ (0 ≤ vc 6 1 ∧ 0 ≤ vc 8 1 ∧ 0 ≤ vc 10 1 ∧ 0 ≤ vc 13 1 ∧ 0 ≤ vc 15 1 ∧ 0 ≤ vc 45 1) ∧ Sc6 vc
def I1 (G : GT) (cC : Int → Nat) (E : Int) (X : XX) (vc vm : VV) : Prop := SW X ∧ MIn G E vm ∧ LkR X vc vm cC ∧ TabA G cC X vc vm ∧ AskR X vc vm
def I2 (G : GT) (cC : Int → Nat) (E : Int) (X : XX) (vc vm : VV) : Prop := I1 G cC E X vc vm ∧ Scal vc vm
theorem TabA.obj {G : GT} {cC : Int → Nat} {X : XX} {vc vm : VV} (h : TabA G cC X vc vm) : TObj X := fun t t0 t1 => by
  by_cases z : X.2 37 t = -1
  · exact Or.inl z
  · obtain ⟨⟨B, I, W, ⟨⟨⟨s1, s2⟩, s3, -⟩, -⟩, -⟩, -⟩ := h.1 t t0 t1 z
    exact Or.inr ⟨s3, s1, by omega⟩
theorem TabA.col {G : GT} {cC : Int → Nat} {X : XX} {vc vm : VV} (h : TabA G cC X vc vm) : TCol X cC := fun t t0 t1 => by
  by_cases z : X.2 37 t = -1
  · exact Or.inl z
  · obtain ⟨⟨B, I, W, ⟨⟨⟨s1, s2⟩, -, ⟨s3, s4⟩, -⟩, hC, -⟩, -⟩, -⟩ := h.1 t t0 t1 z
    rw [← s3] at s4
    exact Or.inr ⟨⟨s4, by omega, by omega⟩, hC⟩
/-- the class's scratch -/
def Scr (r _j : Int) : Prop := (1 ≤ r ∧ r ≤ 36) ∨ r = 39 ∨ (41 ≤ r ∧ r ≤ 46)
theorem PartR.eq {v w : VV} {st en it ic pl pc f : Int} {L : List (Int × Int)} (h : PartR v st en it ic pl pc f L) (h1 : w st f = v st f) (h2 : w en f = v en f) (h3 : w it 1 = v it 1) (h4 : w pl 1 = v pl 1) (h5 : ∀ j, w ic j = v ic j) (h6 : ∀ j, w pc j = v pc j) : PartR w st en it ic pl pc f L := by
  obtain ⟨a, b, c, d, e⟩ := h
  unfold PartR
  rw [h1, h2, h3, h4]
  exact ⟨a, b, c, d, e.fr L _ (fun j _ _ => ⟨h5 j, h6 j⟩)⟩
theorem PrgV.c {G : GT} {vc w vm : VV} {C : Nat} {t o : Int} (h : PrgV G vc vm C t o) (hc : ∀ r j, o + 4 ≤ r → r ≤ o + 10 → w r j = vc r j) : PrgV G w vm C t o := by
  have hp : ∀ f L, PartR vc (o + 5) (o + 6) (o + 7) (o + 8) (o + 9) (o + 10) f L → PartR w (o + 5) (o + 6) (o + 7) (o + 8) (o + 9) (o + 10) f L := fun f L q => q.eq (hc _ _ (by omega) (by omega)) (hc _ _ (by omega) (by omega)) (hc _ _ (by omega) (by omega)) (hc _ _ (by omega) (by omega)) (fun j => hc _ _ (by omega) (by omega)) (fun j => hc _ _ (by omega) (by omega))
  exact ⟨fun z f f0 f1 => hp f _ (h.1 z f f0 f1), fun z => by
    obtain ⟨x, h1, h2⟩ := h.2 z
    exact ⟨x, h1, fun f f0 f1 => hp f _ (h2 f f0 f1)⟩⟩
theorem TabN.c {G : GT} {X : XX} {vc w vm : VV} {C : Nat} {t o : Int} (h : TabN G X vc vm C t o) (hc : ∀ r j, o ≤ r → r < o + 13 → ¬ (r = o ∧ (j = 6 ∨ j = 7)) → w r j = vc r j) : TabN G X w vm C t o := by
  obtain ⟨B, I, W, h1, ⟨h2, h3, h4⟩, ⟨⟨h7, h8⟩, h9⟩, ⟨h10, h11, h12⟩, h13, h14⟩ := h
  have e : ∀ k j : Int, 0 < k → k < 13 → w (o + k) j = vc (o + k) j := fun k j k0 k1 => hc _ _ (by omega) (by omega) (by omega)
  have e0 : ∀ j, ¬ (j = 6 ∨ j = 7) → w o j = vc o j := fun j hj => hc _ _ (by omega) (by omega) (fun q => hj q.2)
  refine ⟨B, I, W, h1, ⟨by rw [e0 5 (by decide)]; exact h2, by rw [e0 8 (by decide)]; exact h3, by rw [e0 9 (by decide)]; exact h4⟩, ⟨⟨by rw [e 2 1 (by decide) (by decide)]; exact h7, h8⟩, fun k k0 k1 => by rw [e 3 k (by decide) (by decide)]; exact h9 k k0 k1⟩, ⟨by rw [e 7 1 (by decide) (by decide)]; exact h10, by rw [e 9 1 (by decide) (by decide)]; exact h11, h12.c (fun r j r0 r1 => hc r j (by omega) (by omega) (by omega))⟩, by rw [e 11 1 (by decide) (by decide)]; exact h13, fun z => ?_⟩
  obtain ⟨q1, q2⟩ := h14 z
  exact ⟨by rw [e 11 1 (by decide) (by decide)]; exact q1, fun i x hx => by rw [e 12 i (by decide) (by decide)]; exact q2 i x hx⟩
theorem TabR.c {G : GT} {X : XX} {vc w vm : VV} {C : Nat} {t o : Int} (h : TabR G X vc vm C t o) (hc : ∀ r j, o ≤ r → r < o + 13 → w r j = vc r j) : TabR G X w vm C t o := ⟨h.1.c (fun r j r0 r1 _ => hc r j r0 r1), by rw [hc o 6 (by omega) (by omega)]; exact h.2.1, by rw [hc o 7 (by omega) (by omega)]; exact h.2.2⟩
theorem TabN.sh {G : GT} {X : XX} {vc vm : VV} {C : Nat} {t o : Int} (h : TabN G X vc vm C t o) : ∃ B I W : Nat, TabS X o C B I W ∧ B ≤ 3 ∧ I ≤ 400 ∧ W ≤ 400 := by
  obtain ⟨B, I, W, ⟨h1, -, h2, h3, h4⟩, -⟩ := h
  exact ⟨B, I, W, h1, h2, h3, h4⟩
theorem AskR.c {X : XX} {vc w vm : VV} (h : AskR X vc vm) (hc : ∀ a j, 0 ≤ a → a < 40 → 87 ≤ X.2 40 a → X.1.2 (X.2 40 a) = (0, 0) → w (X.2 40 a) j = vc (X.2 40 a) j) : AskR X w vm := fun a a0 a1 => by
  rcases h a a0 a1 with q | ⟨q1, q2, q3, q4, q5, q6, q7⟩
  · exact Or.inl q
  · have e := fun j => hc a j a0 a1 q4.1 q3
    exact Or.inr ⟨q1, q2, q3, q4, by rw [e]; exact q5, by rw [e]; exact q6, by rw [e]; exact q7⟩
theorem TabA.c {G : GT} {cC : Int → Nat} {X : XX} {vc w vm : VV} (h : TabA G cC X vc vm) (hc : ∀ r j, 87 ≤ r → w r j = vc r j) : TabA G cC X w vm := ⟨fun t t0 t1 z => by
  have q := h.1 t t0 t1 z
  have ho : 87 ≤ X.2 37 t := by
    obtain ⟨⟨B, I, W, ⟨⟨s1, -⟩, -⟩, -⟩, -⟩ := q
    exact s1.1
  exact q.c (fun r j r0 r1 => hc r j (by omega)), h.2⟩
theorem LkR.c {X : XX} {vc w vm : VV} {cC : Int → Nat} (h : LkR X vc vm cC) (hTO : TObj X) (hTC : TCol X cC) (hc : Fr Scr vc w) : LkR X w vm cC := h.fr hTO hTC hc (fun r j q => by unfold Scr; omega) rfl (fun _ => rfl) (fun t _ _ => ⟨rfl, rfl, fun c _ _ => ⟨rfl, rfl⟩⟩)
/-- the class's scratch may change -/
theorem I1.c {G : GT} {cC : Int → Nat} {E : Int} {X : XX} {vc w vm : VV} (h : I1 G cC E X vc vm) (hf : Fr Scr vc w) : I1 G cC E X w vm := by
  obtain ⟨h1, h2, h3, h4, h5⟩ := h
  exact ⟨h1, h2, h3.c h4.obj h4.col hf, h4.c (fun r j q => hf r j (by unfold Scr; omega)), h5.c (fun a j _ _ q _ => hf _ j (by unfold Scr; omega))⟩
/-- a living table, as either side has it -/
theorem I1.live {G : GT} {cC : Int → Nat} {E : Int} {X : XX} {vc vm : VV} (h : I1 G cC E X vc vm) (t : Int) : isT vm t ↔ (0 ≤ t ∧ t < 16 ∧ ¬ X.2 37 t = -1) := by
  obtain ⟨-, -, ⟨⟨a1, a2⟩, a3⟩, -⟩ := h
  unfold isT
  constructor
  · rintro ⟨z1, z2, z3⟩
    exact ⟨z1, by omega, (a3 t z1 (by omega)).1.mp ⟨z2, z3⟩⟩
  · rintro ⟨z1, z2, z3⟩
    have := (a3 t z1 z2).1.mpr z3
    exact ⟨z1, this.1, this.2⟩
theorem I1.cols {G : GT} {cC : Int → Nat} {E : Int} {X : XX} {vc vm : VV} (h : I1 G cC E X vc vm) (t c : Int) : isC vm t c ↔ hasC X cC t c := by
  unfold isC hasC
  rw [h.live t]
  constructor
  · rintro ⟨z1, z2, z3⟩
    rw [((h.2.2.1.2 t z1.1 z1.2.1).2 z1.2.2).2.1] at z3
    exact ⟨z1, z2, z3⟩
  · rintro ⟨z1, z2, z3⟩
    rw [← ((h.2.2.1.2 t z1.1 z1.2.1).2 z1.2.2).2.1] at z3
    exact ⟨z1, z2, z3⟩
theorem I1.tab {G : GT} {cC : Int → Nat} {E : Int} {X : XX} {vc vm : VV} (h : I1 G cC E X vc vm) {t : Int} (ht : isT vm t) : TabR G X vc vm (cC t) t (X.2 37 t) := by
  obtain ⟨z1, z2, z3⟩ := (h.live t).mp ht
  exact h.2.2.2.1.1 t z1 z2 z3
