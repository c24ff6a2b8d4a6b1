/-! ===== the reference's tables below T are the same ===== -/
def SmT (T : Int) (v V : VV) : Prop := ∀ s, 0 ≤ s → s < T → (V 49 s = v 49 s ∧ V 51 s = v 51 s ∧ V 60 s = v 60 s ∧ V 67 s = v 67 s) ∧ (∀ c, 0 ≤ c → c < 8 → V 52 (8 * s + c) = v 52 (8 * s + c) ∧ V 65 (8 * s + c) = v 65 (8 * s + c) ∧ V 66 (8 * s + c) = v 66 (8 * s + c)) ∧ (∀ k, 0 ≤ k → k < 3 → V 55 (3 * s + k) = v 55 (3 * s + k)) ∧ ∀ i, 0 ≤ i → i < 400 → V 61 (400 * s + i) = v 61 (400 * s + i) ∧ V 62 (400 * s + i) = v 62 (400 * s + i) ∧ V 63 (400 * s + i) = v 63 (400 * s + i) ∧ V 64 (400 * s + i) = v 64 (400 * s + i)
theorem SmT.fr {S : Int → Int → Prop} {T : Int} {v V : VV} (hf : Fr S v V) (hs : ∀ r j, S r j → ¬ (49 ≤ r ∧ r ≤ 67) ∨ r = 50 ∨ r = 53 ∨ r = 54 ∨ (56 ≤ r ∧ r ≤ 59)) : SmT T v V := fun s s0 s1 => by
  have g : ∀ r j : Int, (r = 49 ∨ r = 51 ∨ r = 60 ∨ r = 67 ∨ r = 52 ∨ r = 65 ∨ r = 66 ∨ r = 55 ∨ r = 61 ∨ r = 62 ∨ r = 63 ∨ r = 64) → V r j = v r j := fun r j hr => hf r j (fun q => by have := hs r j q; omega)
  exact ⟨⟨g 49 _ (by omega), g 51 _ (by omega), g 60 _ (by omega), g 67 _ (by omega)⟩, fun c _ _ => ⟨g 52 _ (by omega), g 65 _ (by omega), g 66 _ (by omega)⟩, fun k _ _ => g 55 _ (by omega), fun i _ _ => ⟨g 61 _ (by omega), g 62 _ (by omega), g 63 _ (by omega), g 64 _ (by omega)⟩⟩
theorem qOf_sm {T t : Int} {v V : VV} (h : SmT T v V) (ht : 0 ≤ t ∧ t < T) (h54 : V 54 t = v 54 t) (hb : 0 ≤ v 54 t ∧ v 54 t ≤ 3) (h55 : ∀ k, 0 ≤ k → k < v 54 t → 0 ≤ v 55 (3 * t + k) ∧ v 55 (3 * t + k) < t) (w : Int) : qOf V t w = qOf v t w := by
  obtain ⟨-, -, e55, -⟩ := h t ht.1 ht.2
  have e : fst1 (bhn V t w) (V 54 t).toNat = fst1 (bhn v t w) (v 54 t).toNat := by
    rw [h54]
    refine fst1_cg _ (fun k k0 k1 => ?_)
    obtain ⟨a1, a2⟩ := h55 k k0 (by omega)
    unfold bhn
    rw [e55 k k0 (by omega), (h _ a1 (by omega)).1.1]
  unfold qOf
  rw [e]
  by_cases z : fst1 (bhn v t w) (v 54 t).toNat = -1
  · rw [if_pos z, if_pos z]
  · rw [if_neg z, if_neg z]
    rcases fst1_spec (bhn v t w) (v 54 t).toNat with ⟨q, -⟩ | ⟨q0, q1, -⟩
    · exact absurd q z
    · exact e55 _ q0 (by omega)
theorem cOf_sm {T q : Int} {v V : VV} (h : SmT T v V) (hq : 0 ≤ q ∧ q < T) (hb : 0 ≤ v 51 q ∧ v 51 q ≤ 6) (w : Int) : cOf V q w = cOf v q w := by
  obtain ⟨⟨-, e51, -⟩, e52, -⟩ := h q hq.1 hq.2
  unfold cOf
  rw [e51]
  refine fst1_cg _ (fun c c0 c1 => ?_)
  rw [(e52 c c0 (by omega)).1]
theorem qOf_mem {t : Int} {v : VV} {w : Int} (hb : 0 ≤ v 54 t) (h : ¬ qOf v t w = -1) : ∃ k, 0 ≤ k ∧ k < v 54 t ∧ v 55 (3 * t + k) = qOf v t w := by
  unfold qOf at h ⊢
  by_cases z : fst1 (bhn v t w) (v 54 t).toNat = -1
  · rw [if_pos z] at h; exact absurd rfl h
  · rw [if_neg z]
    rcases fst1_spec (bhn v t w) (v 54 t).toNat with ⟨q, -⟩ | ⟨q0, q1, -⟩
    · exact absurd q z
    · exact ⟨_, q0, by omega, rfl⟩
/-- what a table's own row says of its tables behind -/
def BhO (v : VV) (t : Int) : Prop := (0 ≤ v 54 t ∧ v 54 t ≤ 3) ∧ ∀ k, 0 ≤ k → k < v 54 t → 0 ≤ v 55 (3 * t + k) ∧ v 55 (3 * t + k) < t
theorem MTt.bh {v : VV} {t : Int} (h : MTt v t) : BhO v t := by
  obtain ⟨-, -, -, m4, m5, -⟩ := h
  exact ⟨m4, fun k k0 k1 => ⟨(m5 k k0 k1).1, (m5 k k0 k1).2.1⟩⟩
theorem uAt_sm {T t : Int} {v V : VV} (h : SmT T v V) (ht : 0 ≤ t ∧ t < T) (h54 : V 54 t = v 54 t) (hB : BhO v t) (h51 : ∀ s, 0 ≤ s → s < T → 0 ≤ v 51 s ∧ v 51 s ≤ 6) (b : Int → Int) (n r : Int) (hq : ¬ qOf v t (tW b n r) = -1) : uAt b n V t r = uAt b n v t r := by
  obtain ⟨k, k0, k1, k2⟩ := qOf_mem hB.1.1 hq
  obtain ⟨a1, a2⟩ := hB.2 k k0 k1
  unfold uAt
  rw [qOf_sm h ht h54 hB.1 hB.2, cOf_sm h (by omega) (h51 _ (by omega) (by omega))]
theorem refU_sm {T t : Int} {v V : VV} (h : SmT T v V) (ht : 0 ≤ t ∧ t < T) (h54 : V 54 t = v 54 t) (hB : BhO v t) (h51 : ∀ s, 0 ≤ s → s < T → 0 ≤ v 51 s ∧ v 51 s ≤ 6) (b : Int → Int) (n : Int) : refU b n V t = refU b n v t := by
  funext r
  unfold refU
  rw [qOf_sm h ht h54 hB.1 hB.2]
  by_cases z : qOf v t (tW b n r) = -1
  · rw [if_pos z, if_pos z]
  · rw [if_neg z, if_neg z, uAt_sm h ht h54 hB h51 b n r z]
theorem PrgV.m {G : GT} {vc v V : VV} {C : Nat} {T t o : Int} (h : PrgV G vc v C t o) (hC : C ≤ 6) (hs : SmT T v V) (ht : 0 ≤ t ∧ t < T) (h50 : V 50 t = v 50 t) (h54 : V 54 t = v 54 t) (hB : BhO v t) (h51 : ∀ s, 0 ≤ s → s < T → 0 ≤ v 51 s ∧ v 51 s ≤ 6) : PrgV G vc V C t o := by
  unfold PrgV
  rw [h50]
  refine ⟨h.1, fun z => ?_⟩
  obtain ⟨w, ⟨h1, h0, h2⟩, h3⟩ := h.2 z
  rw [refU_sm hs ht h54 hB h51]
  obtain ⟨-, e, -⟩ := hs t ht.1 ht.2
  refine ⟨w, ⟨fun c hc => by rw [(e c (by omega) (by omega)).2.1]; exact h1 c hc, h0, ?_⟩, h3⟩
  unfold WhF
  rw [(e 6 (by decide) (by decide)).2.1, (e 6 (by decide) (by decide)).2.2, (e 7 (by decide) (by decide)).2.1, (e 7 (by decide) (by decide)).2.2]
  exact h2
theorem TabN.m {G : GT} {X : XX} {vc v V : VV} {C : Nat} {T t o : Int} (h : TabN G X vc v C t o) (hs : SmT T v V) (ht : 0 ≤ t ∧ t < T) (h50 : V 50 t = v 50 t) (h54 : V 54 t = v 54 t) (h56 : V 56 t = v 56 t) (h57 : V 57 t = v 57 t) (hB : BhO v t) (h51 : ∀ s, 0 ≤ s → s < T → 0 ≤ v 51 s ∧ v 51 s ≤ 6) : TabN G X vc V C t o := by
  obtain ⟨B, I, W, ⟨h1, hC, h1'⟩, h2, ⟨h3, h4⟩, ⟨h5, h6, h7⟩, h8, h9⟩ := h
  obtain ⟨⟨-, -, e60, -⟩, -, e55, -⟩ := hs t ht.1 ht.2
  refine ⟨B, I, W, ⟨h1, hC, h1'⟩, by rw [h50, h56, h57]; exact h2, ⟨by rw [h54]; exact h3, fun k k0 k1 => ?_⟩, ⟨h5, h6, h7.m hC.2 hs ht h50 h54 hB h51⟩, h8, by rw [h50, e60]; exact h9⟩
  rw [h54] at k1
  rw [e55 k k0 (by have := hB.1; omega)]
  exact h4 k k0 k1
theorem PF_sm {T t f : Int} {v V : VV} (hs : SmT T v V) (ht : 0 ≤ t ∧ t < T) : PF V t f ↔ PF v t f := by
  obtain ⟨⟨-, e51, -⟩, e, -⟩ := hs t ht.1 ht.2
  unfold PF
  rw [e51, (e 7 (by decide) (by decide)).2.2]
theorem TabT.sm {b : Int → Int} {n T t : Int} {v V : VV} (h : TabT b n t v) (hs : SmT T v V) (ht : (0 ≤ t ∧ t < T) ∧ T ≤ 16) (h54 : V 54 t = v 54 t) (hB : BhO v t) (h51 : ∀ s, 0 ≤ s → s < T → 0 ≤ v 51 s ∧ v 51 s ≤ 6) (h48 : ∀ k, 0 ≤ k → k < v 54 t → ¬ V 48 (v 55 (3 * t + k)) = 0) : TabT b n t V := by
  obtain ⟨⟨k1, k2, k3, k4, k5⟩, hF⟩ := h
  obtain ⟨⟨-, e51, e60, -⟩, e, -, e6⟩ := hs t ht.1.1 ht.1.2
  have hn4 := k3.1
  refine ⟨?_, fun f hf => ?_⟩
  · rw [e60]
    refine ⟨fun i i0 i1 => ?_, fun i i0 i1 => ?_, k3, k4, k5⟩
    · obtain ⟨a1, a2, a3, -⟩ := e6 i i0 (by omega)
      rw [a1, a2, a3]; exact k1 i i0 i1
    · rw [(e6 i i0 (by omega)).2.2.2]; exact k2 i i0 i1
  · have hf' := (PF_sm hs ht.1).mp hf
    have hf8 : 0 ≤ f ∧ f < 8 := by
      have := h51 t ht.1.1 ht.1.2
      unfold PF at hf'; omega
    obtain ⟨-, g65, g66⟩ := e f hf8.1 hf8.2
    obtain ⟨f1, f2, f3, f4, f5⟩ := hF f hf'
    unfold FmOK
    rw [g65, g66, e60]
    refine ⟨f1, f2, f3, f4, fun k hk => ?_⟩
    obtain ⟨⟨q1, q2, q3⟩, q4, q5⟩ := f5 k hk
    rw [qOf_sm hs ht.1 h54 hB.1 hB.2]
    obtain ⟨i, i0, i1, i2⟩ := qOf_mem hB.1.1 (show ¬ qOf v t (tW b n k) = -1 by omega)
    have hq := h51 _ q1 (by omega)
    rw [cOf_sm hs (by omega) hq, (hs _ q1 (by omega)).1.2.1]
    refine ⟨⟨q1, q2, ?_⟩, q4, q5⟩
    rw [← i2]; exact h48 i i0 i1
theorem MS.sm {G : GT} {v V : VV} (h : MS G v) (hb : MB V) (hM : MT V) (e0 : V 47 0 = v 47 0) (hs : SmT (v 47 0) v V) (hS : ∀ t, isS V t → isS v t ∧ V 54 t = v 54 t) : MS G V := by
  obtain ⟨h1, h2, h3⟩ := h
  refine ⟨hb, hM, fun t ht => ?_⟩
  obtain ⟨hS1, h54⟩ := hS t ht
  have hlt := hS1.1
  have h55 := (hs t hlt.1 hlt.2.1).2.2.1
  have hMt := h2 t hlt.1 hlt.2.1
  refine (h3 t hS1).sm hs ⟨⟨hlt.1, hlt.2.1⟩, h1.1.2⟩ h54 hMt.bh (fun s s0 s1 => ?_) (fun k k0 k1 => ?_)
  · obtain ⟨-, -, m3, -⟩ := h2 s s0 s1
    exact ⟨by omega, m3.2⟩
  · obtain ⟨m1, -, -, -, m5, -⟩ := hM t ht.1.1 ht.1.2.1
    have h48 : V 48 t = 1 := m1.elim (fun z => absurd z ht.1.2.2) id
    have := (m5 k k0 (by rw [h54]; exact k1)).2.2 h48
    rw [h55 k k0 (by have := hMt.bh.1; omega)] at this
    rw [this]; decide
theorem TyT.to {G G' : GT} {v V : VV} {t : Int} (h : TyT G v t) (eG : G' t = G t) (h51 : 0 ≤ v 51 t ∧ v 51 t ≤ 6) (e51 : V 51 t = v 51 t) (e53 : ∀ c, 0 ≤ c → c < v 51 t → V 53 (8 * t + c) = v 53 (8 * t + c)) (e65 : ∀ f, 0 ≤ f → f < 8 → V 65 (8 * t + f) = v 65 (8 * t + f)) (e66 : V 66 (8 * t + 7) = v 66 (8 * t + 7)) (hu : ∀ f k, PF v t f → rfF (G t).1 (G t).2 3 (v 65 (8 * t + f)) k → uAt (G t).1 (G t).2 V t k = uAt (G t).1 (G t).2 v t k ∧ V 53 (uAt (G t).1 (G t).2 v t k) = v 53 (uAt (G t).1 (G t).2 v t k)) : TyT G' V t := by
  have hR : ∀ f, PF v t f → ∀ k, rfF (G t).1 (G t).2 3 (v 65 (8 * t + f)) k → Rt G' V (V 53) t k = Rt G v (v 53) t k := fun f hp k hk => by
    obtain ⟨u1, u2⟩ := hu f k hp hk
    unfold Rt
    rw [eG, u1, u2]
  have hTy : ∀ f, PF v t f → 0 ≤ f → f < 8 → TyC G' V (V 53) t f = TyC G v (v 53) t f := fun f hp f0 f8 => by
    unfold TyC
    rw [eG, e65 f f0 f8]
    exact tyF_cg (hR f hp)
  have hEr : ∀ f, PF v t f → 0 ≤ f → f < 8 → (ErC G' V (V 53) t f ↔ ErC G v (v 53) t f) := fun f hp f0 f8 => by
    unfold ErC
    rw [eG, e65 f f0 f8]
    have e : ∀ p, erF (G t).1 (G t).2 (Rt G' V (V 53) t) 3 (v 65 (8 * t + f)) p ↔ erF (G t).1 (G t).2 (Rt G v (v 53) t) 3 (v 65 (8 * t + f)) p := fun p => erF_cg (hR f hp)
    simp only [e]
  refine ⟨fun c c0 c1 => ?_, ?_⟩
  · rw [e51] at c1
    have hp : PF v t c := Or.inl ⟨c0, c1⟩
    obtain ⟨a1, a2⟩ := h.1 c c0 c1
    rw [hEr c hp c0 (by omega), hTy c hp c0 (by omega), e53 c c0 c1]
    exact ⟨a1, a2⟩
  · intro z
    refine h.2 ?_
    unfold badW at z ⊢
    rw [e66] at z
    have p6 : PF v t 6 := Or.inr ⟨Or.inl rfl, z.1⟩
    have p7 : PF v t 7 := Or.inr ⟨Or.inr rfl, z.1⟩
    rw [hEr 6 p6 (by decide) (by decide), hEr 7 p7 (by decide) (by decide), hTy 6 p6 (by decide) (by decide), hTy 7 p7 (by decide) (by decide)] at z
    exact z
theorem TyOK.sm {G : GT} {v V : VV} (h : TyOK G v) (hI : MS G v) (hM : MT V) (e0 : V 47 0 = v 47 0) (hs : SmT (v 47 0) v V) (hS : ∀ t, isS V t → isS v t ∧ V 54 t = v 54 t) (h53 : ∀ t c, isC V t c → V 53 (8 * t + c) = v 53 (8 * t + c)) : TyOK G V := fun t ht => by
  obtain ⟨hS1, h54⟩ := hS t ht
  have hlt := hS1.1
  obtain ⟨⟨-, e51, -⟩, e8, e55, -⟩ := hs t hlt.1 hlt.2.1
  have hMt := hI.2.1 t hlt.1 hlt.2.1
  have h51 : ∀ s, 0 ≤ s → s < v 47 0 → 0 ≤ v 51 s ∧ v 51 s ≤ 6 := fun s s0 s1 => by
    obtain ⟨-, -, m3, -⟩ := hI.2.1 s s0 s1
    exact ⟨by omega, m3.2⟩
  refine (h t hS1).to rfl (h51 t hlt.1 hlt.2.1) e51 (fun c c0 c1 => h53 t c ⟨ht.1, c0, by rw [e51]; exact c1⟩) (fun f f0 f8 => (e8 f f0 f8).2.1) (e8 7 (by decide) (by decide)).2.2 (fun f k hp hk => ?_)
  obtain ⟨-, -, -, -, f5⟩ := (hI.2.2 t hS1).2 f hp
  obtain ⟨⟨a1, a2, a3⟩, a4, a5⟩ := f5 k hk
  refine ⟨uAt_sm hs ⟨hlt.1, hlt.2.1⟩ h54 hMt.bh h51 _ _ k (by omega), ?_⟩
  have hltT := hlt.2.1
  refine h53 _ _ ⟨⟨a1, by omega, ?_⟩, a4, by rw [(hs _ a1 (by omega)).1.2.1]; exact a5⟩
  obtain ⟨i, i0, i1, i2⟩ := qOf_mem hMt.bh.1.1 (show ¬ qOf v t (tW (G t).1 (G t).2 k) = -1 by omega)
  obtain ⟨m1, -, -, -, m5, -⟩ := hM t ht.1.1 ht.1.2.1
  have h48 : V 48 t = 1 := m1.elim (fun z => absurd z ht.1.2.2) id
  have := (m5 i i0 (by rw [h54]; exact i1)).2.2 h48
  rw [e55 i i0 (by have := hMt.bh.1; omega), i2] at this
  rw [this]; decide
theorem MIn.sm {G : GT} {E E' : Int} {v V : VV} (h : MIn G E v) (hb : MB V) (hM : MT V) (e0 : V 47 0 = v 47 0) (hs : SmT (v 47 0) v V) (hS : ∀ t, isS V t → isS v t ∧ V 54 t = v 54 t) (hW : MW V) (hc : V 47 52 = 0 ∧ V 47 65 = 0 ∧ 0 ≤ V 47 50 ∧ V 47 50 ≤ E') (hA : AKr V) (hT : TX (V 68) (V 47 22)) (hy : ∀ t c, isC V t c → isC v t c ∧ V 53 (8 * t + c) = v 53 (8 * t + c)) : MIn G E' V := by
  obtain ⟨h1, -, -, -, -, h6, h7⟩ := h
  refine ⟨h1.sm hb hM e0 hs hS, hW, hc, hA, hT, ⟨fun t c hc' => by rw [(hy t c hc').2]; exact h6.1 t c (hy t c hc').1, h6.2.sm h1 hM e0 hs hS (fun t c hc' => (hy t c hc').2)⟩, fun t ht => ?_⟩
  have hlt := (hS t ht).1
  obtain ⟨a1, a2, a3, a4⟩ := h7 t hlt
  obtain ⟨⟨-, -, e60, e67⟩, -⟩ := hs t hlt.1.1 hlt.1.2.1
  rw [e60, e67]
  exact ⟨a1, a2, a3, a4⟩
theorem MIn.mono {G : GT} {E E' : Int} {v : VV} (h : MIn G E v) (hE : E ≤ E') : MIn G E' v := by
  obtain ⟨h1, h2, ⟨h3, h4, h5, h6⟩, h7⟩ := h
  exact ⟨h1, h2, ⟨h3, h4, h5, by omega⟩, h7⟩
theorem I2.mono {G : GT} {cC : Int → Nat} {E E' : Int} {X : XX} {vc vm : VV} (h : I2 G cC E X vc vm) (hE : E ≤ E') : I2 G cC E' X vc vm := ⟨⟨h.1.1, h.1.2.1.mono hE, h.1.2.2⟩, h.2⟩
/-! ===== one table object is written ===== -/
theorem TabS.ask {X : XX} {o q : Int} {C B I W : Nat} (h : TabS X o C B I W) (hq : X.1.2 q = (0, 0)) : ¬ (o ≤ q ∧ q < o + 13) := by
  obtain ⟨-, s0, ⟨-, s1⟩, ⟨-, s2, -, -, s3, -⟩, ⟨-, s4, -, ⟨-, s5, -⟩, ⟨-, s6, -⟩, ⟨-, s7, -, -, s8, -⟩, -, s9, -, -, s10, -⟩, -, s11, -, -, s12, -⟩ := h
  rintro ⟨h0, h1⟩
  have hk : q = o ∨ q = o + 1 ∨ q = o + 2 ∨ q = o + 3 ∨ q = o + 4 ∨ q = o + 5 ∨ q = o + 6 ∨ q = o + 7 ∨ q = o + 8 ∨ q = o + 9 ∨ q = o + 10 ∨ q = o + 11 ∨ q = o + 12 := by omega
  rcases hk with e | e | e | e | e | e | e | e | e | e | e | e | e <;> rw [e] at hq
  · rw [s0] at hq; exact absurd (show (7 : Nat) = 0 from congrArg Prod.fst hq) (by decide)
  · rw [s1] at hq; exact absurd (show (101 : Nat) = 0 from congrArg Prod.fst hq) (by decide)
  · rw [s2] at hq; exact absurd (show (6 : Nat) = 0 from congrArg Prod.fst hq) (by decide)
  · rw [s3] at hq; exact absurd (show (100 : Nat) = 0 from congrArg Prod.fst hq) (by decide)
  · rw [s4] at hq; exact absurd (show (5 : Nat) = 0 from congrArg Prod.fst hq) (by decide)
  · rw [s5] at hq; exact absurd (show (100 : Nat) = 0 from congrArg Prod.fst hq) (by decide)
  · rw [s6] at hq; exact absurd (show (100 : Nat) = 0 from congrArg Prod.fst hq) (by decide)
  · rw [s7] at hq; exact absurd (show (6 : Nat) = 0 from congrArg Prod.fst hq) (by decide)
  · rw [s8] at hq; exact absurd (show (100 : Nat) = 0 from congrArg Prod.fst hq) (by decide)
  · rw [s9] at hq; exact absurd (show (6 : Nat) = 0 from congrArg Prod.fst hq) (by decide)
  · rw [s10] at hq; exact absurd (show (100 : Nat) = 0 from congrArg Prod.fst hq) (by decide)
  · rw [s11] at hq; exact absurd (show (6 : Nat) = 0 from congrArg Prod.fst hq) (by decide)
  · rw [s12] at hq; exact absurd (show (100 : Nat) = 0 from congrArg Prod.fst hq) (by decide)
/-- the cells of the living tables -/
def InTab (X : XX) (r : Int) : Prop := ∃ t, (0 ≤ t ∧ t < 16) ∧ ¬ X.2 37 t = -1 ∧ X.2 37 t ≤ r ∧ r < X.2 37 t + 13
theorem AskR.tab {G : GT} {cC : Int → Nat} {X : XX} {vc vc' w vm : VV} (h : AskR X vc vm) (hA : ∀ t, 0 ≤ t → t < 16 → ¬ X.2 37 t = -1 → TabN G X vc' vm (cC t) t (X.2 37 t)) (hf : ∀ r j, 87 ≤ r → ¬ InTab X r → w r j = vc r j) : AskR X w vm := h.c (fun a j a0 a1 a2 a3 => hf _ j a2 (fun ⟨t, ⟨t0, t1⟩, t2, t3⟩ => by
  obtain ⟨B, I, W, hS, -⟩ := (hA t t0 t1 t2).sh
  exact hS.ask a3 t3))
/-- the asks alone, against another picture of the reference -/
theorem AskR.m {X : XX} {vc v V : VV} (h : AskR X vc v) (e : V 47 59 = v 47 59) (e2 : ∀ a, 0 ≤ a → a < 40 → V 83 a = v 83 a ∧ V 84 a = v 84 a ∧ V 85 a = v 85 a) : AskR X vc V := fun a a0 a1 => by
  obtain ⟨q1, q2, q3⟩ := e2 a a0 a1
  rw [e, q1, q2, q3]; exact h a a0 a1
theorem LkR.m {X : XX} {vc v V : VV} {cC : Int → Nat} (h : LkR X vc v cC) (hTO : TObj X) (hTC : TCol X cC) (h0 : V 47 0 = v 47 0) (h48 : ∀ t, V 48 t = v 48 t) (hs : SmT (v 47 0) v V) (h53 : ∀ t c, 0 ≤ t → t < v 47 0 → 0 ≤ c → c < 8 → V 53 (8 * t + c) = v 53 (8 * t + c)) : LkR X vc V cC := h.fr (S := fun _ _ => False) hTO hTC (fun _ _ _ => rfl) (fun _ _ _ => id) h0 h48 (fun t t0 t1 => by
  obtain ⟨⟨a1, a2, -⟩, a3, -⟩ := hs t t0 t1
  exact ⟨a1, a2, fun c c0 c1 => ⟨(a3 c c0 c1).1, h53 t c t0 t1 c0 c1⟩⟩)
theorem LkR.cw {X : XX} {vc w vm : VV} {cC : Int → Nat} (h : LkR X vc vm cC) (hc : ∀ t, 0 ≤ t → t < 16 → ¬ X.2 37 t = -1 → w (X.2 37 t) 0 = vc (X.2 37 t) 0 ∧ ∀ c : Int, 0 ≤ c → c < cC t → w (X.2 (X.2 37 t) 1) c = vc (X.2 (X.2 37 t) 1) c ∧ w 38 (8 * t + c) = vc 38 (8 * t + c)) : LkR X w vm cC := by
  obtain ⟨a1, a2⟩ := h
  refine ⟨a1, fun t t0 t1 => ⟨(a2 t t0 t1).1, fun hl => ?_⟩⟩
  obtain ⟨b1, b2, b3⟩ := (a2 t t0 t1).2 hl
  obtain ⟨c1, c2⟩ := hc t t0 t1 hl
  refine ⟨by rw [c1]; exact b1, b2, fun c c0 c1' => ?_⟩
  obtain ⟨d1, d2⟩ := c2 c c0 c1'
  rw [d1, d2]
  exact b3 c c0 c1'
