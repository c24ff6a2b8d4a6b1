/-! ===== names and lookups agree ===== -/
/-- one name, as either side keeps it -/
def WR (w w' : Int) : Prop := ∃ (f : Int → Int) (L : Nat), (∀ i : Int, 0 ≤ i → i < L → 97 ≤ f i ∧ f i ≤ 122) ∧ w = cdm 27 f L ∧ w' = cdm 32 f L
theorem WR.eq {a a' c c' : Int} (h : WR a a') (h2 : WR c c') : a = c ↔ a' = c' := by
  obtain ⟨f, L, l1, rfl, rfl⟩ := h
  obtain ⟨g, K, l2, rfl, rfl⟩ := h2
  constructor
  · intro e
    obtain ⟨e1, e2⟩ := cdm_inj (m := 27) (by decide) _ _ l1 l2 e
    subst e1
    exact cdm_congr _ e2
  · intro e
    obtain ⟨e1, e2⟩ := cdm_inj (m := 32) (by decide) _ _ l1 l2 e
    subst e1
    exact cdm_congr _ e2
theorem WR_tok {b : Int → Int} {n a : Int} (hT : TX b n) (hk : tK b n a = 256) (h8 : tL b n a ≤ 8) : WR (tW b n a) (nm32 b n a) ∧ 97 ≤ b (tS b n a) ∧ b (tS b n a) ≤ 122 := by
  have hp := tS_bd b hT.1.1 a
  have hk' : tKind b n (tS b n a) = 256 := hk
  have hn := k256_now hp.2 hp.1 hT (Or.inl hk')
  have hL : tL b n a = tEnd b n (tS b n a) - tS b n a := rfl
  obtain ⟨w1, w2, w3, w4⟩ := word_tc hp.2 hn (by omega)
  refine ⟨⟨fun i => b (tS b n a + i), (tL b n a).toNat, fun i i0 i1 => w3 _ (by omega) (by omega), w4, ?_⟩, w3 _ (Int.le_refl _) w1⟩
  unfold nm32; rw [if_pos h8]
/-- the tables of the class and of the reference -/
def LkR (X : XX) (vc vm : VV) (cC : Int → Nat) : Prop := (0 ≤ vm 47 0 ∧ vm 47 0 ≤ 16) ∧ ∀ t, 0 ≤ t → t < 16 → ((t < vm 47 0 ∧ ¬ vm 48 t = 0) ↔ ¬ X.2 37 t = -1) ∧ (¬ X.2 37 t = -1 → WR (vm 49 t) (vc (X.2 37 t) 0) ∧ vm 51 t = cC t ∧ ∀ c : Int, 0 ≤ c → c < cC t → WR (vm 52 (8 * t + c)) (vc (X.2 (X.2 37 t) 1) c) ∧ vc 38 (8 * t + c) = vm 53 (8 * t + c))
theorem tN_fst {v : VV} {w : Int} (h : 0 ≤ v 47 0) : First (thereNamed v w) (v 47 0) (tN v w) := by
  have := fst1_spec (thereNamed v w) (v 47 0).toNat
  rw [Int.toNat_of_nonneg h] at this
  exact this
theorem tC_tN {X : XX} {vc vm : VV} {cC : Int → Nat} {w w' : Int} (h : LkR X vc vm cC) (hw : WR w w') : tC X vc w' = tN vm w := by
  obtain ⟨⟨h0, h16⟩, h1⟩ := h
  have iff : ∀ t, 0 ≤ t → t < 16 → (isN X vc w' t ↔ (t < vm 47 0 ∧ thereNamed vm w t)) := fun t t0 t1 => by
    obtain ⟨a1, a2⟩ := h1 t t0 t1
    unfold isN thereNamed
    constructor
    · rintro ⟨q1, q2⟩
      obtain ⟨e1, e2⟩ := a1.mpr q1
      exact ⟨e1, e2, ((a2 q1).1.eq hw).mpr q2⟩
    · rintro ⟨q1, q2, q3⟩
      have q := a1.mp ⟨q1, q2⟩
      exact ⟨q, ((a2 q).1.eq hw).mp q3⟩
  refine First.of (n := 16) (by decide) ?_
  rcases tN_fst (w := w) h0 with ⟨q1, q2⟩ | ⟨q1, q2, q3, q4⟩
  · exact Or.inl ⟨q1, fun t t0 t1 z => by
      obtain ⟨z1, z2⟩ := (iff t t0 t1).mp z
      exact q2 t t0 z1 z2⟩
  · exact Or.inr ⟨q1, by omega, (iff _ q1 (by omega)).mpr ⟨q2, q3⟩, fun t t0 t1 z => q4 t t0 t1 ((iff t t0 (by omega)).mp z).2⟩
theorem colC_cOf {X : XX} {vc vm : VV} {cC : Int → Nat} {w w' t : Int} (h : LkR X vc vm cC) (hw : WR w w') (h0 : 0 ≤ t) (h16 : t < 16) (hl : ¬ X.2 37 t = -1) : colC X vc cC t w' = cOf vm t w := by
  obtain ⟨-, a2⟩ := h.2 t h0 h16
  obtain ⟨-, a3, a4⟩ := a2 hl
  unfold colC cOf
  rw [a3, show ((cC t : Nat) : Int).toNat = cC t by omega]
  exact fst1_cg _ (fun c c0 c1 => ((a4 c c0 c1).1.eq hw).symm)
/-- the tables behind, as either side has them -/
def BhR (b : Int → Int) (n T : Int) (B : Nat) (cb : Int → Int) (vm : VV) : Prop := vm 54 T = B ∧ ∀ k : Int, 0 ≤ k → k < B → vm 70 k = tW b n (cb k) ∧ vm 71 k = tS b n (cb k) ∧ vm 55 (3 * T + k) = tN vm (tW b n (cb k)) ∧ WR (tW b n (cb k)) (nm32 b n (cb k))
theorem nth_fst {b : Int → Int} {n : Int} {ct : Int → Int} {B : Nat} {w : Int} : First (fun i => nm32 b n (ct i) = w) B (nth b n ct B w) := fst1_spec _ _
theorem qOf_nth {X : XX} {vc vm : VV} {cC : Int → Nat} {b : Int → Int} {n T a : Int} {B : Nat} {cb : Int → Int} (h : LkR X vc vm cC) (hB : BhR b n T B cb vm) (hw : WR (tW b n a) (nm32 b n a)) : (nth b n cb B (nm32 b n a) = -1 → qOf vm T (tW b n a) = -1 ∧ ¬ told vm T (tW b n a)) ∧ (¬ nth b n cb B (nm32 b n a) = -1 → qOf vm T (tW b n a) = tC X vc (nm32 b n (cb (nth b n cb B (nm32 b n a)))) ∧ told vm T (tW b n a)) := by
  obtain ⟨b1, b2⟩ := hB
  have h0 := h.1.1
  have hnb : (vm 54 T).toNat = B := by rw [b1]; omega
  -- what bhn says
  have hb : ∀ k : Int, 0 ≤ k → k < B → (bhn vm T (tW b n a) k ↔ (nm32 b n (cb k) = nm32 b n a ∧ ¬ tN vm (tW b n a) = -1)) := fun k k0 k1 => by
    obtain ⟨c1, c2, c3, c4⟩ := b2 k k0 k1
    unfold bhn
    rw [c3]
    constructor
    · rintro ⟨q1, q2⟩
      rcases tN_fst (v := vm) (w := tW b n (cb k)) h0 with ⟨z, -⟩ | ⟨-, -, z, -⟩
      · exact absurd z q1
      · have e : tW b n (cb k) = tW b n a := by rw [← z.2]; exact q2
        rw [e] at q1
        exact ⟨(c4.eq hw).mp e, q1⟩
    · rintro ⟨q1, q2⟩
      have e : tW b n (cb k) = tW b n a := (c4.eq hw).mpr q1
      rw [e]
      rcases tN_fst (v := vm) (w := tW b n a) h0 with ⟨z, -⟩ | ⟨-, -, z, -⟩
      · exact absurd z q2
      · exact ⟨q2, z.2⟩
  have hq : qOf vm T (tW b n a) = if fst1 (bhn vm T (tW b n a)) B = -1 then -1 else vm 55 (3 * T + fst1 (bhn vm T (tW b n a)) B) := by unfold qOf; rw [hnb]
  have eB : ((B : Nat) : Int).toNat = B := by omega
  constructor
  · intro hm
    rcases nth_fst (b := b) (n := n) (ct := cb) (B := B) (w := nm32 b n a) with ⟨-, z⟩ | ⟨z, -⟩
    · have e : fst1 (bhn vm T (tW b n a)) B = -1 := by
        rw [← eB]; exact First.of (by omega) (Or.inl ⟨rfl, fun k k0 k1 q => z k k0 k1 ((hb k k0 k1).mp q).1⟩)
      refine ⟨by rw [hq, if_pos e], fun ⟨i, i0, i1, i2⟩ => ?_⟩
      rw [b1] at i1
      obtain ⟨c1, -, -, c4⟩ := b2 i i0 i1
      rw [c1] at i2
      exact z i i0 i1 ((c4.eq hw).mp i2)
    · rw [hm] at z; omega
  · intro hm
    rcases nth_fst (b := b) (n := n) (ct := cb) (B := B) (w := nm32 b n a) with ⟨z, -⟩ | ⟨z0, z1, z2, z3⟩
    · exact absurd z hm
    obtain ⟨c1, c2, c3, c4⟩ := b2 _ z0 z1
    have e : tW b n (cb (nth b n cb B (nm32 b n a))) = tW b n a := (c4.eq hw).mpr z2
    have et : tC X vc (nm32 b n (cb (nth b n cb B (nm32 b n a)))) = tN vm (tW b n a) := by rw [← e]; exact tC_tN h c4
    refine ⟨?_, _, z0, by rw [b1]; exact z1, by rw [c1]; exact e⟩
    rw [et, hq]
    by_cases ht : tN vm (tW b n a) = -1
    · have e1 : fst1 (bhn vm T (tW b n a)) B = -1 := by
        rw [← eB]; exact First.of (by omega) (Or.inl ⟨rfl, fun k k0 k1 q => ((hb k k0 k1).mp q).2 ht⟩)
      rw [if_pos e1, ht]
    · have e1 : fst1 (bhn vm T (tW b n a)) B = nth b n cb B (nm32 b n a) := by
        rw [← eB]; exact First.of (by omega) (Or.inr ⟨by rw [eB]; exact z0, by rw [eB]; exact z1, (hb _ (by rw [eB]; exact z0) (by rw [eB]; exact z1)).mpr ⟨by rw [eB]; exact z2, ht⟩, fun k k0 k1 q => z3 k k0 (by rw [eB] at k1; exact k1) ((hb k k0 (by rw [eB] at k1; omega)).mp q).1⟩)
      rw [e1, if_neg hm, c3, e]
/-- a name dot name -/
def RefOK (b : Int → Int) (n a : Int) : Prop := WR (tW b n a) (nm32 b n a) ∧ WR (tW b n (a + 2)) (nm32 b n (a + 2))
theorem NRf_miss {X : XX} {vc vm : VV} {cC : Int → Nat} {b : Int → Int} {n T a : Int} {B : Nat} {cb : Int → Int} (h : LkR X vc vm cC) (hB : BhR b n T B cb vm) (hr : RefOK b n a) (k p : Int) : NRf X vc cC b n cb B a k p ↔ (k = 2 ∧ miss b n vm T a p) := by
  obtain ⟨q1, q2⟩ := qOf_nth h hB hr.1
  unfold NRf miss
  refine and_congr Iff.rfl ?_
  by_cases hm : nth b n cb B (nm32 b n a) = -1
  · obtain ⟨e1, e2⟩ := q1 hm
    constructor
    · rintro (⟨-, z⟩ | ⟨z, -⟩)
      · exact Or.inl ⟨e1, e2, z⟩
      · exact absurd hm z
    · rintro (⟨-, -, z⟩ | ⟨z, -⟩)
      · exact Or.inl ⟨hm, z⟩
      · exact absurd e1 z
  · obtain ⟨e1, e2⟩ := q2 hm
    rw [e1]
    have hbd := tC_bd X vc (nm32 b n (cb (nth b n cb B (nm32 b n a))))
    constructor
    · rintro (⟨z, -⟩ | ⟨-, ⟨z1, z2⟩, z3, z4⟩)
      · exact absurd z hm
      · refine Or.inr ⟨by omega, ?_, z4⟩
        rw [← colC_cOf h hr.2 z1 (by omega) z2]; exact z3
    · rintro (⟨-, z, -⟩ | ⟨z1, z2, z3⟩)
      · exact absurd e2 z
      · rcases hbd with y | ⟨y1, y2, y3⟩
        · exact absurd y z1
        · refine Or.inr ⟨hm, ⟨y1, y3⟩, ?_, z3⟩
          rw [colC_cOf h hr.2 y1 y2 y3]; exact z2
theorem tyU_RT {X : XX} {vc vm : VV} {cC : Int → Nat} {b : Int → Int} {n T a : Int} {B : Nat} {cb : Int → Int} (h : LkR X vc vm cC) (hTC : TCol X cC) (hB : BhR b n T B cb vm) (h52 : ¬ vm 47 52 = 0) (hr : RefOK b n a) : tyU (vc 38) (refC X vc cC b n cb B) a = RT b n vm T a := by
  obtain ⟨q1, q2⟩ := qOf_nth h hB hr.1
  unfold RT refTy
  rw [if_neg h52]
  have z0_ : refC X vc cC b n cb B a = 0 → tyU (vc 38) (refC X vc cC b n cb B) a = 0 := fun e => by
    unfold tyU; rw [e, if_neg (by omega)]
  by_cases hm : nth b n cb B (nm32 b n a) = -1
  · rw [z0_ (by unfold refC; rw [if_pos hm]), if_pos (q1 hm).1]
  · rw [(q2 hm).1]
    rcases tC_bd X vc (nm32 b n (cb (nth b n cb B (nm32 b n a)))) with y | ⟨y1, y2, y3⟩
    · rw [z0_ (by unfold refC itC; rw [if_neg hm, if_neg (fun z => by omega)]), if_pos y]
    · have hI : refC X vc cC b n cb B a = if colC X vc cC (tC X vc (nm32 b n (cb (nth b n cb B (nm32 b n a))))) (nm32 b n (a + 2)) = -1 then 0 else 1000 + tC X vc (nm32 b n (cb (nth b n cb B (nm32 b n a)))) * 8 + colC X vc cC (tC X vc (nm32 b n (cb (nth b n cb B (nm32 b n a))))) (nm32 b n (a + 2)) := by
        unfold refC itC; rw [if_neg hm, if_pos ⟨y1, y2, y3⟩]
      rw [colC_cOf h hr.2 y1 y2 y3] at hI
      rw [if_neg (show ¬ tC X vc (nm32 b n (cb (nth b n cb B (nm32 b n a)))) = -1 by omega)]
      obtain ⟨-, a2⟩ := h.2 _ y1 y2
      obtain ⟨-, a3, a4⟩ := a2 y3
      have hcb := fst1_spec (fun c => vm 52 (8 * tC X vc (nm32 b n (cb (nth b n cb B (nm32 b n a)))) + c) = tW b n (a + 2)) (cC (tC X vc (nm32 b n (cb (nth b n cb B (nm32 b n a))))))
      have ec : cOf vm (tC X vc (nm32 b n (cb (nth b n cb B (nm32 b n a))))) (tW b n (a + 2)) = fst1 (fun c => vm 52 (8 * tC X vc (nm32 b n (cb (nth b n cb B (nm32 b n a)))) + c) = tW b n (a + 2)) (cC (tC X vc (nm32 b n (cb (nth b n cb B (nm32 b n a)))))) := by
        unfold cOf; rw [a3, show ((cC (tC X vc (nm32 b n (cb (nth b n cb B (nm32 b n a))))) : Nat) : Int).toNat = cC (tC X vc (nm32 b n (cb (nth b n cb B (nm32 b n a))))) by omega]
      rw [← ec] at hcb
      have h6 : cC (tC X vc (nm32 b n (cb (nth b n cb B (nm32 b n a))))) ≤ 6 := by
        rcases hTC _ y1 y2 with z | z
        · exact absurd z y3
        · exact z.2.2
      generalize cOf vm (tC X vc (nm32 b n (cb (nth b n cb B (nm32 b n a))))) (tW b n (a + 2)) = c at *
      generalize tC X vc (nm32 b n (cb (nth b n cb B (nm32 b n a)))) = t at *
      rcases hcb with ⟨z, -⟩ | ⟨z0, z1, -⟩
      · rw [if_pos z] at hI
        rw [z0_ hI, if_pos z]
      · rw [if_neg (show ¬ c = -1 by omega)] at hI
        rw [if_neg (show ¬ c = -1 by omega)]
        unfold tyU
        rw [hI, if_pos (by omega), ← (a4 c z0 z1).2]
        congr 1; omega
