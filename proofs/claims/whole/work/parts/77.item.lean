/-! ===== the class: the tables behind, a column's item ===== -/
theorem isN_fr {X : XX} {S : Int → Int → Prop} {v v1 : VV} (hT : TObj X) (hf : Fr S v v1) (hs : ∀ r, 87 ≤ r → ¬ S r 0) (w t : Int) (ht : 0 ≤ t ∧ t < 16) : isN X v1 w t ↔ isN X v w t := by
  unfold isN
  rcases hT t ht.1 ht.2 with z | ⟨-, z⟩
  · exact ⟨fun q => absurd z q.1, fun q => absurd z q.1⟩
  · rw [hf _ 0 (hs _ z.1)]
theorem fst1_cg {p p' : Int → Prop} : ∀ n : Nat, (∀ i : Int, 0 ≤ i → i < n → (p' i ↔ p i)) → fst1 p' n = fst1 p n
  | 0, _ => rfl
  | n + 1, h => by
    have ih := fst1_cg (p := p) (p' := p') n (fun i i0 i1 => h i i0 (by omega))
    have e : p' (n : Int) = p n := propext (h n (by omega) (by omega))
    unfold fst1
    rw [ih]
    split
    · by_cases hp : p (n : Int)
      · rw [if_pos hp, if_pos (by rw [e]; exact hp)]
      · rw [if_neg hp, if_neg (by rw [e]; exact hp)]
    · rfl
theorem tC_fr {X : XX} {S : Int → Int → Prop} {v v1 : VV} (hT : TObj X) (hf : Fr S v v1) (hs : ∀ r, 87 ≤ r → ¬ S r 0) (w : Int) : tC X v1 w = tC X v w :=
  fst1_cg 16 (fun i i0 i1 => isN_fr hT hf hs w i ⟨i0, by omega⟩)
/-- the tables behind that aren't there -/
def NM2 (X : XX) (v : VV) (b : Int → Int) (n : Int) (ct : Int → Int) (m k p : Int) : Prop := k = 2 ∧ ∃ i, 0 ≤ i ∧ i < m ∧ tC X v (nm32 b n (ct i)) = -1 ∧ p = tS b n (ct i)
def SLb (r j : Int) : Prop := S32 r j ∨ (r = 23 ∧ j = 1) ∨ r = 24
theorem SLb_TO {r j : Int} (h : TOs r j) : ¬ SLb r j := by unfold TOs at h; unfold SLb S32; omega
theorem SLb_87 (r : Int) (h : 87 ≤ r) : ¬ SLb r 0 := by unfold SLb S32; omega
set_option maxRecDepth 100000 in
set_option maxHeartbeats 4000000 in
theorem k_lookBehind {X : XX} {v : VV} {b : Int → Int} {n N B : Int} {ct : Int → Int} {N0 : Int → Int → Prop} (hW : SW X) (hTO : TObj X) (hT : TOK b n N v) (hB : v 21 1 = B) (hB3 : 0 ≤ B ∧ B ≤ 3) (hct : ∀ i, 0 ≤ i → i < B → v 22 i = ct i) (hN : NmR b n N ct B) (h23 : v 23 1 = 0) (hF : FC N0 v) : CX mX1_lookBehind 1 [(2, 32), (2, 4), (2, 37)] X v (fun _ v1 => FC (fun k p => N0 k p ∨ NM2 X v b n ct B k p) v1 ∧ v1 23 1 = B ∧ (∀ i, 0 ≤ i → i < B → v1 24 i = tC X v (nm32 b n (ct i))) ∧ Fr SLb v v1) := by
  have key : ∀ (x : Int) (V : VV), (0 ≤ x ∧ x ≤ B) → FC (fun k p => N0 k p ∨ NM2 X v b n ct x k p) V → V 23 1 = x → (∀ i, 0 ≤ i → i < x → V 24 i = tC X v (nm32 b n (ct i))) → Fr SLb v V → Ex mX1_lookBehind 1 2 [(2, 32), (2, 4), (2, 37), (0, x), (3, 0), (3, 0)] [] X V 0 0 (fun _ X1 v1 => X1 = X ∧ FC (fun k p => N0 k p ∨ NM2 X v b n ct B k p) v1 ∧ v1 23 1 = B ∧ (∀ i, 0 ≤ i → i < B → v1 24 i = tC X v (nm32 b n (ct i))) ∧ Fr SLb v v1) := by
    refine loop2 (fun (x : Int) (_ : VV) => (B - x).toNat) (fun (x : Int) (V : VV) => (0 ≤ x ∧ x ≤ B) → FC (fun k p => N0 k p ∨ NM2 X v b n ct x k p) V → V 23 1 = x → (∀ i, 0 ≤ i → i < x → V 24 i = tC X v (nm32 b n (ct i))) → Fr SLb v V → Ex mX1_lookBehind 1 2 [(2, 32), (2, 4), (2, 37), (0, x), (3, 0), (3, 0)] [] X V 0 0 (fun _ X1 v1 => X1 = X ∧ FC (fun k p => N0 k p ∨ NM2 X v b n ct B k p) v1 ∧ v1 23 1 = B ∧ (∀ i, 0 ≤ i → i < B → v1 24 i = tC X v (nm32 b n (ct i))) ∧ Fr SLb v v1)) (fun x V ih => ?_)
    intro hx hFV e23 e24 hf
    have hTV := hT.fr hf (fun r j q => SLb_TO q)
    have e21 : V 21 1 = B := (hf 21 1 (by unfold SLb S32; omega)).trans hB
    refine bX1_lookBehind_2 x (Nat.le_refl _) hW (fun _ => ⟨_, k_size hW (rowS21 hW), fun r2 w3 hP => ?_⟩)
    obtain ⟨rfl, hr⟩ := hP
    obtain rfl : B = r2 := by rw [e21] at hr; exact (by simpa using hr : r2 = B).symm
    refine ⟨fun g => ?_, fun g => ⟨_, k_get hW (rowS21 hW) (by omega) x, fun r6 w7 hP => ?_⟩⟩
    · have ex : x = B := by omega
      subst ex
      exact ⟨rfl, hFV, e23, e24, hf⟩
    · obtain ⟨rfl, hr6⟩ := hP
      obtain rfl : r6 = ct x := by
        rw [rGet_in ⟨hx.1, by omega⟩, hf 22 x (by unfold SLb S32; omega), hct x hx.1 g] at hr6
        simpa using hr6
      obtain ⟨a1, a2⟩ := hN x hx.1 g
      refine ⟨_, k_name hW hTV a1.1 a1.2 a2, fun r10 w11 hP => ?_⟩
      obtain ⟨rfl, hr10⟩ := hP
      obtain rfl : r10 = nm32 b n (ct x) := by simpa using hr10
      refine ⟨_, k_index hW hTO _, fun r14 w15 hP => ?_⟩
      obtain ⟨rfl, hr14⟩ := hP
      obtain rfl : r14 = tC X v (nm32 b n (ct x)) := by
        rw [tC_fr hTO hf SLb_87] at hr14; simpa using hr14
      refine ⟨_, k_add hW (rowS23 hW) (by decide) ⟨by omega, by omega⟩ _, fun w19 hP => ?_⟩
      have e19 : w19 = rAdd w15 23 24 (tC X v (nm32 b n (ct x))) := hP
      have f19 : Fr (fun r j => (r = 23 ∧ j = 1) ∨ r = 24) w15 w19 := by
        rw [e19]; unfold rAdd
        exact (Fr.rf.up (Or.inr rfl)).up (Or.inl ⟨rfl, rfl⟩)
      have g1 : w19 23 1 = x + 1 := by rw [e19, rAdd_1, e23]
      have g2 : ∀ i, 0 ≤ i → i < x + 1 → w19 24 i = tC X v (nm32 b n (ct i)) := fun i i0 i1 => by
        rw [e19, rAdd_c (by decide), e23]
        by_cases hi : i = x
        · rw [if_pos hi, hi]
        · rw [if_neg hi]; exact e24 i i0 (by omega)
      have hf19 : Fr SLb v w19 := hf.via f19 (fun _ _ q => q) (fun r j q => Or.inr q)
      have hFV19 := hFV.fr f19 (by omega) (by omega)
      refine ⟨fun g3 => ⟨⟨by omega, by omega⟩, ih (x + 1) w19 (by omega) ⟨by omega, by omega⟩ (hFV19.cg (fun k p => ?_)) g1 g2 hf19⟩, fun g3 => ?_⟩
      · refine or_congr Iff.rfl ?_
        unfold NM2
        refine and_congr Iff.rfl ⟨fun ⟨i, q0, q1, q2⟩ => ⟨i, q0, by omega, q2⟩, fun ⟨i, q0, q1, q2, q3⟩ => ⟨i, q0, ?_, q2, q3⟩⟩
        by_cases hi : i = x
        · rw [hi] at q2; exact absurd q2 g3
        · omega
      · refine ⟨_, k_start hW (hT.fr hf19 (fun r j q => SLb_TO q)) a1.1 (by omega), fun r22 w23 hP => ?_⟩
        obtain ⟨rfl, hr22⟩ := hP
        obtain rfl : r22 = tS b n (ct x) := by simpa using hr22
        refine ⟨_, k_note hW hFV19 (k := 2) (by decide) (tS_bd b hT.1.1.1 _).1, fun w27 hP => ?_⟩
        obtain ⟨n1, n2⟩ := hP
        refine ⟨⟨by omega, by omega⟩, ih (x + 1) w27 (by omega) ⟨by omega, by omega⟩ (n1.cg (fun k p => ?_)) ((n2 23 1 (by unfold S32; omega)).trans g1) (fun i i0 i1 => (n2 24 i (by unfold S32; omega)).trans (g2 i i0 i1)) (hf19.via n2 (fun _ _ q => q) (fun _ _ q => Or.inl q))⟩
        rw [or_assoc]
        refine or_congr Iff.rfl ?_
        unfold NM2
        constructor
        · rintro (⟨q, i, q0, q1, q2⟩ | ⟨q, q'⟩)
          · exact ⟨q, i, q0, by omega, q2⟩
          · exact ⟨q, x, hx.1, by omega, g3, q'⟩
        · rintro ⟨q, i, q0, q1, q2, q3⟩
          by_cases hi : i = x
          · right; rw [hi] at q3; exact ⟨q, q3⟩
          · left; exact ⟨q, i, q0, by omega, q2, q3⟩
  exact CX.of (by decide +kernel) rfl rfl rfl (bX1_lookBehind_0 (Nat.le_refl _) hW (key 0 v ⟨Int.le_refl _, hB3.1⟩ (hF.cg (fun k p => ⟨Or.inl, fun q => q.elim id (fun ⟨_, i, q0, q1, _⟩ => by omega)⟩)) h23 (fun i i0 i1 => by omega) Fr.rf))
/-- the first of the tables behind that is called so, by its token -/
noncomputable def nth (b : Int → Int) (n : Int) (ct : Int → Int) (B : Nat) (w : Int) : Int := fst1 (fun i => nm32 b n (ct i) = w) B
/-- the table objects' columns -/
def TCol (X : XX) (cC : Int → Nat) : Prop := ∀ t, 0 ≤ t → t < 16 → X.2 37 t = -1 ∨ ((X.1.2 (X.2 (X.2 37 t) 1) = (101, cC t) ∧ (87 ≤ X.2 (X.2 37 t) 1 ∧ X.2 (X.2 37 t) 1 < X.1.1)) ∧ 1 ≤ cC t ∧ cC t ≤ 6)
noncomputable def colC (X : XX) (v : VV) (cC : Int → Nat) (t w : Int) : Int := fst1 (fun c => v (X.2 (X.2 37 t) 1) c = w) (cC t)
/-- the item that a name becomes -/
noncomputable def itC (X : XX) (v : VV) (cC : Int → Nat) (t w : Int) : Int := if 0 ≤ t ∧ t < 16 ∧ ¬ X.2 37 t = -1 then (if colC X v cC t w = -1 then 0 else 1000 + t * 8 + colC X v cC t w) else 0
noncomputable def refC (X : XX) (v : VV) (cC : Int → Nat) (b : Int → Int) (n : Int) (ct : Int → Int) (B : Nat) (a : Int) : Int := if nth b n ct B (nm32 b n a) = -1 then 0 else itC X v cC (tC X v (nm32 b n (ct (nth b n ct B (nm32 b n a))))) (nm32 b n (a + 2))
/-- what is noted for it -/
def NRf (X : XX) (v : VV) (cC : Int → Nat) (b : Int → Int) (n : Int) (ct : Int → Int) (B : Nat) (a k p : Int) : Prop := k = 2 ∧ ((nth b n ct B (nm32 b n a) = -1 ∧ p = tS b n a) ∨ (¬ nth b n ct B (nm32 b n a) = -1 ∧ (0 ≤ tC X v (nm32 b n (ct (nth b n ct B (nm32 b n a)))) ∧ ¬ X.2 37 (tC X v (nm32 b n (ct (nth b n ct B (nm32 b n a))))) = -1) ∧ colC X v cC (tC X v (nm32 b n (ct (nth b n ct B (nm32 b n a))))) (nm32 b n (a + 2)) = -1 ∧ p = tS b n (a + 2)))
theorem tC_bd (X : XX) (v : VV) (w : Int) : tC X v w = -1 ∨ (0 ≤ tC X v w ∧ tC X v w < 16 ∧ ¬ X.2 37 (tC X v w) = -1) := by
  rcases fst1_spec (isN X v w) 16 with ⟨h, -⟩ | ⟨h0, h1, h2, -⟩
  · exact Or.inl h
  · exact Or.inr ⟨h0, h1, h2.1⟩
set_option maxRecDepth 100000 in
set_option maxHeartbeats 4000000 in
theorem k_columnItem {X : XX} {v : VV} {b : Int → Int} {n N a : Int} {B : Nat} {ct : Int → Int} {cC : Int → Nat} {N0 : Int → Int → Prop} (hW : SW X) (hTO : TObj X) (hTC : TCol X cC) (hT : TOK b n N v) (hB : v 21 1 = B) (hB3 : B ≤ 3) (hct : ∀ i : Int, 0 ≤ i → i < B → v 22 i = ct i) (hN : NmR b n N ct B) (h23 : v 23 1 = B) (h24 : ∀ i : Int, 0 ≤ i → i < B → v 24 i = tC X v (nm32 b n (ct i))) (ha : NmR b n N (fun i => a + 2 * i) 2) (hF : FC N0 v) : CX mX1_columnItem 1 [(2, 32), (0, a), (2, 4), (2, 37)] X v (fun o v1 => o = some (0, refC X v cC b n ct B a) ∧ FC (fun k p => N0 k p ∨ NRf X v cC b n ct B a k p) v1 ∧ Fr S32 v v1) := by
  obtain ⟨p1, p2⟩ := ha 0 (by decide) (by decide)
  obtain ⟨p3, p4⟩ := ha 1 (by decide) (by decide)
  simp only [Int.mul_zero, Int.add_zero, Int.mul_one] at p1 p2 p3 p4
  have hN4 := hT.2.1
  have eB : B = ((B : Nat) : Int).toNat := by omega
  -- behind the search
  have fin : ∀ r : Int, First (fun i => nm32 b n (ct i) = nm32 b n a) B r → ∀ (x6 : Int), x6 < 0 → Ex mX1_columnItem 1 20 [(2, 32), (0, a), (2, 4), (2, 37), (2, 5), (0, r), (0, x6), (3, 0), (3, 0)] [] X v 0 0 (fun o X1 v1 => X1 = X ∧ o = some (0, refC X v cC b n ct B a) ∧ FC (fun k p => N0 k p ∨ NRf X v cC b n ct B a k p) v1 ∧ Fr S32 v v1) := fun r hr x6 h6 => by
    have er : nth b n ct B (nm32 b n a) = r := by unfold nth; rw [eB]; exact First.of (by omega) hr
    refine bX1_columnItem_20 a 5 r x6 (Nat.le_refl _) hW (fun _ _ _ => ⟨fun _ => ⟨fun g => ?_, fun g => ⟨sW5 hW, gW5 hW, ?_⟩⟩, fun g => by omega⟩)
    · -- one is called so
      rcases hr with ⟨z, -⟩ | ⟨r0, r1, r2, -⟩
      · exact absurd z g
      refine ⟨_, k_get hW (rowS23 hW) (by omega) r, fun r6 w7 hP => ?_⟩
      obtain ⟨rfl, hr6⟩ := hP
      rw [rGet_in ⟨r0, by omega⟩, h24 r r0 r1] at hr6
      obtain rfl : r6 = tC X w7 (nm32 b n (ct r)) := by simpa using hr6
      have hbd := tC_bd X w7 (nm32 b n (ct r))
      have none_ : tC X w7 (nm32 b n (ct r)) = -1 → refC X w7 cC b n ct B a = 0 ∧ FC (fun k p => N0 k p ∨ NRf X w7 cC b n ct B a k p) w7 := fun e => by
        refine ⟨?_, hF.cg (fun k p => ⟨Or.inl, fun q => q.elim id (fun z => ?_)⟩)⟩
        · unfold refC itC; rw [er, if_neg g, e, if_neg (by omega)]
        · obtain ⟨-, z | z⟩ := z
          · rw [er] at z; exact absurd z.1 g
          · rw [er, e] at z; omega
      refine ⟨fun g2 => ?_, fun g2 => ⟨fun g3 => ?_, fun g3 => ⟨⟨g2, g3⟩, fun g4 => ?_, fun g4 => ?_⟩⟩⟩
      · obtain ⟨h1, h2⟩ := none_ (by omega)
        refine bX1_columnItem_111 a 5 r _ (Nat.le_refl _) hW (fun _ _ _ => ⟨rfl, by rw [h1], h2, Fr.rf⟩)
      · omega
      · have hcc := hTC _ g2 g3
        have hto := hTO _ g2 g3
        rcases hcc with z | ⟨⟨c1, c2⟩, c3, c4⟩
        · exact absurd z g4
        rcases hto with z | ⟨t1, t2⟩
        · exact absurd z g4
        refine ⟨⟨by omega, by omega⟩, sW5 hW, gW5 hW, _, k_name hW hT p3.1 p3.2 p4, fun r11 w12 hP => ?_⟩
        obtain ⟨rfl, hr11⟩ := hP
        obtain rfl : r11 = nm32 b n (a + 2) := by simpa using hr11
        refine ⟨t1, ⟨by omega, t2.2⟩, _, k_column hW ⟨t1, by omega, t2.2⟩ ⟨rfl, c1, by omega, c2.2⟩ c4 _, fun r16 w17 hP => ?_⟩
        obtain ⟨rfl, hr16⟩ := hP
        obtain rfl : r16 = colC X w17 cC (tC X w17 (nm32 b n (ct r))) (nm32 b n (a + 2)) := by
          unfold colC; simpa using hr16
        have hcb : colC X w17 cC (tC X w17 (nm32 b n (ct r))) (nm32 b n (a + 2)) = -1 ∨ (0 ≤ colC X w17 cC (tC X w17 (nm32 b n (ct r))) (nm32 b n (a + 2)) ∧ colC X w17 cC (tC X w17 (nm32 b n (ct r))) (nm32 b n (a + 2)) < 6) := by
          rcases fst1_spec (fun c => w17 (X.2 (X.2 37 (tC X w17 (nm32 b n (ct r)))) 1) c = nm32 b n (a + 2)) (cC (tC X w17 (nm32 b n (ct r)))) with ⟨q, -⟩ | ⟨q0, q1, -⟩
          · exact Or.inl q
          · right
            unfold colC
            exact ⟨q0, by omega⟩
        refine ⟨fun g5 => ⟨fun _ => ⟨by omega, by omega⟩, fun _ => ⟨by omega, by omega⟩, fun _ _ => ⟨by omega, by omega⟩, rfl, ?_, hF.cg (fun k p => ⟨Or.inl, fun q => q.elim id (fun z => ?_)⟩), Fr.rf⟩, fun g5 => ⟨⟨by omega, by omega⟩, ?_⟩⟩
        · unfold refC itC
          rw [er, if_neg g, if_pos ⟨g2, g3, g4⟩, if_neg g5]
        · obtain ⟨-, z | z⟩ := z
          · rw [er] at z; exact absurd z.1 g
          · rw [er] at z; exact absurd z.2.2.1 g5
        · rw [rW5_1 hW]
          refine ⟨sW8 hW, gW8 hW, _, k_start hW hT p3.1 (by omega), fun r21 w22 hP => ?_⟩
          obtain ⟨rfl, hr21⟩ := hP
          obtain rfl : r21 = tS b n (a + 2) := by simpa using hr21
          refine ⟨_, k_note hW hF (k := 2) (by decide) (tS_bd b hT.1.1.1 _).1, fun w26 hP => ?_⟩
          obtain ⟨n1, n2⟩ := hP
          refine ⟨rfl, ?_, n1.cg (fun k p => or_congr Iff.rfl ⟨fun z => ⟨z.1, Or.inr ?_⟩, fun z => ⟨z.1, ?_⟩⟩), n2⟩
          · unfold refC itC
            rw [er, if_neg g, if_pos ⟨g2, g3, g4⟩, if_pos g5]
          · rw [er]; exact ⟨g, ⟨g2, g4⟩, g5, z.2⟩
          · obtain ⟨-, z | z⟩ := z
            · rw [er] at z; exact absurd z.1 g
            · exact z.2.2.2
      · rcases hbd with z | z
        · omega
        · exact absurd g4 z.2.2
    · -- none is
      rw [rW5_1 hW]
      refine ⟨sW8 hW, gW8 hW, _, k_start hW hT p1.1 (by omega), fun r31 w32 hP => ?_⟩
      obtain ⟨rfl, hr31⟩ := hP
      obtain rfl : r31 = tS b n a := by simpa using hr31
      refine ⟨_, k_note hW hF (k := 2) (by decide) (tS_bd b hT.1.1.1 _).1, fun w36 hP => ?_⟩
      obtain ⟨n1, n2⟩ := hP
      refine ⟨rfl, ?_, n1.cg (fun k p => or_congr Iff.rfl ⟨fun z => ⟨z.1, Or.inl ⟨by rw [er]; exact g, z.2⟩⟩, fun z => ⟨z.1, ?_⟩⟩), n2⟩
      · unfold refC; rw [er, if_pos g]
      · obtain ⟨-, z | z⟩ := z
        · exact z.2
        · rw [er] at z; exact absurd g z.1
  have key : ∀ (x : Int) (r : Int), (-1 ≤ x ∧ x < B) → ((r = -1 ∧ ∀ i, x < i → i < B → ¬ nm32 b n (ct i) = nm32 b n a) ∨ ((x < r ∧ r < B) ∧ nm32 b n (ct r) = nm32 b n a ∧ ∀ i, x < i → i < r → ¬ nm32 b n (ct i) = nm32 b n a)) → Ex mX1_columnItem 1 20 [(2, 32), (0, a), (2, 4), (2, 37), (2, 5), (0, r), (0, x), (3, 0), (3, 0)] [] X v 0 0 (fun o X1 v1 => X1 = X ∧ o = some (0, refC X v cC b n ct B a) ∧ FC (fun k p => N0 k p ∨ NRf X v cC b n ct B a k p) v1 ∧ Fr S32 v v1) := by
    refine loop2 (fun (x : Int) (_ : Int) => (x + 1).toNat) (fun (x r : Int) => (-1 ≤ x ∧ x < B) → ((r = -1 ∧ ∀ i, x < i → i < B → ¬ nm32 b n (ct i) = nm32 b n a) ∨ ((x < r ∧ r < B) ∧ nm32 b n (ct r) = nm32 b n a ∧ ∀ i, x < i → i < r → ¬ nm32 b n (ct i) = nm32 b n a)) → Ex mX1_columnItem 1 20 [(2, 32), (0, a), (2, 4), (2, 37), (2, 5), (0, r), (0, x), (3, 0), (3, 0)] [] X v 0 0 (fun o X1 v1 => X1 = X ∧ o = some (0, refC X v cC b n ct B a) ∧ FC (fun k p => N0 k p ∨ NRf X v cC b n ct B a k p) v1 ∧ Fr S32 v v1)) (fun x r ih => ?_)
    intro hx hr
    by_cases h : x < 0
    · refine fin r ?_ x h
      rcases hr with ⟨q1, q2⟩ | ⟨q1, q2, q3⟩
      · exact Or.inl ⟨q1, fun i i0 i1 => q2 i (by omega) i1⟩
      · exact Or.inr ⟨by omega, q1.2, q2, fun i i0 i1 => q3 i (by omega) i1⟩
    · refine bX1_columnItem_20 a 5 r x (Nat.le_refl _) hW (fun _ _ _ => ⟨fun g => absurd g h, fun g => ⟨_, k_get hW (rowS21 hW) (by omega) x, fun r39 w40 hP => ?_⟩⟩)
      obtain ⟨rfl, hr39⟩ := hP
      rw [rGet_in ⟨g, by omega⟩, hct x g hx.2] at hr39
      obtain rfl : r39 = ct x := by simpa using hr39
      obtain ⟨a1, a2⟩ := hN x g hx.2
      refine ⟨sW5 hW, gW5 hW, _, k_name hW hT a1.1 a1.2 a2, fun r44 w45 hP => ?_⟩
      obtain ⟨rfl, hr44⟩ := hP
      obtain rfl : r44 = nm32 b n (ct x) := by simpa using hr44
      refine ⟨_, k_name hW hT p1.1 p1.2 p2, fun r48 w49 hP => ?_⟩
      obtain ⟨rfl, hr48⟩ := hP
      obtain rfl : r48 = nm32 b n a := by simpa using hr48
      refine ⟨fun g2 => ⟨⟨by omega, by omega⟩, ih (x + -1) r (by omega) ⟨by omega, by omega⟩ ?_⟩, fun g2 => ⟨⟨by omega, by omega⟩, ih (x + -1) x (by omega) ⟨by omega, by omega⟩ (Or.inr ⟨⟨by omega, hx.2⟩, g2, fun i i0 i1 => by omega⟩)⟩⟩
      rcases hr with ⟨q1, q2⟩ | ⟨q1, q2, q3⟩
      · refine Or.inl ⟨q1, fun i i0 i1 => ?_⟩
        by_cases hi : i = x
        · subst hi; exact g2
        · exact q2 i (by omega) i1
      · refine Or.inr ⟨⟨by omega, q1.2⟩, q2, fun i i0 i1 => ?_⟩
        by_cases hi : i = x
        · subst hi; exact g2
        · exact q3 i (by omega) i1
  refine CX.of (by decide +kernel) rfl rfl rfl (bX1_columnItem_0 a (Nat.le_refl _) hW (fun _ => ⟨_, k_size hW (rowS21 hW), fun r2 w3 hP => ?_⟩))
  obtain ⟨rfl, hr⟩ := hP
  obtain rfl : r2 = (B : Int) := by rw [hB] at hr; simpa using hr
  exact ⟨fun _ => ⟨by omega, by omega⟩, key _ _ ⟨by omega, by omega⟩ (Or.inl ⟨rfl, fun i i0 i1 => by omega⟩)⟩
