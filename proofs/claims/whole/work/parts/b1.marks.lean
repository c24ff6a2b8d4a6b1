/-! ===== the items of a table's program and what its formulas use ===== -/
theorem mapUse {rf : Int → Prop} {L : List (Int × Int)} {U : Int → Int} (hE : EmS rf L) (h0 : ∀ k, rf k → 0 ≤ k) (hU : ∀ k, rf k → 1000 ≤ U k ∧ U k < 1128) : (∀ q ∈ L.map (rs U), 0 ≤ q.1 ∧ q.1 < 1128) ∧ ∀ j, (∃ q ∈ L.map (rs U), q.1 = 1000 + j ∧ 0 ≤ j) ↔ ∃ k, rf k ∧ U k = 1000 + j := by
  obtain ⟨e1, e2⟩ := hE
  constructor
  · intro q hq
    obtain ⟨p, hp, rfl⟩ := List.mem_map.mp hq
    unfold rs
    rcases e1 p hp with z | ⟨z1, z2⟩
    · rw [if_neg (by omega)]; omega
    · rw [if_pos z1]
      have := hU _ z2
      show 0 ≤ U (p.1 - 2000) ∧ U (p.1 - 2000) < 1128
      omega
  · intro j
    constructor
    · rintro ⟨q, hq, h1, h2⟩
      obtain ⟨p, hp, rfl⟩ := List.mem_map.mp hq
      unfold rs at h1
      rcases e1 p hp with z | ⟨z1, z2⟩
      · rw [if_neg (by omega)] at h1; omega
      · rw [if_pos z1] at h1
        exact ⟨_, z2, h1⟩
    · rintro ⟨k, hk, h1⟩
      obtain ⟨p, hp⟩ := e2 k hk
      have hk2 := hU k hk
      have hk0 := h0 k hk
      refine ⟨rs U (2000 + k, p), List.mem_map.mpr ⟨_, hp, rfl⟩, ?_, by omega⟩
      unfold rs
      rw [if_pos (show (2000 : Int) ≤ (2000 + k, p).1 by show (2000 : Int) ≤ 2000 + k; omega)]
      show U (2000 + k - 2000) = 1000 + j
      rw [show 2000 + k - 2000 = k by omega]; exact h1
/-- a table's program: its parts, and what they use -/
def PrgU (G : GT) (vc v : VV) (C : Nat) (t o : Int) (L : Int → List (Int × Int)) : Prop := (∀ f : Int, 0 ≤ f → f ≤ 6 → PartR vc (o + 5) (o + 6) (o + 7) (o + 8) (o + 9) (o + 10) f (L f) ∧ ∀ q ∈ L f, 0 ≤ q.1 ∧ q.1 < 1128) ∧ (∀ f : Int, 0 ≤ f → f < C → ∀ j, (∃ q ∈ L f, q.1 = 1000 + j ∧ 0 ≤ j) ↔ (isS v t ∧ Use G v t f j)) ∧ ∀ j, (∃ q ∈ L 6, q.1 = 1000 + j ∧ 0 ≤ j) ↔ (isS v t ∧ 0 < v 66 (8 * t + 7) ∧ (Use G v t 6 j ∨ Use G v t 7 j))
theorem refU_ok {G : GT} {v : VV} {t f : Int} (hI : MS G v) (hS : isS v t) (hF : FmOK (G t).1 (G t).2 t v f) : ∀ k, rfF (G t).1 (G t).2 3 (v 65 (8 * t + f)) k → refU (G t).1 (G t).2 v t k = 1000 + uAt (G t).1 (G t).2 v t k ∧ (0 ≤ uAt (G t).1 (G t).2 v t k ∧ uAt (G t).1 (G t).2 v t k < 128) ∧ 0 ≤ k := fun k hk => by
  have hb := uAt_bd hI.1 hI.2.1 hS hF hk
  obtain ⟨f1, f2, f3, f4, f5⟩ := hF
  obtain ⟨⟨q1, q2, q3⟩, q4, q5⟩ := f5 k hk
  refine ⟨?_, ⟨hb.1, hb.2.2⟩, ?_⟩
  · unfold refU; rw [if_neg (by omega)]
  · have := (rfF_ok f2 hk).2.1; omega
theorem WhF.pos {b : Int → Int} {n T a : Int} {V : VV} (h : WhF b n T a V) (h0 : 0 ≤ a) : 0 < V 66 (8 * T + 7) ↔ tK b n a = 265 := by
  constructor
  · intro z
    by_cases y : tK b n a = 265
    · exact y
    · have := (h.1 y).2.2.2; omega
  · intro y
    obtain ⟨-, -, z1, -, -, z2, z3⟩ := h.2 y
    rw [z2]
    have := rForm_lt z1
    have := rForm_lt z3
    omega
theorem prg_of {G : GT} {cC : Int → Nat} {E : Int} {X : XX} {vc v : VV} (h : I1 G cC E X vc v) {t : Int} (ht : isT v t) : ∃ L, PrgU G vc v (cC t) t (X.2 37 t) L := by
  obtain ⟨l0, l1, l2⟩ := (h.live t).mp ht
  have hI := h.2.1.1
  obtain ⟨⟨B, I, W, ⟨-, hC, -⟩, -, -, ⟨-, -, hP⟩, -⟩, -⟩ := h.tab ht
  have h51 : v 51 t = cC t := ((h.2.2.1.2 t l0 l1).2 l2).2.1
  by_cases hs : v 50 t = 1 ∨ v 50 t = 2
  · have hS : isS v t := ⟨ht, hs⟩
    obtain ⟨w, ⟨h65, w0, hw⟩, hp⟩ := hP.2 hs
    have hTT := hI.2.2 t hS
    have hpos := hw.pos w0
    have part : ∀ f : Int, 0 ≤ f → f < cC t → LLs (G t).1 (G t).2 (cC t) w (refU (G t).1 (G t).2 v t) f = (emF (G t).1 (G t).2 3 (v 65 (8 * t + f))).map (rs (refU (G t).1 (G t).2 v t)) := fun f f0 f1 => by
      unfold LLs
      rw [if_pos f1]
      have e := h65 f.toNat (by omega)
      rw [Int.toNat_of_nonneg f0] at e
      rw [e]
    have mu : ∀ f : Int, 0 ≤ f → f < cC t → (∀ q ∈ LLs (G t).1 (G t).2 (cC t) w (refU (G t).1 (G t).2 v t) f, 0 ≤ q.1 ∧ q.1 < 1128) ∧ ∀ j, (∃ q ∈ LLs (G t).1 (G t).2 (cC t) w (refU (G t).1 (G t).2 v t) f, q.1 = 1000 + j ∧ 0 ≤ j) ↔ Use G v t f j := fun f f0 f1 => by
      have hF := hTT.2 f (Or.inl ⟨f0, by rw [h51]; exact f1⟩)
      have hu := refU_ok hI hS hF
      rw [part f f0 f1]
      obtain ⟨m1, m2⟩ := mapUse (U := refU (G t).1 (G t).2 v t) (EmS_F hF.1 hF.2.1) (fun k hk => (hu k hk).2.2) (fun k hk => by have := hu k hk; omega)
      refine ⟨m1, fun j => (m2 j).trans ⟨fun ⟨k, k1, k2⟩ => ⟨k, k1, by have := (hu k k1).1; omega⟩, fun ⟨k, k1, k2⟩ => ⟨k, k1, by have := (hu k k1).1; omega⟩⟩⟩
    have mu6 : (∀ q ∈ LLs (G t).1 (G t).2 (cC t) w (refU (G t).1 (G t).2 v t) 6, 0 ≤ q.1 ∧ q.1 < 1128) ∧ ∀ j, (∃ q ∈ LLs (G t).1 (G t).2 (cC t) w (refU (G t).1 (G t).2 v t) 6, q.1 = 1000 + j ∧ 0 ≤ j) ↔ (0 < v 66 (8 * t + 7) ∧ (Use G v t 6 j ∨ Use G v t 7 j)) := by
      by_cases hk : tK (G t).1 (G t).2 w = 265
      · have hp7 := hpos.mpr hk
        have hF6 := hTT.2 6 (Or.inr ⟨Or.inl rfl, hp7⟩)
        have hF7 := hTT.2 7 (Or.inr ⟨Or.inr rfl, hp7⟩)
        have hu6 := refU_ok hI hS hF6
        have hu7 := refU_ok hI hS hF7
        obtain ⟨a1, a2, a3, a4, a5, a6, a7⟩ := hw.2 hk
        have e6 : LLs (G t).1 (G t).2 (cC t) w (refU (G t).1 (G t).2 v t) 6 = (emW (G t).1 (G t).2 w).map (rs (refU (G t).1 (G t).2 v t)) := by
          unfold LLs
          rw [if_neg (by omega), if_pos ⟨rfl, hk⟩]
        have hE : EmS (fun k => rfF (G t).1 (G t).2 3 (v 65 (8 * t + 6)) k ∨ rfF (G t).1 (G t).2 3 (v 65 (8 * t + 7)) k) (emW (G t).1 (G t).2 w) := by
          rw [a1, a5]
          unfold emW
          refine (EmS_F (by omega) a3).app ((EmS_F (by have := rForm_lt a3; omega) a7).app (EmS.one (by omega)) (h := fun k => rfF (G t).1 (G t).2 3 ((rForm (G t).1 (G t).2 3 (w + 1)).2 + 1) k) (fun k => ⟨Or.inl, fun z => z.elim id (fun y => y.elim)⟩)) (fun k => Iff.rfl)
        rw [e6]
        obtain ⟨m1, m2⟩ := mapUse (U := refU (G t).1 (G t).2 v t) hE (fun k hk => hk.elim (fun y => (hu6 k y).2.2) (fun y => (hu7 k y).2.2)) (fun k hk => hk.elim (fun y => by have := hu6 k y; omega) (fun y => by have := hu7 k y; omega))
        refine ⟨m1, fun j => (m2 j).trans ⟨fun ⟨k, k1, k2⟩ => ⟨hp7, k1.imp (fun y => ⟨k, y, by have := (hu6 k y).1; omega⟩) (fun y => ⟨k, y, by have := (hu7 k y).1; omega⟩)⟩, fun ⟨_, z⟩ => z.elim (fun ⟨k, k1, k2⟩ => ⟨k, Or.inl k1, by have := (hu6 k k1).1; omega⟩) (fun ⟨k, k1, k2⟩ => ⟨k, Or.inr k1, by have := (hu7 k k1).1; omega⟩)⟩⟩
      · have e6 : LLs (G t).1 (G t).2 (cC t) w (refU (G t).1 (G t).2 v t) 6 = [] := by
          unfold LLs
          rw [if_neg (by omega), if_neg (fun z => hk z.2)]
        rw [e6]
        exact ⟨fun q hq => absurd hq List.not_mem_nil, fun j => ⟨fun ⟨q, hq, _⟩ => absurd hq List.not_mem_nil, fun z => absurd (hpos.mp z.1) hk⟩⟩
    refine ⟨LLs (G t).1 (G t).2 (cC t) w (refU (G t).1 (G t).2 v t), fun f f0 f1 => ⟨hp f f0 f1, ?_⟩, fun f f0 f1 j => ((mu f f0 f1).2 j).trans ⟨fun z => ⟨hS, z⟩, fun z => z.2⟩, fun j => (mu6.2 j).trans ⟨fun z => ⟨hS, z⟩, fun z => z.2⟩⟩
    by_cases z : f < cC t
    · exact (mu f f0 z).1
    · by_cases y : f = 6
      · rw [y]; exact mu6.1
      · have e : LLs (G t).1 (G t).2 (cC t) w (refU (G t).1 (G t).2 v t) f = [] := by
          unfold LLs
          rw [if_neg z, if_neg (fun q => y q.1)]
        rw [e]
        exact fun q hq => absurd hq List.not_mem_nil
  · exact ⟨fun _ => [], fun f f0 f1 => ⟨hP.1 hs f f0 f1, fun q hq => absurd hq List.not_mem_nil⟩, fun f _ _ j => ⟨fun ⟨q, hq, _⟩ => absurd hq List.not_mem_nil, fun z => absurd z.1.2 hs⟩, fun j => ⟨fun ⟨q, hq, _⟩ => absurd hq List.not_mem_nil, fun z => absurd z.1.2 hs⟩⟩
theorem PrgU.fr {G : GT} {vc w v : VV} {C : Nat} {t o : Int} {L : Int → List (Int × Int)} (h : PrgU G vc v C t o L) (hc : ∀ r j, o + 4 ≤ r → r ≤ o + 10 → w r j = vc r j) : PrgU G w v C t o L := ⟨fun f f0 f1 => ⟨(h.1 f f0 f1).1.eq (hc _ _ (by omega) (by omega)) (hc _ _ (by omega) (by omega)) (hc _ _ (by omega) (by omega)) (hc _ _ (by omega) (by omega)) (fun j => hc _ _ (by omega) (by omega)) (fun j => hc _ _ (by omega) (by omega)), (h.1 f f0 f1).2⟩, h.2⟩
theorem AtL.get {v : VV} {ic pc : Int} : ∀ (L : List (Int × Int)) (s : Int), AtL v ic pc s L → ∀ (i : Nat) (q : Int × Int), L[i]? = some q → v ic (s + i) = q.1 ∧ v pc (s + i) = q.2
  | [], _, _, i, q, h => by simp at h
  | p :: L, s, hA, 0, q, h => by
    have : p = q := by simpa using h
    rw [← this, show s + ((0 : Nat) : Int) = s by omega]
    exact ⟨hA.1, hA.2.1⟩
  | p :: L, s, hA, i + 1, q, h => by
    have h2 := AtL.get L (s + 1) hA.2.2 i q (by simpa using h)
    rw [show s + ((i + 1 : Nat) : Int) = s + 1 + i by omega]
    exact h2
/-- the first k items of a list -/
def inK (L : List (Int × Int)) (k : Nat) (j : Int) : Prop := ∃ (i : Nat) (q : Int × Int), i < k ∧ L[i]? = some q ∧ q.1 = 1000 + j ∧ 0 ≤ j
theorem inK_all (L : List (Int × Int)) (j : Int) : inK L L.length j ↔ ∃ q ∈ L, q.1 = 1000 + j ∧ 0 ≤ j := by
  constructor
  · rintro ⟨i, q, -, h2, h3⟩
    exact ⟨q, List.mem_of_getElem? h2, h3⟩
  · rintro ⟨q, hq, h3⟩
    obtain ⟨i, hi, e⟩ := List.getElem_of_mem hq
    exact ⟨i, q, hi, by rw [List.getElem?_eq_getElem hi, e], h3⟩
set_option maxRecDepth 100000 in
set_option maxHeartbeats 4000000 in
theorem k_markUsed {X : XX} {v : VV} {p st en it ic pl pc f : Int} {R : Nat} {L : List (Int × Int)} {M : Int → Prop} (hW : SW X) (hP : PrgS X p st en it ic pl pc R) (hit : v it 1 ≤ R) (hR6 : R ≤ 60000000) (h87 : 87 ≤ it ∧ 87 ≤ ic ∧ 87 ≤ pc) (hf : 0 ≤ f ∧ f ≤ 6) (hL : PartR v st en it ic pl pc f L) (hq : ∀ q ∈ L, 0 ≤ q.1 ∧ q.1 < 1128) (hM : MKc M v) : CX mX5_markUsed 1 [(2, p), (0, f), (2, 41)] X v (fun _ v1 => Fr S42 v v1 ∧ MKc (fun j => M j ∨ ∃ q ∈ L, q.1 = 1000 + j ∧ 0 ≤ j) v1) := by
  obtain ⟨l0, l1, l2, l3, l4⟩ := hL
  have hPS := hP
  obtain ⟨p1, p2, -, -, ⟨p3, hI⟩, -⟩ := hP
  have hget := AtL.get L _ l4
  have key : ∀ (k : Nat) (V : VV), k ≤ L.length → Fr S42 v V → MKc (fun j => M j ∨ inK L k j) V → Ex mX5_markUsed 1 13 [(2, p), (0, f), (2, 41), (0, v en f), (0, v st f + k)] [] X V 0 0 (fun _ X1 v1 => X1 = X ∧ Fr S42 v v1 ∧ MKc (fun j => M j ∨ ∃ q ∈ L, q.1 = 1000 + j ∧ 0 ≤ j) v1) := by
    refine loop2 (fun (k : Nat) (_ : VV) => L.length - k) (fun (k : Nat) (V : VV) => k ≤ L.length → Fr S42 v V → MKc (fun j => M j ∨ inK L k j) V → Ex mX5_markUsed 1 13 [(2, p), (0, f), (2, 41), (0, v en f), (0, v st f + k)] [] X V 0 0 (fun _ X1 v1 => X1 = X ∧ Fr S42 v v1 ∧ MKc (fun j => M j ∨ ∃ q ∈ L, q.1 = 1000 + j ∧ 0 ≤ j) v1)) (fun k V ih => ?_)
    intro hk hf' hMk
    refine bX5_markUsed_13 p f 41 (v en f) (v st f + k) (Nat.le_refl _) hW (fun _ _ _ => ⟨fun g => ?_, fun g => ?_⟩)
    · have e : k = L.length := by omega
      rw [e] at hMk
      exact ⟨rfl, hf', hMk.cg (fun j _ _ => or_congr Iff.rfl (inK_all L j))⟩
    · rw [p3]
      have e1 : V it 1 = v it 1 := hf' it 1 (by unfold S42; omega)
      refine ⟨p1, p2, hI.1, hI.2.1, _, k_get hW hI (by rw [e1]; exact hit) _, fun r13 w14 hP => ?_⟩
      obtain ⟨rfl, hr⟩ := hP
      obtain ⟨q, hqe⟩ : ∃ q, L[k]? = some q := ⟨L[k]'(by omega), List.getElem?_eq_getElem _⟩
      have hg := (hget k q hqe).1
      have hqb := hq q (List.mem_of_getElem? hqe)
      obtain rfl : r13 = q.1 := by rw [rGet_in ⟨by omega, by omega⟩, hf' ic _ (by unfold S42; omega), hg] at hr; simpa using hr
      refine ⟨fun _ => ⟨by omega, by omega⟩, sW41 hW, gW41 hW, _, k_madd hW hMk (q.1 - 1000), fun w19 hP => ⟨⟨by omega, by omega⟩, ?_⟩⟩
      obtain ⟨f1, m1⟩ := hP
      have h := ih (k + 1) w19 (by omega) (by omega) (hf'.via f1 (fun _ _ z => z) (fun _ _ z => z)) (m1.cg (fun j j0 j1 => ?_))
      · rw [show v st f + ((k + 1 : Nat) : Int) = v st f + k + 1 by omega] at h
        exact h
      · constructor
        · rintro ((z | ⟨i, q', i1, i2, i3⟩) | z)
          · exact Or.inl z
          · exact Or.inr ⟨i, q', by omega, i2, i3⟩
          · exact Or.inr ⟨k, q, by omega, hqe, by omega, j0⟩
        · rintro (z | ⟨i, q', i1, i2, i3, i4⟩)
          · exact Or.inl (Or.inl z)
          · by_cases y : i = k
            · subst y
              rw [hqe] at i2
              have : q = q' := by simpa using i2
              right; rw [this, i3]; omega
            · exact Or.inl (Or.inr ⟨i, q', by omega, i2, i3, i4⟩)
  refine CX.of (by decide +kernel) rfl rfl rfl (bX5_markUsed_0 p f 41 (Nat.le_refl _) hW (fun _ => ⟨p1, p2, _, k_stopOf hW hPS f, fun r3 w4 hP => ?_⟩))
  obtain ⟨rfl, hr⟩ := hP
  obtain rfl : r3 = w4 en f := by rw [if_pos hf] at hr; simpa using hr
  refine ⟨_, k_startOf hW hPS f, fun r7 w8 hP => ?_⟩
  obtain ⟨rfl, hr7⟩ := hP
  obtain rfl : r7 = w8 st f := by rw [if_pos hf] at hr7; simpa using hr7
  have h := key 0 w8 (Nat.zero_le _) Fr.rf (hM.cg (fun j _ _ => ⟨Or.inl, fun z => z.elim id (fun ⟨i, _, i1, _⟩ => by omega)⟩))
  rw [show w8 st f + ((0 : Nat) : Int) = w8 st f by omega] at h
  exact h
set_option maxRecDepth 100000 in
set_option maxHeartbeats 4000000 in
theorem k_usesMarked {X : XX} {v : VV} {p st en it ic pl pc f : Int} {R : Nat} {L : List (Int × Int)} {M : Int → Prop} (hW : SW X) (hP : PrgS X p st en it ic pl pc R) (hit : v it 1 ≤ R) (hR6 : R ≤ 60000000) (hf : 0 ≤ f ∧ f ≤ 6) (hL : PartR v st en it ic pl pc f L) (hq : ∀ q ∈ L, 0 ≤ q.1 ∧ q.1 < 1128) (hM : MKc M v) : CX mX5_usesMarked 2 [(2, p), (0, f), (2, 41)] X v (fun o v1 => v1 = v ∧ o = some (0, bI (∃ j, (∃ q ∈ L, q.1 = 1000 + j ∧ 0 ≤ j) ∧ M j))) := by
  obtain ⟨l0, l1, l2, l3, l4⟩ := hL
  have hPS := hP
  obtain ⟨p1, p2, -, -, ⟨p3, hI⟩, -⟩ := hP
  have hget := AtL.get L _ l4
  have key : ∀ (k : Nat), k ≤ L.length → (∀ j, inK L k j → ¬ M j) → Ex mX5_usesMarked 2 13 [(2, p), (0, f), (2, 41), (0, v en f), (0, v st f + k), (3, 0)] [] X v 0 0 (fun o X1 v1 => X1 = X ∧ v1 = v ∧ o = some (0, bI (∃ j, (∃ q ∈ L, q.1 = 1000 + j ∧ 0 ≤ j) ∧ M j))) := by
    refine loop1 (fun (k : Nat) => L.length - k) (fun (k : Nat) => k ≤ L.length → (∀ j, inK L k j → ¬ M j) → Ex mX5_usesMarked 2 13 [(2, p), (0, f), (2, 41), (0, v en f), (0, v st f + k), (3, 0)] [] X v 0 0 (fun o X1 v1 => X1 = X ∧ v1 = v ∧ o = some (0, bI (∃ j, (∃ q ∈ L, q.1 = 1000 + j ∧ 0 ≤ j) ∧ M j)))) (fun k ih => ?_)
    intro hk hno
    refine bX5_usesMarked_13 p f 41 (v en f) (v st f + k) (Nat.le_refl _) hW (fun _ _ _ => ⟨fun g => ?_, fun g => ?_⟩)
    · have e : k = L.length := by omega
      rw [e] at hno
      exact ⟨rfl, rfl, by rw [bI_f (fun ⟨j, j1, j2⟩ => hno j ((inK_all L j).mpr j1) j2)]⟩
    · rw [p3]
      refine ⟨p1, p2, hI.1, hI.2.1, _, k_get hW hI hit _, fun r13 w14 hP => ?_⟩
      obtain ⟨rfl, hr⟩ := hP
      obtain ⟨q, hqe⟩ : ∃ q, L[k]? = some q := ⟨L[k]'(by omega), List.getElem?_eq_getElem _⟩
      have hg := (hget k q hqe).1
      have hqm := List.mem_of_getElem? hqe
      have hqb := hq q hqm
      obtain rfl : r13 = q.1 := by rw [rGet_in ⟨by omega, by omega⟩, hg] at hr; simpa using hr
      have onw : (∀ j, q.1 = 1000 + j → 0 ≤ j → ¬ M j) → i32 (w14 st f + k + 1) ∧ Ex mX5_usesMarked 2 13 [(2, p), (0, f), (2, 41), (0, w14 en f), (0, w14 st f + k + 1), (3, 0)] [] X w14 0 0 (fun o X1 v1 => X1 = X ∧ v1 = w14 ∧ o = some (0, bI (∃ j, (∃ q ∈ L, q.1 = 1000 + j ∧ 0 ≤ j) ∧ M j))) := fun hz => by
        refine ⟨⟨by omega, by omega⟩, ?_⟩
        have h := ih (k + 1) (by omega) (by omega) (fun j ⟨i, q', i1, i2, i3, i4⟩ => ?_)
        · rw [show w14 st f + ((k + 1 : Nat) : Int) = w14 st f + k + 1 by omega] at h
          exact h
        · by_cases y : i = k
          · subst y
            rw [hqe] at i2
            have : q = q' := by simpa using i2
            exact hz j (by rw [this]; exact i3) i4
          · exact hno j ⟨i, q', by omega, i2, i3, i4⟩
      refine ⟨fun g2 => onw (fun j j1 j2 => by omega), fun g2 => ⟨fun _ => ⟨by omega, by omega⟩, sW41 hW, gW41 hW, _, k_mhas hW hM (q.1 - 1000) (by omega), fun r18 w19 hP => ?_⟩⟩
      obtain ⟨rfl, hr18⟩ := hP
      obtain rfl : r18 = bI (0 ≤ q.1 - 1000 ∧ M (q.1 - 1000)) := by simpa using hr18
      refine ⟨fun g3 => onw (fun j j1 j2 hm => bI_0.mp g3 ⟨by omega, by rw [j1, show 1000 + j - 1000 = j by omega]; exact hm⟩), fun g3 => ⟨rfl, rfl, ?_⟩⟩
      have := bI_n0.mp g3
      rw [bI_t ⟨q.1 - 1000, ⟨q, hqm, by omega, this.1⟩, this.2⟩]
  refine CX.of (by decide +kernel) rfl rfl rfl (bX5_usesMarked_0 p f 41 (Nat.le_refl _) hW (fun _ => ⟨p1, p2, _, k_stopOf hW hPS f, fun r3 w4 hP => ?_⟩))
  obtain ⟨rfl, hr⟩ := hP
  obtain rfl : r3 = w4 en f := by rw [if_pos hf] at hr; simpa using hr
  refine ⟨_, k_startOf hW hPS f, fun r7 w8 hP => ?_⟩
  obtain ⟨rfl, hr7⟩ := hP
  obtain rfl : r7 = w8 st f := by rw [if_pos hf] at hr7; simpa using hr7
  have h := key 0 (Nat.zero_le _) (fun j ⟨i, _, i1, _⟩ => by omega)
  rw [show w8 st f + ((0 : Nat) : Int) = w8 st f by omega] at h
  exact h
