/-! ===== the class: types noted, the whole check ===== -/
def tyOf (τ : Int → Int) (L : List (Int × Int)) : Int := (runS τ L ([], -1)).1.headD 0
def bdOf (τ : Int → Int) (L : List (Int × Int)) : Int := (runS τ L ([], -1)).2
def NTy (τ : Int → Int) (LL : Int → List (Int × Int)) (m k p : Int) : Prop := k = 3 ∧ ∃ f, 0 ≤ f ∧ f < m ∧ ¬ bdOf τ (LL f) = -1 ∧ p = bdOf τ (LL f)
def SNt (r j : Int) : Prop := S32 r j ∨ STy 33 34 r j ∨ (r = 19 ∧ j = 1) ∨ r = 20
/-- the parts of the draft's program -/
def DPt (v : VV) (LL : Int → List (Int × Int)) : Prop := ∀ f, 0 ≤ f → f ≤ 6 → PartR v 26 27 28 29 30 31 f (LL f) ∧ (∀ q ∈ LL f, 1000 ≤ q.1 → q.1 < 1128 → okT (v 38 (q.1 - 1000))) ∧ (∀ q ∈ LL f, -1 ≤ q.1 ∧ q.1 ≤ 1000000) ∧ (bdOf (v 38) (LL f) = -1 ∨ 0 ≤ bdOf (v 38) (LL f))
theorem AtL.cg {v V : VV} {ic pc : Int} (h1 : ∀ j, V ic j = v ic j) (h2 : ∀ j, V pc j = v pc j) {s : Int} {L : List (Int × Int)} (h : AtL v ic pc s L) : AtL V ic pc s L := h.fr L s (fun j _ _ => ⟨h1 j, h2 j⟩)
theorem DPt.fr {v V : VV} {LL : Int → List (Int × Int)} (h : DPt v LL) (hf : ∀ r j, (26 ≤ r ∧ r ≤ 31) ∨ r = 38 → V r j = v r j) : DPt V LL := fun f f0 f1 => by
  obtain ⟨⟨h1, h2, h3, h4, h5⟩, h6, h7, h8⟩ := h f f0 f1
  have e38 : V 38 = v 38 := funext (fun j => hf 38 j (by omega))
  refine ⟨⟨?_, ?_, ?_, ?_, ?_⟩, by rw [e38]; exact h6, h7, by rw [e38]; exact h8⟩
  · rw [hf 26 f (by omega)]; exact h1
  · rw [hf 27 f (by omega), hf 26 f (by omega)]; exact h2
  · rw [hf 27 f (by omega), hf 28 1 (by omega)]; exact h3
  · rw [hf 27 f (by omega), hf 30 1 (by omega)]; exact h4
  · rw [hf 26 f (by omega)]; exact AtL.cg (fun j => hf 29 j (by omega)) (fun j => hf 31 j (by omega)) h5
set_option maxRecDepth 100000 in
set_option maxHeartbeats 4000000 in
theorem k_noteTypes {X : XX} {v : VV} {C : Int} {LL : Int → List (Int × Int)} {N0 : Int → Int → Prop} (hW : SW X) (hD : DPt v LL) (hS : v 28 1 ≤ 400 ∧ v 30 1 ≤ 400) (h17 : v 17 1 = C) (hC : 0 ≤ C ∧ C ≤ 6) (h19 : v 19 1 = 0) (hF : FC N0 v) : CX mX1_noteTypes 4 [(2, 32), (2, 4), (2, 38)] X v (fun _ v1 => FC (fun k p => N0 k p ∨ NTy (v 38) LL 7 k p) v1 ∧ v1 19 1 = C ∧ (∀ c, 0 ≤ c → c < C → v1 20 c = tyOf (v 38) (LL c)) ∧ Fr SNt v v1) := by
  have key : ∀ (x : Int) (V : VV), (0 ≤ x ∧ x ≤ 7) → FC (fun k p => N0 k p ∨ NTy (v 38) LL x k p) V → V 19 1 = (if x ≤ C then x else C) → (∀ c, 0 ≤ c → c < C → c < x → V 20 c = tyOf (v 38) (LL c)) → Fr SNt v V → Ex mX1_noteTypes 4 2 [(2, 32), (2, 4), (2, 38), (0, x), (3, 0)] [] X V 0 0 (fun _ X1 v1 => X1 = X ∧ FC (fun k p => N0 k p ∨ NTy (v 38) LL 7 k p) v1 ∧ v1 19 1 = C ∧ (∀ c, 0 ≤ c → c < C → v1 20 c = tyOf (v 38) (LL c)) ∧ Fr SNt v v1) := by
    refine loop2 (fun (x : Int) (_ : VV) => (7 - x).toNat) (fun (x : Int) (V : VV) => (0 ≤ x ∧ x ≤ 7) → FC (fun k p => N0 k p ∨ NTy (v 38) LL x k p) V → V 19 1 = (if x ≤ C then x else C) → (∀ c, 0 ≤ c → c < C → c < x → V 20 c = tyOf (v 38) (LL c)) → Fr SNt v V → Ex mX1_noteTypes 4 2 [(2, 32), (2, 4), (2, 38), (0, x), (3, 0)] [] X V 0 0 (fun _ X1 v1 => X1 = X ∧ FC (fun k p => N0 k p ∨ NTy (v 38) LL 7 k p) v1 ∧ v1 19 1 = C ∧ (∀ c, 0 ≤ c → c < C → v1 20 c = tyOf (v 38) (LL c)) ∧ Fr SNt v v1)) (fun x V ih => ?_)
    intro hx hFV e19 e20 hf
    have gV : ∀ r j, (26 ≤ r ∧ r ≤ 31) ∨ r = 38 → V r j = v r j := fun r j q => hf r j (by unfold SNt S32 STy; omega)
    have hDV : DPt V LL := hD.fr gV
    have e38 : V 38 = v 38 := funext (fun j => gV 38 j (by omega))
    refine bX1_noteTypes_2 x (Nat.le_refl _) hW (fun _ => ⟨fun g => ?_, fun g => ?_⟩)
    · have ex : x = 7 := by omega
      subst ex
      exact ⟨rfl, hFV, by rw [e19, if_neg (by omega)], fun c c0 c1 => e20 c c0 c1 (by omega), hf⟩
    · obtain ⟨d1, d2, d3, d4⟩ := hDV x hx.1 g
      have hs28 : V 28 1 ≤ 400 ∧ V 30 1 ≤ 400 := by rw [gV 28 1 (by omega), gV 30 1 (by omega)]; exact hS
      refine ⟨_, k_typeOfPart hW (typS33 hW) (prgS25 hW) (by decide) ⟨sW38 hW, gW38 hW⟩ ⟨by decide, by decide, by decide, by decide, by decide, by decide, by decide⟩ x ⟨hx.1, g⟩ d1 hs28 d2 d3, fun r2 w3 hP => ?_⟩
      obtain ⟨hr, p2, p3⟩ := hP
      obtain rfl : r2 = tyOf (v 38) (LL x) := by rw [e38] at hr; simpa [tyOf] using hr
      have p2' : w3 33 2 = bdOf (v 38) (LL x) := by rw [p2, e38]; rfl
      have e17 : w3 17 1 = C := by rw [p3 17 1 (by unfold STy; omega), hf 17 1 (by unfold SNt S32 STy; omega)]; exact h17
      have hf3 : Fr SNt v w3 := hf.via p3 (fun _ _ q => q) (fun _ _ q => Or.inr (Or.inl q))
      have hFV3 := hFV.fr p3 (by unfold STy; omega) (by unfold STy; omega)
      have e19' : w3 19 1 = (if x ≤ C then x else C) := (p3 19 1 (by unfold STy; omega)).trans e19
      have e20' : ∀ c, w3 20 c = V 20 c := fun c => p3 20 c (by unfold STy; omega)
      -- behind the type
      have l43 : ∀ V2 : VV, V2 33 2 = bdOf (v 38) (LL x) → FC (fun k p => N0 k p ∨ NTy (v 38) LL x k p) V2 → V2 19 1 = (if x + 1 ≤ C then x + 1 else C) → (∀ c, 0 ≤ c → c < C → c < x + 1 → V2 20 c = tyOf (v 38) (LL c)) → Fr SNt v V2 → Ex mX1_noteTypes 4 43 [(2, 32), (2, 4), (2, 38), (0, x), (0, tyOf (v 38) (LL x))] [] X V2 0 0 (fun _ X1 v1 => X1 = X ∧ FC (fun k p => N0 k p ∨ NTy (v 38) LL 7 k p) v1 ∧ v1 19 1 = C ∧ (∀ c, 0 ≤ c → c < C → v1 20 c = tyOf (v 38) (LL c)) ∧ Fr SNt v v1) := fun V2 z1 z2 z3 z4 z5 => by
        refine bX1_noteTypes_43 x _ (Nat.le_refl _) hW (fun _ _ => ?_)
        rw [z1]
        refine ⟨fun g2 => ⟨⟨by omega, by omega⟩, ih (x + 1) V2 (by omega) ⟨by omega, by omega⟩ (z2.cg (fun k p => ?_)) z3 z4 z5⟩, fun g2 => ?_⟩
        · refine or_congr Iff.rfl ?_
          unfold NTy
          refine and_congr Iff.rfl ⟨fun ⟨f, q0, q1, q2⟩ => ⟨f, q0, by omega, q2⟩, fun ⟨f, q0, q1, q2, q3⟩ => ⟨f, q0, ?_, q2, q3⟩⟩
          by_cases hfx : f = x
          · rw [hfx] at q2; exact absurd g2 q2
          · omega
        · have hb : 0 ≤ bdOf (v 38) (LL x) := by
            rw [e38] at d4
            exact d4.elim (fun z => absurd z g2) id
          refine ⟨_, k_note hW z2 (k := 3) (by decide) hb, fun w15 hP => ?_⟩
          obtain ⟨n1, n2⟩ := hP
          refine ⟨⟨by omega, by omega⟩, ih (x + 1) w15 (by omega) ⟨by omega, by omega⟩ (n1.cg (fun k p => ?_)) ((n2 19 1 (by unfold S32; omega)).trans z3) (fun c c0 c1 c2 => (n2 20 c (by unfold S32; omega)).trans (z4 c c0 c1 c2)) (z5.via n2 (fun _ _ q => q) (fun _ _ q => Or.inl q))⟩
          rw [or_assoc]
          refine or_congr Iff.rfl ?_
          unfold NTy
          constructor
          · rintro (⟨q, f, q0, q1, q2⟩ | ⟨q, q'⟩)
            · exact ⟨q, f, q0, by omega, q2⟩
            · exact ⟨q, x, hx.1, by omega, g2, q'⟩
          · rintro ⟨q, f, q0, q1, q2, q3⟩
            by_cases hfx : f = x
            · right; rw [hfx] at q3; exact ⟨q, q3⟩
            · left; exact ⟨q, f, q0, by omega, q2, q3⟩
      refine ⟨_, k_size hW (rowS17 hW), fun r6 w7 hP => ?_⟩
      obtain ⟨rfl, hr6⟩ := hP
      obtain rfl : C = r6 := by rw [e17] at hr6; exact (by simpa using hr6 : r6 = C).symm
      refine ⟨fun g2 => l43 _ p2' hFV3 (by rw [e19', if_neg (show ¬ x + 1 ≤ C by omega)]; split <;> omega) (fun c c0 c1 c2 => by rw [e20' c]; exact e20 c c0 c1 (by omega)) hf3, fun g2 => ?_⟩
      rw [if_pos (show x ≤ C by omega)] at e19'
      refine ⟨_, k_add hW (rowS19 hW) (by decide) ⟨by omega, by omega⟩ _, fun w11 hP => ?_⟩
      have e11 : w11 = rAdd w7 19 20 (tyOf (v 38) (LL x)) := hP
      have f11 : Fr (fun r j => (r = 19 ∧ j = 1) ∨ r = 20) w7 w11 := by
        rw [e11]; unfold rAdd
        exact (Fr.rf.up (Or.inr rfl)).up (Or.inl ⟨rfl, rfl⟩)
      refine l43 w11 ((f11 33 2 (by omega)).trans p2') (hFV3.fr f11 (by omega) (by omega)) (by rw [e11, rAdd_1, e19', if_pos (show x + 1 ≤ C by omega)]) (fun c c0 c1 c2 => ?_) (hf3.via f11 (fun _ _ q => q) (fun r j q => Or.inr (Or.inr q)))
      rw [e11, rAdd_c (by decide), e19']
      by_cases hcx : c = x
      · rw [if_pos hcx, hcx]
      · rw [if_neg hcx, e20' c]; exact e20 c c0 c1 (by omega)
  refine CX.of (by decide +kernel) rfl rfl rfl (bX1_noteTypes_0 (Nat.le_refl _) hW (key 0 v ⟨Int.le_refl _, by decide⟩ (hF.cg (fun k p => ⟨Or.inl, fun q => q.elim id (fun ⟨_, f, q0, q1, _⟩ => by omega)⟩)) (by rw [h19, if_pos hC.1]) (fun c c0 c1 c2 => by omega) Fr.rf))
/-- what is noted for the items -/
def NIt (X : XX) (v : VV) (cC : Int → Nat) (b : Int → Int) (n : Int) (ct : Int → Int) (B : Nat) (L : List (Int × Int)) (k p : Int) : Prop := ∃ q ∈ L, 2000 ≤ q.1 ∧ NRf X v cC b n ct B (q.1 - 2000) k p
theorem colC_fr {X : XX} {S : Int → Int → Prop} {v v1 : VV} {cC : Int → Nat} (hTC : TCol X cC) (hf : Fr S v v1) (hs : ∀ r j, 87 ≤ r → ¬ S r j) (t w : Int) (ht : 0 ≤ t ∧ t < 16 ∧ ¬ X.2 37 t = -1) : colC X v1 cC t w = colC X v cC t w := by
  rcases hTC t ht.1 ht.2.1 with z | ⟨⟨-, z, -⟩, -⟩
  · exact absurd z ht.2.2
  · exact fst1_cg _ (fun i i0 i1 => by rw [hf _ i (hs _ _ z)])
theorem refC_fr {X : XX} {S : Int → Int → Prop} {v v1 : VV} {cC : Int → Nat} {b : Int → Int} {n : Int} {ct : Int → Int} {B : Nat} (hTO : TObj X) (hTC : TCol X cC) (hf : Fr S v v1) (hs : ∀ r j, 87 ≤ r → ¬ S r j) (a : Int) : refC X v1 cC b n ct B a = refC X v cC b n ct B a := by
  unfold refC
  by_cases h : nth b n ct B (nm32 b n a) = -1
  · rw [if_pos h, if_pos h]
  · rw [if_neg h, if_neg h, tC_fr hTO hf (fun r hr => hs r 0 hr)]
    unfold itC
    by_cases h2 : 0 ≤ tC X v (nm32 b n (ct (nth b n ct B (nm32 b n a)))) ∧ tC X v (nm32 b n (ct (nth b n ct B (nm32 b n a)))) < 16 ∧ ¬ X.2 37 (tC X v (nm32 b n (ct (nth b n ct B (nm32 b n a))))) = -1
    · rw [if_pos h2, if_pos h2, colC_fr hTC hf hs _ _ h2]
    · rw [if_neg h2, if_neg h2]
theorem NRf_fr {X : XX} {S : Int → Int → Prop} {v v1 : VV} {cC : Int → Nat} {b : Int → Int} {n : Int} {ct : Int → Int} {B : Nat} (hTO : TObj X) (hTC : TCol X cC) (hf : Fr S v v1) (hs : ∀ r j, 87 ≤ r → ¬ S r j) (a k p : Int) : NRf X v1 cC b n ct B a k p ↔ NRf X v cC b n ct B a k p := by
  unfold NRf
  rw [tC_fr hTO hf (fun r hr => hs r 0 hr)]
  have key : ∀ t w, (0 ≤ t ∧ ¬ X.2 37 t = -1) → t < 16 → colC X v1 cC t w = colC X v cC t w := fun t w h1 h2 => colC_fr hTC hf hs t w ⟨h1.1, h2, h1.2⟩
  have h16 := tC_bd X v (nm32 b n (ct (nth b n ct B (nm32 b n a))))
  refine and_congr Iff.rfl (or_congr Iff.rfl (and_congr Iff.rfl ?_))
  constructor
  · rintro ⟨h1, h2, h3⟩
    exact ⟨h1, by rw [key _ _ h1 (by omega)] at h2; exact h2, h3⟩
  · rintro ⟨h1, h2, h3⟩
    exact ⟨h1, by rw [key _ _ h1 (by omega)]; exact h2, h3⟩
def SIt (r j : Int) : Prop := S32 r j ∨ r = 29
theorem SIt_TO {r j : Int} (h : TOs r j) : ¬ SIt r j := by unfold TOs at h; unfold SIt S32; omega
theorem SIt_87 (r j : Int) (h : 87 ≤ r) : ¬ SIt r j := by unfold SIt S32; omega
theorem S32_87 (r j : Int) (h : 87 ≤ r) : ¬ S32 r j := by unfold S32; omega
set_option maxRecDepth 100000 in
set_option maxHeartbeats 4000000 in
/-- the items' names looked up -/
theorem k_items {X : XX} {v : VV} {b : Int → Int} {n N : Int} {B : Nat} {ct : Int → Int} {cC : Int → Nat} {N0 : Int → Int → Prop} {L : List (Int × Int)} {Q : QQ} (hW : SW X) (hTO : TObj X) (hTC : TCol X cC) (hT : TOK b n N v) (hB : v 21 1 = B) (hB3 : B ≤ 3) (hct : ∀ i : Int, 0 ≤ i → i < B → v 22 i = ct i) (hN : NmR b n N ct B) (h23 : v 23 1 = B) (h24 : ∀ i : Int, 0 ≤ i → i < B → v 24 i = tC X v (nm32 b n (ct i))) (hL : v 28 1 = L.length ∧ (L.length : Int) ≤ 400) (hAt : AtL v 29 31 0 L) (hq : ∀ q ∈ L, 2000 ≤ q.1 → NmR b n N (fun i => q.1 - 2000 + 2 * i) 2) (hF : FC N0 v)
    (hQ : ∀ V, FC (fun k p => N0 k p ∨ NIt X v cC b n ct B L k p) V → Fr SIt v V → AtL V 29 31 0 (L.map (rs (refC X v cC b n ct B))) → ((V 4 6 = 0 → Q none X V) ∧ (¬ V 4 6 = 0 → ∃ P33 : Option AV → VV → Prop, Con mX1_noteTypes 4 0 0 [(2, 32), (2, 4), (2, 38)] X V (fun o X1 v1 => X1 = X ∧ P33 o v1) ∧ ∀ (w35 : VV), P33 none w35 → Q none X w35))) : Ex mX1_check 5 79 [(2, 32), (2, 4), (2, 37), (2, 38), (2, 5), (0, 0), (3, 0)] [] X v 0 0 Q := by
  have key : ∀ (K P : List (Int × Int)) (x : Int) (V : VV), L = P ++ K → x = P.length → FC (fun k p => N0 k p ∨ NIt X v cC b n ct B P k p) V → Fr SIt v V → AtL V 29 31 0 (P.map (rs (refC X v cC b n ct B))) → AtL V 29 31 x K → Ex mX1_check 5 79 [(2, 32), (2, 4), (2, 37), (2, 38), (2, 5), (0, x), (3, 0)] [] X V 0 0 Q := by
    intro K
    induction K with
    | nil =>
      intro P x V hPK hx hFV hf hA1 hA2
      rw [List.append_nil] at hPK
      subst hPK
      refine bX1_check_79 5 x (Nat.le_refl _) hW (fun _ => ⟨_, k_size hW (rowS28 hW), fun r30 w31 hP => ?_⟩)
      obtain ⟨rfl, hr⟩ := hP
      have e28 : w31 28 1 = L.length := (hf 28 1 (by unfold SIt S32; omega)).trans hL.1
      obtain rfl : r30 = (L.length : Int) := by rw [e28] at hr; simpa using hr
      exact ⟨fun _ => hQ w31 hFV hf hA1, fun g => by omega⟩
    | cons q K ih =>
      intro P x V hPK hx hFV hf hA1 hA2
      obtain ⟨a1, a2, a3⟩ := hA2
      have hqL : q ∈ L := by rw [hPK]; exact List.mem_append_right _ List.mem_cons_self
      have hlen : (L.length : Int) = P.length + (K.length + 1) := by rw [hPK, List.length_append, List.length_cons]; omega
      have hPK2 : L = (P ++ [q]) ++ K := by rw [hPK, List.append_assoc]; rfl
      have hTV := hT.fr hf (fun r j z => SIt_TO z)
      have e28 : V 28 1 = L.length := (hf 28 1 (by unfold SIt S32; omega)).trans hL.1
      refine bX1_check_79 5 x (Nat.le_refl _) hW (fun _ => ⟨_, k_size hW (rowS28 hW), fun r30 w31 hP => ?_⟩)
      obtain ⟨rfl, hr⟩ := hP
      obtain rfl : r30 = (L.length : Int) := by rw [e28] at hr; simpa using hr
      refine ⟨fun g => by omega, fun g => ⟨_, k_get hW (rowS28 hW) (by omega) x, fun r38 w39 hP => ?_⟩⟩
      obtain ⟨rfl, hr38⟩ := hP
      obtain rfl : r38 = q.1 := by rw [rGet_in ⟨by omega, by omega⟩, a1] at hr38; simpa using hr38
      have nx : ∀ W : VV, FC (fun k p => N0 k p ∨ NIt X v cC b n ct B (P ++ [q]) k p) W → Fr SIt v W → Fr (fun r j => S32 r j ∨ (r = 29 ∧ j = x)) w39 W → W 29 x = (rs (refC X v cC b n ct B) q).1 → i32 (x + 1) ∧ Ex mX1_check 5 79 [(2, 32), (2, 4), (2, 37), (2, 38), (2, 5), (0, x + 1), (3, 0)] [] X W 0 0 Q := fun W z1 z2 z3 z4 => by
        refine ⟨⟨by omega, by omega⟩, ih (P ++ [q]) (x + 1) W hPK2 (by rw [List.length_append, List.length_singleton]; omega) z1 z2 ?_ (a3.fr _ _ (fun j j0 j1 => ⟨z3 29 j (by unfold S32; omega), z3 31 j (by unfold S32; omega)⟩))⟩
        rw [List.map_append]
        refine (AtL.app _ _ _).mpr ⟨hA1.fr _ _ (fun j j0 j1 => ?_), ?_⟩
        · rw [List.length_map] at j1
          exact ⟨z3 29 j (by unfold S32; omega), z3 31 j (by unfold S32; omega)⟩
        · rw [List.length_map, show (0 : Int) + (P.length : Int) = x by omega]
          refine ⟨z4, ?_, trivial⟩
          rw [z3 31 x (by unfold S32; omega), a2]
          unfold rs; split <;> rfl
      refine ⟨fun g2 => ?_, fun g2 => ⟨fun hi => ⟨by have := hi.1; have := hi.2; omega, by have := hi.1; have := hi.2; omega⟩, ?_⟩⟩
      · refine nx w39 (hFV.cg (fun k p => or_congr Iff.rfl ⟨fun ⟨q', h1, h2⟩ => ⟨q', List.mem_append_left _ h1, h2⟩, fun ⟨q', h1, h2, h3⟩ => ?_⟩)) hf Fr.rf ?_
        · rcases List.mem_append.mp h1 with h | h
          · exact ⟨q', h, h2, h3⟩
          · rw [List.mem_singleton.mp h] at h2; omega
        · rw [a1]; unfold rs; rw [if_neg (by omega)]
      · have hnm := hq q hqL g2
        have i1 : ∀ i : Int, 0 ≤ i → i < B → w39 22 i = ct i := fun i z0 z1 => (hf 22 i (by unfold SIt S32; omega)).trans (hct i z0 z1)
        have i2 : ∀ i : Int, 0 ≤ i → i < B → w39 24 i = tC X w39 (nm32 b n (ct i)) := fun i z0 z1 => by
          rw [hf 24 i (by unfold SIt S32; omega), h24 i z0 z1, tC_fr hTO hf (fun r hr => SIt_87 r 0 hr)]
        refine ⟨_, k_columnItem hW hTO hTC hTV ((hf 21 1 (by unfold SIt S32; omega)).trans hB) hB3 i1 hN ((hf 23 1 (by unfold SIt S32; omega)).trans h23) i2 hnm hFV, fun r42 w43 hP => ?_⟩
        obtain ⟨hr42, n1, n2⟩ := hP
        obtain rfl : r42 = refC X v cC b n ct B (q.1 - 2000) := by
          rw [refC_fr hTO hTC hf SIt_87] at hr42; simpa using hr42
        have e28' : w43 28 1 = L.length := (n2 28 1 (by unfold S32; omega)).trans e28
        refine ⟨_, k_set hW (rowS28 hW) (by omega) x (refC X v cC b n ct B (q.1 - 2000)) ⟨by omega, by omega⟩, fun w47 hP => ?_⟩
        have e47 : w47 = upd2 w43 29 x (refC X v cC b n ct B (q.1 - 2000)) := hP
        have f47 : Fr (fun r j => r = 29 ∧ j = x) w43 w47 := by rw [e47]; exact Fr.rf.up ⟨rfl, rfl⟩
        have f39 : Fr (fun r j => S32 r j ∨ (r = 29 ∧ j = x)) w39 w47 := (n2.mono (fun r j h z => h (Or.inl z))).via f47 (fun _ _ z => z) (fun r j z => Or.inr z)
        refine nx w47 ((n1.fr f47 (by omega) (by omega)).cg (fun k p => ?_)) (hf.via f39 (fun _ _ z => z) (fun r j z => z.elim Or.inl (fun y => Or.inr y.1))) f39 ?_
        · rw [or_assoc]
          refine or_congr Iff.rfl ?_
          rw [NRf_fr hTO hTC hf SIt_87]
          constructor
          · rintro (⟨q', h1, h2⟩ | h)
            · exact ⟨q', List.mem_append_left _ h1, h2⟩
            · exact ⟨q, List.mem_append_right _ List.mem_cons_self, g2, h⟩
          · rintro ⟨q', h1, h2, h3⟩
            rcases List.mem_append.mp h1 with h | h
            · exact Or.inl ⟨q', h, h2, h3⟩
            · rw [List.mem_singleton.mp h] at h3; exact Or.inr h3
        · rw [e47, upd2_s]; unfold rs; rw [if_pos g2]
  exact key L [] 0 v rfl rfl (hF.cg (fun k p => ⟨Or.inl, fun z => z.elim id (fun ⟨q, h, _⟩ => absurd h List.not_mem_nil)⟩)) Fr.rf trivial hAt
