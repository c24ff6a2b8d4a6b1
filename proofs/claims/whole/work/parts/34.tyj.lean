/-! ===== typeOf ===== -/
def low (D : Int) (V V' : VV) : Prop := (∀ i, i < D → V' 72 i = V 72 i ∧ V' 73 i = V 73 i ∧ V' 74 i = V 74 i) ∧ (∀ i, i ≤ D → V' 75 i = V 75 i ∧ V' 76 i = V 76 i)
theorem low.tr {D : Int} {A B C : VV} (h1 : low D A B) (h2 : low D B C) : low D A C := ⟨fun i hi => ⟨((h2.1 i hi).1).trans (h1.1 i hi).1, ((h2.1 i hi).2.1).trans (h1.1 i hi).2.1, ((h2.1 i hi).2.2).trans (h1.1 i hi).2.2⟩, fun i hi => ⟨((h2.2 i hi).1).trans (h1.2 i hi).1, ((h2.2 i hi).2).trans (h1.2 i hi).2⟩⟩
theorem low.cm {V : VV} {D : Int} (a : Int) (h : V 47 51 = D) : low D V (cmV V a) := by
  refine ⟨fun i hi => ⟨?_, ?_, ?_⟩, fun i hi => ⟨?_, ?_⟩⟩
  · exact cmV_n (by omega) (by omega) (by omega)
  · exact cmV_n (by omega) (by omega) (by omega)
  · exact cmV_n (by omega) (by omega) (by omega)
  · exact cmV_n (by omega) (by omega) (by omega)
  · exact cmV_n (by omega) (by omega) (by omega)
noncomputable def RT (b : Int → Int) (n : Int) (v : VV) (t k : Int) : Int := refTy (if v 47 52 = 0 then 77 else 53) v t (tW b n k) (tW b n (k + 2))
def NOp (V : VV) (D ty k p : Int) : Prop := k = 3 ∧ ¬ V 73 D = 0 ∧ opBad (V 73 D) (V 72 D) ty ∧ p = V 74 D
def cmR (V : VV) (D ty : Int) : Int := if V 73 D = 0 then ty else opT (V 73 D) (V 72 D) ty
def tyAt (d mc ms : Nat) (X : XX) (Q : QQ) (t f a : Int) (V : VV) : Prop := Ex mX11_typeOf d 31 [(2, 47), (0, t), (0, f), (0, a), (3, 0), (3, 0), (3, 0)] [] X V mc ms Q
/-- a value comes -/
theorem tyCome {X : XX} {v : VV} {Q : QQ} {d mc ms : Nat} {t f D a' x y : Int} {N0 M : Int → Int → Prop} {V : VV} (hA : TA v N0 M x V) (hD : V 47 51 = D) (ty : Int) (hx : x + 1 ≤ y) (cont : ∀ V', TA v N0 (fun k p => M k p ∨ NOp V D ty k p) y V' → V' 47 51 = D → V' 72 D = cmR V D ty → V' 73 D = 0 → low D V V' → tyAt d mc ms X Q t f a' V') : tyAt d mc ms X Q t f a' (cmV V ty) := by
  subst hD
  refine cont _ ((hA.cm ty).cg (fun k p => Iff.rfl) hx) ?_ (cmV_72 V ty) (cmV_73 V ty) (low.cm ty rfl)
  exact cmV_n (by omega) (by omega) (by omega)
set_option maxRecDepth 100000 in
set_option maxHeartbeats 4000000 in
theorem l_tyLeaf {X : XX} {v : VV} {Q : QQ} {d mc ms : Nat} {b : Int → Int} {n t f A a0 D : Int} {N0 M : Int → Int → Prop} {V : VV} (hW : SW X) (hd : 3 ≤ d) (hH : TYH b n t A v) (hf : 0 ≤ f ∧ f < 8) (hE : v 66 (8 * t + f) ≤ A) (he : 0 ≤ v 47 50 ∧ v 47 50 ≤ 1900000000) (a : Int) (hr : (rLeaf b n a).1 = true) (h0 : 0 ≤ a0 ∧ a0 ≤ a) (hle : (rLeaf b n a).2 ≤ v 66 (8 * t + f)) (hA : TA v N0 M (2 * (a - a0)) V) (hD : V 47 51 = D) (hD2 : 0 ≤ D ∧ D < 4) (cont : ∀ V', TA v N0 (fun k p => (M k p ∨ (k = 2 ∧ tK b n a = 256 ∧ miss b n v t a p)) ∨ NOp V D (tyL b n (RT b n v t) a) k p) (2 * ((rLeaf b n a).2 - a0)) V' → V' 47 51 = D → V' 72 D = cmR V D (tyL b n (RT b n v t) a) → V' 73 D = 0 → low D V V' → tyAt d mc ms X Q t f (rLeaf b n a).2 V') : tyAt d mc ms X Q t f a V := by
  have hHV := hH.fr hA.1
  obtain ⟨hK, h54, h55, h51, hMW⟩ := id hHV
  obtain ⟨k1, k2, k3, k4, k5⟩ := id hK
  have hp := tS_bd b k3.1.1 a
  have e66 : V 66 (8 * t + f) = v 66 (8 * t + f) := hA.1 66 _ (by unfold TYs; omega)
  have he5 := hA.2.2.2.1
  have hlt : a < (rLeaf b n a).2 := by rcases rLeaf_t hr with q | q | q <;> omega
  obtain ⟨t1, -, -⟩ := k1 a (by omega) (by omega)
  obtain ⟨nl1, nl2, nl3, nl4⟩ := now_let (b := b) hp.2 k3 hp.1
  have hDV : 0 ≤ V 47 51 ∧ V 47 51 < 4 := by rw [hD]; exact hD2
  have hKe : tK b n a = tKind b n (tS b n a) := rfl
  have nom : ¬ tK b n a = 256 → TA v N0 (fun k p => M k p ∨ (k = 2 ∧ tK b n a = 256 ∧ miss b n v t a p)) (2 * (a - a0)) V := fun hk => hA.cg (fun k p => ⟨Or.inl, fun q => q.elim id (fun z => absurd z.2.1 hk)⟩) (Int.le_refl _)
  have hw3 : lNow b n (tS b n a) = 1 → (rLeaf b n a).2 = a + 3 := fun z => by
    rcases rLeaf_t hr with q | q | q
    · exact q.2.2.2.2.2
    · have h1 := nl1
      have h2 := nl2
      omega
    · have h1 := nl1
      have h2 := nl2
      omega
  refine bX11_typeOf_31 t f a hd hW (fun _ _ _ => ?_)
  rw [e66, t1]
  refine ⟨⟨by omega, by omega⟩, fun _ => ⟨by omega, by omega⟩, ⟨by omega, by omega⟩, fun g => by omega, fun _ => ⟨⟨by omega, by omega⟩, fun _ => ⟨by omega, by omega⟩, ⟨by omega, by omega⟩, fun g2 => ⟨⟨by omega, by omega⟩, fun g3 => ⟨⟨by omega, by omega⟩, fun g4 => ?_, fun g4 => ⟨fun _ => ⟨by omega, by omega⟩, (by have := hw3 g4; exact ⟨by omega, by omega⟩), ?_⟩⟩, fun g3 => ?_⟩, fun g2 => ?_⟩⟩
  · exfalso
    rcases rLeaf_t hr with q | q | q
    · exact g4 (k256_now hp.2 hp.1 k3 (Or.inl q.1))
    · exact g2 (nl3 q.1)
    · exact g3 (nl1.mpr (nl2 (Or.inl q.1)))
  · rcases rLeaf_t hr with q | q | q
    · obtain ⟨q1, q2, q3, q4, q5, q6⟩ := q
      have hp1 := tS_bd b k3.1.1 (a + 1)
      have hp2 := tS_bd b k3.1.1 (a + 2)
      have n46 : lNow b n (tS b n (a + 1)) = 46 := ((now_sign (b := b) hp1.2 (s := 46) (by unfold sgB; omega)).1).mpr q3
      have n2 : lNow b n (tS b n (a + 2)) = 1 := k256_now hp2.2 hp2.1 k3 (Or.inl q4)
      obtain ⟨t2, -, -⟩ := k1 (a + 1) (by omega) (by omega)
      rw [show 400 * t + a + 1 = 400 * t + (a + 1) by omega, t2, n46]
      refine ⟨fun _ => ?_, fun g => absurd g (by decide)⟩
      refine bX11_typeOf_202 t f a _ hd hW (fun _ _ _ _ => ?_)
      rw [t1]
      refine ⟨⟨by omega, by omega⟩, fun g => absurd g4 g, fun _ => ⟨_, c_typeOfName (b := b) (n := n) (A := A) hW hK ⟨by omega, by omega⟩ g4 q2 n2 q5 h54 h55 h51, fun r19 w20 hP => ?_⟩⟩
      obtain ⟨hw, hr19⟩ := hP
      have e52 : V 47 52 = v 47 52 := hA.1 47 52 (by unfold TYs; omega)
      obtain rfl : r19 = RT b n v t a := by
        have h9 : r19 = refTy (if V 47 52 = 0 then 77 else 53) V t (tW b n a) (tW b n (a + 2)) := by simpa using hr19
        rw [h9, e52]
        exact refTy_fr hA.1 _ _ _ _ (by split <;> omega)
      have hA2 := hA.tn (b := b) (n := n) (t := t) (k := a)
      rw [← hw] at hA2
      have gw : ∀ r j, ¬ (r = 47 ∧ (j = 25 ∨ j = 26)) → w20 r j = V r j := fun r j h => by rw [hw]; exact tnV_n h
      have hDw : w20 47 51 = D := (gw 47 51 (by omega)).trans hD
      have he6 := hA2.2.2.2.1
      refine ⟨_, c_comes hW (by rw [hDw]; exact hD2) (by omega) _, fun w24 hP => ⟨⟨by omega, by omega⟩, ⟨by omega, by omega⟩, ?_⟩⟩
      have e24 : w24 = cmV w20 (RT b n v t a) := hP
      rw [e24, show a + 2 + 1 = (rLeaf b n a).2 by omega]
      have etl : tyL b n (RT b n v t) a = RT b n v t a := if_pos q1
      rw [etl] at cont
      have hcR : cmR w20 D (RT b n v t a) = cmR V D (RT b n v t a) := by unfold cmR; rw [gw 73 D (by omega), gw 72 D (by omega)]
      refine tyCome hA2 hDw _ (y := 2 * ((rLeaf b n a).2 - a0)) (by omega) (fun V' y1 y2 y3 y4 y5 => cont V' (y1.cg (fun k p => ?_) (Int.le_refl _)) y2 (y3.trans hcR) y4 ?_)
      · unfold NOp
        rw [gw 73 D (by omega), gw 72 D (by omega), gw 74 D (by omega)]
        exact ⟨fun q => q.imp (fun z => z.imp id (fun y => ⟨y.1, q1, y.2⟩)) id, fun q => q.imp (fun z => z.imp id (fun y => ⟨y.1, y.2.2⟩)) id⟩
      · refine low.tr ⟨fun i hi => ⟨gw _ _ (by omega), gw _ _ (by omega), gw _ _ (by omega)⟩, fun i hi => ⟨gw _ _ (by omega), gw _ _ (by omega)⟩⟩ y5
    · exact absurd (nl3 q.1) g2
    · exact absurd (nl1.mpr (nl2 (Or.inl q.1))) g3
  · have hk : tK b n a = 258 ∧ (rLeaf b n a).2 = a + 1 := by
      rcases rLeaf_t hr with q | q | q
      · have := k256_now hp.2 hp.1 k3 (Or.inl q.1); omega
      · have := nl3 q.1; omega
      · exact q
    have etl : tyL b n (RT b n v t) a = 116 := by unfold tyL; rw [if_neg (by omega), if_neg (by omega)]
    rw [etl, hk.2] at cont
    refine ⟨_, c_comes hW hDV (by omega) _, fun w8 hP => ⟨⟨by omega, by omega⟩, ?_⟩⟩
    have e8 : w8 = cmV V 116 := hP
    rw [e8]
    exact tyCome (nom (by omega)) hD 116 (by omega) cont
  · have hk : tK b n a = 257 ∧ (rLeaf b n a).2 = a + 1 := by
      rcases rLeaf_t hr with q | q | q
      · have := k256_now hp.2 hp.1 k3 (Or.inl q.1); omega
      · exact ⟨q.1, q.2.2⟩
      · have := nl1.mpr (nl2 (Or.inl q.1)); omega
    have etl : tyL b n (RT b n v t) a = 110 := by unfold tyL; rw [if_neg (by omega), if_pos (by omega)]
    rw [etl, hk.2] at cont
    refine ⟨_, c_comes hW hDV (by omega) _, fun w8 hP => ⟨⟨by omega, by omega⟩, ?_⟩⟩
    have e8 : w8 = cmV V 110 := hP
    rw [e8]
    exact tyCome (nom (by omega)) hD 110 (by omega) cont
def NTe (b : Int → Int) (n : Int) (v : VV) (t : Int) (j : Nat) (a k p : Int) : Prop := (k = 3 ∧ erT b n (RT b n v t) j a p) ∨ (k = 2 ∧ ∃ r, rfT b n j a r ∧ miss b n v t r p)
def NMe (b : Int → Int) (n : Int) (v : VV) (t : Int) (j m : Nat) (l a k p : Int) : Prop := (k = 3 ∧ erM b n (tyT b n (RT b n v t) j) (rTerm b n j) (erT b n (RT b n v t) j) m l a p) ∨ (k = 2 ∧ ∃ r, rfM b n (rTerm b n j) (rfT b n j) m a r ∧ miss b n v t r p)
def TyJ (X : XX) (v : VV) (Q : QQ) (d mc ms : Nat) (b : Int → Int) (n t f a0 : Int) (N0 : Int → Int → Prop) (j : Nat) : Prop := ∀ (a : Int) (V : VV) (M : Int → Int → Prop), (rTerm b n j a).1 = true → a0 ≤ a → (rTerm b n j a).2 ≤ v 66 (8 * t + f) → TA v N0 M (2 * (a - a0)) V → V 47 51 = 3 - (j : Int) → (∀ V', TA v N0 (fun k p => (M k p ∨ NTe b n v t j a k p) ∨ NOp V (3 - (j : Int)) (tyT b n (RT b n v t) j a) k p) (2 * ((rTerm b n j a).2 - a0)) V' → V' 47 51 = 3 - (j : Int) → V' 72 (3 - (j : Int)) = cmR V (3 - (j : Int)) (tyT b n (RT b n v t) j a) → V' 73 (3 - (j : Int)) = 0 → low (3 - (j : Int)) V V' → tyAt d mc ms X Q t f (rTerm b n j a).2 V') → tyAt d mc ms X Q t f a V
theorem tyM_no {b : Int → Int} {n : Int} {tT : Int → Int} {pT : Int → Bool × Int} {l a : Int} (m : Nat) (h : ¬ isOp (tK b n a)) : tyM b n tT pT m l a = l := by
  cases m with
  | zero => rfl
  | succ m => exact if_neg h
theorem tyM_s {b : Int → Int} {n : Int} {tT : Int → Int} {pT : Int → Bool × Int} {l a : Int} (m : Nat) (h : isOp (tK b n a)) : tyM b n tT pT (m + 1) l a = tyM b n tT pT m (opT (tK b n a) l (tT (a + 1))) (pT (a + 1)).2 := if_pos h
theorem erM_no {b : Int → Int} {n : Int} {tT : Int → Int} {pT : Int → Bool × Int} {eT : Int → Int → Prop} {l a p : Int} (m : Nat) (h : ¬ isOp (tK b n a)) : ¬ erM b n tT pT eT m l a p := by
  cases m with
  | zero => exact fun z => z
  | succ m => exact fun z => h z.1
theorem rfM_no {b : Int → Int} {n : Int} {pT : Int → Bool × Int} {rT : Int → Int → Prop} {a p : Int} (m : Nat) (h : ¬ isOp (tK b n a)) : ¬ rfM b n pT rT m a p := by
  cases m with
  | zero => exact fun z => z
  | succ m => exact fun z => h z.1
theorem NMe_no {b : Int → Int} {n : Int} {v : VV} {t : Int} {j : Nat} {l a k p : Int} (m : Nat) (h : ¬ isOp (tK b n a)) : ¬ NMe b n v t j m l a k p := fun z => z.elim (fun y => erM_no m h y.2) (fun ⟨_, r, y, _⟩ => rfM_no m h y)
theorem low.rf {D : Int} {A : VV} : low D A A := ⟨fun _ _ => ⟨rfl, rfl, rfl⟩, fun _ _ => ⟨rfl, rfl⟩⟩
set_option maxRecDepth 100000 in
set_option maxHeartbeats 4000000 in
theorem l_tyM {X : XX} {v : VV} {Q : QQ} {d mc ms : Nat} {b : Int → Int} {n t f A a0 : Int} {N0 : Int → Int → Prop} (hW : SW X) (hd : 3 ≤ d) (hH : TYH b n t A v) (hf : 0 ≤ f ∧ f < 8) (hE : v 66 (8 * t + f) ≤ A) (h0 : 0 ≤ a0) (j : Nat) (hj : j ≤ 3) (hJ : TyJ X v Q d mc ms b n t f a0 N0 j) : ∀ (m : Nat) (a : Int) (V : VV) (M : Int → Int → Prop) (l : Int), V 72 (3 - (j : Int)) = l → V 73 (3 - (j : Int)) = 0 → (rMore b n (rTerm b n j) m a).1 = true → a0 ≤ a → (rMore b n (rTerm b n j) m a).2 ≤ v 66 (8 * t + f) → TA v N0 M (2 * (a - a0)) V → V 47 51 = 3 - (j : Int) → (∀ V', TA v N0 (fun k p => M k p ∨ NMe b n v t j m l a k p) (2 * ((rMore b n (rTerm b n j) m a).2 - a0)) V' → V' 47 51 = 3 - (j : Int) → V' 72 (3 - (j : Int)) = tyM b n (tyT b n (RT b n v t) j) (rTerm b n j) m l a → V' 73 (3 - (j : Int)) = 0 → low (3 - (j : Int)) V V' → tyAt d mc ms X Q t f (rMore b n (rTerm b n j) m a).2 V') → tyAt d mc ms X Q t f a V := by
  intro m
  induction m with
  | zero =>
    intro a V M l h72 h73 hr h0a hle hA hD cont
    by_cases ho : isOp (tK b n a)
    · rw [rMore_0 ho] at hr; exact Bool.noConfusion hr
    · rw [rMore_no 0 ho, tyM_no 0 ho] at cont
      exact cont V (hA.cg (fun k p => ⟨Or.inl, fun q => q.elim id (fun z => absurd z (NMe_no 0 ho))⟩) (Int.le_refl _)) hD h72 h73 low.rf
  | succ m ih =>
    intro a V M l h72 h73 hr h0a hle hA hD cont
    by_cases ho : isOp (tK b n a)
    rotate_left
    · rw [rMore_no _ ho, tyM_no _ ho] at cont
      exact cont V (hA.cg (fun k p => ⟨Or.inl, fun q => q.elim id (fun z => absurd z (NMe_no _ ho))⟩) (Int.le_refl _)) hD h72 h73 low.rf
    rw [rMore_s m ho] at hr hle cont
    obtain ⟨hr1, e1⟩ := rThen_true hr
    rw [e1] at hr hle cont
    have hlt := rTerm_lt j _ hr1
    have hle2 := rMore_le (pT := rTerm b n j) (fun a => rTerm_lt j a) m _ hr
    have hHV := hH.fr hA.1
    obtain ⟨hK, h54, h55, h51, hMW⟩ := id hHV
    obtain ⟨k1, k2, k3, k4, k5⟩ := id hK
    have hp := tS_bd b k3.1.1 a
    have e66 : V 66 (8 * t + f) = v 66 (8 * t + f) := hA.1 66 _ (by unfold TYs; omega)
    obtain ⟨t1, t2, -⟩ := k1 a (by omega) (by omega)
    have hop := (now_op (b := b) hp.2).mpr ho
    have hKn : lNow b n (tS b n a) = tK b n a := by
      rcases ho with q | q | q
      · rw [q]; exact ((now_sign (b := b) hp.2 (s := 43) (by unfold sgB; omega)).1).mpr q
      · rw [q]; exact ((now_sign (b := b) hp.2 (s := 45) (by unfold sgB; omega)).1).mpr q
      · rw [q]; exact ((now_sign (b := b) hp.2 (s := 38) (by unfold sgB; omega)).1).mpr q
    have l202 : Ex mX11_typeOf d 202 [(2, 47), (0, t), (0, f), (0, a), (0, 400 * t + a), (3, 0), (3, 0)] [] X V mc ms Q := by
      refine bX11_typeOf_202 t f a _ hd hW (fun _ _ _ _ => ?_)
      rw [t1, t2, hD, hKn]
      refine ⟨⟨by omega, by omega⟩, fun _ => ⟨⟨by omega, by omega⟩, fun _ => ⟨⟨by omega, by omega⟩, ⟨by omega, by omega⟩, ⟨by omega, by omega⟩, ⟨by omega, by omega⟩, ⟨by omega, by omega⟩, ?_⟩, fun g => by rw [hKn] at hop; omega⟩, fun g => by rw [hKn] at hop; omega⟩
      have u1 : TA v N0 M (2 * (a - a0)) (upd2 (upd2 V 73 (3 - (j : Int)) (tK b n a)) 74 (3 - (j : Int)) (tS b n a)) := (hA.cell (by unfold TYs; omega) (by omega)).cell (by unfold TYs; omega) (by omega)
      have u2 : upd2 (upd2 V 73 (3 - (j : Int)) (tK b n a)) 74 (3 - (j : Int)) (tS b n a) 47 51 = 3 - (j : Int) := by rw [upd2_n _ (by omega), upd2_n _ (by omega)]; exact hD
      have u3 : upd2 (upd2 V 73 (3 - (j : Int)) (tK b n a)) 74 (3 - (j : Int)) (tS b n a) 72 (3 - (j : Int)) = l := by rw [upd2_n _ (by omega), upd2_n _ (by omega)]; exact h72
      have u4 : upd2 (upd2 V 73 (3 - (j : Int)) (tK b n a)) 74 (3 - (j : Int)) (tS b n a) 73 (3 - (j : Int)) = tK b n a := by rw [upd2_n _ (by omega), upd2_s]
      have u5 : upd2 (upd2 V 73 (3 - (j : Int)) (tK b n a)) 74 (3 - (j : Int)) (tS b n a) 74 (3 - (j : Int)) = tS b n a := upd2_s _ _ _ _
      have u6 : low (3 - (j : Int)) V (upd2 (upd2 V 73 (3 - (j : Int)) (tK b n a)) 74 (3 - (j : Int)) (tS b n a)) := ⟨fun i hi => ⟨by rw [upd2_n _ (by omega), upd2_n _ (by omega)], by rw [upd2_n _ (by omega), upd2_n _ (by omega)], by rw [upd2_n _ (by omega), upd2_n _ (by omega)]⟩, fun i hi => ⟨by rw [upd2_n _ (by omega), upd2_n _ (by omega)], by rw [upd2_n _ (by omega), upd2_n _ (by omega)]⟩⟩
      generalize upd2 (upd2 V 73 (3 - (j : Int)) (tK b n a)) 74 (3 - (j : Int)) (tS b n a) = u at *
      have hK0 : ¬ tK b n a = 0 := by rw [hKn] at hop; omega
      refine hJ (a + 1) u M hr1 (by omega) (by omega) (u1.cg (fun _ _ => Iff.rfl) (by omega)) u2 (fun V2 y1 y2 y3 y4 y5 => ?_)
      have e72 : cmR u (3 - (j : Int)) (tyT b n (RT b n v t) j (a + 1)) = opT (tK b n a) l (tyT b n (RT b n v t) j (a + 1)) := by unfold cmR; rw [u4, u3, if_neg hK0]
      rw [e72] at y3
      refine ih _ V2 _ _ y3 y4 hr (by omega) hle y1 y2 (fun V3 x1 x2 x3 x4 x5 => cont V3 (x1.cg (fun k p => ?_) (Int.le_refl _)) x2 (by rw [x3, tyM_s m ho]) x4 ((u6.tr y5).tr x5))
      unfold NOp NMe NTe
      rw [u4, u3, u5]
      constructor
      · intro q
        rcases q with ((q | q | q) | q) | q | q
        · exact Or.inl q
        · exact Or.inr (Or.inl ⟨q.1, ho, Or.inl q.2⟩)
        · obtain ⟨q1, r, q2, q3⟩ := q
          exact Or.inr (Or.inr ⟨q1, r, ⟨ho, Or.inl q2⟩, q3⟩)
        · exact Or.inr (Or.inl ⟨q.1, ho, Or.inr (Or.inl q.2.2)⟩)
        · exact Or.inr (Or.inl ⟨q.1, ho, Or.inr (Or.inr q.2)⟩)
        · obtain ⟨q1, r, q2, q3⟩ := q
          exact Or.inr (Or.inr ⟨q1, r, ⟨ho, Or.inr q2⟩, q3⟩)
      · intro q
        rcases q with q | q | q
        · exact Or.inl (Or.inl (Or.inl q))
        · obtain ⟨q1, -, q2 | q2 | q2⟩ := q
          · exact Or.inl (Or.inl (Or.inr (Or.inl ⟨q1, q2⟩)))
          · exact Or.inl (Or.inr ⟨q1, hK0, q2⟩)
          · exact Or.inr (Or.inl ⟨q1, q2⟩)
        · obtain ⟨q1, r, ⟨-, q2 | q2⟩, q3⟩ := q
          · exact Or.inl (Or.inl (Or.inr (Or.inr ⟨q1, r, q2, q3⟩)))
          · exact Or.inr (Or.inr ⟨q1, r, q2, q3⟩)
    refine bX11_typeOf_31 t f a hd hW (fun _ _ _ => ?_)
    rw [e66, t1]
    exact ⟨⟨by omega, by omega⟩, fun _ => ⟨by omega, by omega⟩, ⟨by omega, by omega⟩, fun g => by omega, fun _ => ⟨⟨by omega, by omega⟩, fun _ => ⟨by omega, by omega⟩, ⟨by omega, by omega⟩, fun g2 => ⟨⟨by omega, by omega⟩, fun g3 => ⟨⟨by omega, by omega⟩, fun g4 => l202, fun g4 => by omega⟩, fun g3 => by omega⟩, fun g2 => by omega⟩⟩
set_option maxRecDepth 100000 in
set_option maxHeartbeats 4000000 in
theorem l_tyJ {X : XX} {v : VV} {Q : QQ} {d mc ms : Nat} {b : Int → Int} {n t f A a0 : Int} {N0 : Int → Int → Prop} (hW : SW X) (hd : 3 ≤ d) (hH : TYH b n t A v) (hf : 0 ≤ f ∧ f < 8) (hE : v 66 (8 * t + f) ≤ A) (he : 0 ≤ v 47 50 ∧ v 47 50 ≤ 1900000000) (h0 : 0 ≤ a0) : ∀ j : Nat, j ≤ 3 → TyJ X v Q d mc ms b n t f a0 N0 j := by
  intro j
  induction j with
  | zero =>
    intro _ a V M hr h0a hle hA hD cont
    by_cases hy : tK b n a = 266 ∨ tK b n a = 267
    · rw [show rTerm b n 0 a = (false, tS b n (a + 1)) from if_pos hy] at hr; exact Bool.noConfusion hr
    · rw [rTerm_leaf 0 hy] at hr hle cont
      refine l_tyLeaf hW hd hH hf hE he a hr ⟨h0, h0a⟩ hle hA hD ⟨by omega, by omega⟩ (fun V' y1 y2 y3 y4 y5 => cont V' (y1.cg (fun k p => ?_) (Int.le_refl _)) y2 y3 y4 y5)
      refine ⟨fun q => q.imp (fun z => z.imp id (fun y => Or.inr ⟨y.1, a, ⟨y.2.1, rfl⟩, y.2.2⟩)) id, fun q => q.imp (fun z => z.imp id (fun y => ?_)) id⟩
      rcases y with ⟨-, y⟩ | ⟨z1, r, ⟨z2, z3⟩, z4⟩
      · exact absurd y (fun z => z)
      · subst z3; exact ⟨z1, z2, z4⟩
  | succ j ih =>
    intro hj a V M hr h0a hle hA hD cont
    by_cases hy : tK b n a = 266 ∨ tK b n a = 267
    rotate_left
    · rw [rTerm_leaf _ hy] at hr hle cont
      have ety : tyT b n (RT b n v t) (j + 1) a = tyL b n (RT b n v t) a := by
        show (if tK b n a = 266 then 110 else if tK b n a = 267 then 116 else tyL b n (RT b n v t) a) = _
        rw [if_neg (fun z => hy (Or.inl z)), if_neg (fun z => hy (Or.inr z))]
      rw [ety] at cont
      refine l_tyLeaf hW hd hH hf hE he a hr ⟨h0, h0a⟩ hle hA hD ⟨by omega, by omega⟩ (fun V' y1 y2 y3 y4 y5 => cont V' (y1.cg (fun k p => ?_) (Int.le_refl _)) y2 y3 y4 y5)
      refine ⟨fun q => q.imp (fun z => z.imp id (fun y => Or.inr ⟨y.1, a, Or.inl ⟨y.2.1, rfl⟩, y.2.2⟩)) id, fun q => q.imp (fun z => z.imp id (fun y => ?_)) id⟩
      rcases y with ⟨-, y⟩ | ⟨z1, r, z2 | z2, z4⟩
      · exact absurd y.1 hy
      · obtain ⟨z2, z3⟩ := z2; subst z3; exact ⟨z1, z2, z4⟩
      · exact absurd z2.1 hy
    obtain ⟨c1, c2, c3, c4, c5⟩ := rTerm_call hy hr
    have hlt := rTerm_lt j _ c2
    have hle2 := rMore_le (pT := rTerm b n j) (fun a => rTerm_lt j a) 5 _ c3
    rw [c5] at hle cont
    have hHV := hH.fr hA.1
    obtain ⟨hK, h54, h55, h51, hMW⟩ := id hHV
    obtain ⟨k1, k2, k3, k4, k5⟩ := id hK
    have hp := tS_bd b k3.1.1 a
    have hp1 := tS_bd b k3.1.1 (a + 1)
    have e66 : V 66 (8 * t + f) = v 66 (8 * t + f) := hA.1 66 _ (by unfold TYs; omega)
    obtain ⟨t1, t2, -⟩ := k1 a (by omega) (by omega)
    obtain ⟨t3, -, -⟩ := k1 (a + 1) (by omega) (by omega)
    have n1 : lNow b n (tS b n a) = 1 := k256_now hp.2 hp.1 k3 (Or.inr hy)
    have n40 : lNow b n (tS b n (a + 1)) = 40 := ((now_sign (b := b) hp1.2 (s := 40) (by unfold sgB; omega)).1).mpr c1
    have hw8 : tL b n a ≤ 8 ∧ (tW b n a = 8897 ↔ tK b n a = 266) := by
      have hKe : tK b n a = tKind b n (tS b n a) := rfl
      have hLe : tL b n a = tEnd b n (tS b n a) - tS b n a := rfl
      have hWe : tW b n a = lWord b n (tS b n a) := rfl
      rcases tcase b hp.2 with q | q | q | q | q
      · have := q.2.1; omega
      · obtain ⟨q1, q2, q3, q4, q5, q6⟩ := q
        have := wKind_cases (lWord b n (tS b n a)); omega
      · have := q.2.2.1; omega
      · have := q.2.2.1; omega
      · have := q.2.2.1; have := q.2.1; omega
    -- the value of the call
    have ety : tyT b n (RT b n v t) (j + 1) a = if tK b n a = 266 then 110 else 116 := by
      show (if tK b n a = 266 then 110 else if tK b n a = 267 then 116 else tyL b n (RT b n v t) a) = _
      by_cases h : tK b n a = 266
      · rw [if_pos h, if_pos h]
      · rw [if_neg h, if_neg h, if_pos (by omega)]
    have eD1 : 3 - ((j + 1 : Nat) : Int) + 1 = 3 - (j : Int) := by omega
    -- behind the bracket
    have inner : ∀ (want : Int) (u : VV), want = (if tK b n a = 266 then 116 else 110) → TA v N0 M (2 * (a - a0)) u → u 47 51 = 3 - (j : Int) → u 72 (3 - (j : Int)) = 0 → u 73 (3 - (j : Int)) = 0 → u 75 (3 - (j : Int)) = want → u 76 (3 - (j : Int)) = tS b n a → (∀ r i, ¬ (r = 47 ∧ i = 51) → ¬ i = 3 - (j : Int) → u r i = V r i) → tyAt d mc ms X Q t f (a + 2) u := fun want u hwant u1 u2 u3 u4 u5 u6 u7 => by
      refine ih (by omega) (a + 2) u M c2 (by omega) (by omega) (u1.cg (fun _ _ => Iff.rfl) (by omega)) u2 (fun V2 y1 y2 y3 y4 y5 => ?_)
      have e72 : cmR u (3 - (j : Int)) (tyT b n (RT b n v t) j (a + 2)) = tyT b n (RT b n v t) j (a + 2) := by unfold cmR; rw [u4, if_pos rfl]
      rw [e72] at y3
      refine l_tyM hW hd hH hf hE h0 j (by omega) (ih (by omega)) 5 _ V2 _ _ y3 y4 c3 (by omega) (by omega) y1 y2 (fun V3 x1 x2 x3 x4 x5 => ?_)
      have eg : tyM b n (tyT b n (RT b n v t) j) (rTerm b n j) 5 (tyT b n (RT b n v t) j (a + 2)) (rTerm b n j (a + 2)).2 = tyF b n (RT b n v t) j (a + 2) := rfl
      rw [eg] at x3
      obtain ⟨z, hz⟩ : ∃ z, z = (rMore b n (rTerm b n j) 5 (rTerm b n j (a + 2)).2).2 := ⟨_, rfl⟩
      rw [← hz] at hle c4 x1 hle2 cont ⊢
      have x75 : V3 75 (3 - (j : Int)) = want := by rw [(x5.2 _ (Int.le_refl _)).1, (y5.2 _ (Int.le_refl _)).1]; exact u5
      have x76 : V3 76 (3 - (j : Int)) = tS b n a := by rw [(x5.2 _ (Int.le_refl _)).2, (y5.2 _ (Int.le_refl _)).2]; exact u6
      have lowV : low (3 - ((j + 1 : Nat) : Int)) V V3 := by
        refine ⟨fun i hi => ⟨?_, ?_, ?_⟩, fun i hi => ⟨?_, ?_⟩⟩
        · rw [(x5.1 i (by omega)).1, (y5.1 i (by omega)).1]; exact u7 _ _ (by omega) (by omega)
        · rw [(x5.1 i (by omega)).2.1, (y5.1 i (by omega)).2.1]; exact u7 _ _ (by omega) (by omega)
        · rw [(x5.1 i (by omega)).2.2, (y5.1 i (by omega)).2.2]; exact u7 _ _ (by omega) (by omega)
        · rw [(x5.2 i (by omega)).1, (y5.2 i (by omega)).1]; exact u7 _ _ (by omega) (by omega)
        · rw [(x5.2 i (by omega)).2, (y5.2 i (by omega)).2]; exact u7 _ _ (by omega) (by omega)
      have vD : V3 72 (3 - ((j + 1 : Nat) : Int)) = V 72 (3 - ((j + 1 : Nat) : Int)) ∧ V3 73 (3 - ((j + 1 : Nat) : Int)) = V 73 (3 - ((j + 1 : Nat) : Int)) ∧ V3 74 (3 - ((j + 1 : Nat) : Int)) = V 74 (3 - ((j + 1 : Nat) : Int)) := by
        refine ⟨?_, ?_, ?_⟩
        · rw [(x5.1 _ (by omega)).1, (y5.1 _ (by omega)).1]; exact u7 _ _ (by omega) (by omega)
        · rw [(x5.1 _ (by omega)).2.1, (y5.1 _ (by omega)).2.1]; exact u7 _ _ (by omega) (by omega)
        · rw [(x5.1 _ (by omega)).2.2, (y5.1 _ (by omega)).2.2]; exact u7 _ _ (by omega) (by omega)
      -- the bracket's note
      obtain ⟨M3, hM3⟩ : ∃ M3 : Int → Int → Prop, M3 = fun k p => (((M k p ∨ NTe b n v t j (a + 2) k p) ∨ NOp u (3 - (j : Int)) (tyT b n (RT b n v t) j (a + 2)) k p) ∨ NMe b n v t j 5 (tyT b n (RT b n v t) j (a + 2)) (rTerm b n j (a + 2)).2 k p) := ⟨_, rfl⟩
      rw [← hM3] at x1
      obtain ⟨g, hg⟩ : ∃ g, g = tyF b n (RT b n v t) j (a + 2) := ⟨_, rfl⟩
      rw [← hg] at x3
      have hMall : ∀ k p, (M3 k p ∨ (k = 3 ∧ ¬ g = 0 ∧ ¬ g = want ∧ p = tS b n a)) ↔ (M k p ∨ NTe b n v t (j + 1) a k p) := by
        intro k p
        rw [hM3, hwant, hg]
        unfold NMe NTe NOp
        constructor
        · intro q
          rcases q with ((((q | q | q) | q) | q | q)) | q
          · exact Or.inl q
          · exact Or.inr (Or.inl ⟨q.1, hy, Or.inl (Or.inl q.2)⟩)
          · obtain ⟨q1, r, q2, q3⟩ := q
            exact Or.inr (Or.inr ⟨q1, r, Or.inr ⟨hy, Or.inl q2⟩, q3⟩)
          · exact absurd u4 q.2.1
          · exact Or.inr (Or.inl ⟨q.1, hy, Or.inl (Or.inr q.2)⟩)
          · obtain ⟨q1, r, q2, q3⟩ := q
            exact Or.inr (Or.inr ⟨q1, r, Or.inr ⟨hy, Or.inr q2⟩, q3⟩)
          · exact Or.inr (Or.inl ⟨q.1, hy, Or.inr q.2⟩)
        · intro q
          rcases q with q | q | q
          · exact Or.inl (Or.inl (Or.inl (Or.inl q)))
          · obtain ⟨q1, -, (q2 | q2) | q2⟩ := q
            · exact Or.inl (Or.inl (Or.inl (Or.inr (Or.inl ⟨q1, q2⟩))))
            · exact Or.inl (Or.inr (Or.inl ⟨q1, q2⟩))
            · exact Or.inr ⟨q1, q2⟩
          · obtain ⟨q1, r, q2 | ⟨-, q2 | q2⟩, q3⟩ := q
            · omega
            · exact Or.inl (Or.inl (Or.inl (Or.inr (Or.inr ⟨q1, r, q2, q3⟩))))
            · exact Or.inl (Or.inr (Or.inr ⟨q1, r, q2, q3⟩))
      have l288 : ∀ (W : VV), TA v N0 (fun k p => M k p ∨ NTe b n v t (j + 1) a k p) (2 * (z - a0) + 1) W → W 47 51 = 3 - (j : Int) → (∀ r i, ¬ (r = 47 ∧ (i = 25 ∨ i = 26 ∨ i = 50)) → W r i = V3 r i) → Ex mX11_typeOf d 288 [(2, 47), (0, t), (0, f), (0, z), (0, 400 * t + z), (0, g), (0, want)] [] X W mc ms Q := fun W w1 w2 w3 => by
        have hwe := w1.2.2.2.1
        refine bX11_typeOf_288 t f z _ g want hd hW (fun _ _ _ _ _ _ => ?_)
        rw [w2]
        have eDm : 3 - (j : Int) - 1 = 3 - ((j + 1 : Nat) : Int) := by omega
        rw [eDm]
        have s1 : TA v N0 (fun k p => M k p ∨ NTe b n v t (j + 1) a k p) (2 * (z - a0) + 1) (upd2 W 47 51 (3 - ((j + 1 : Nat) : Int))) := w1.cell (by unfold TYs; omega) (by omega)
        have s2 : upd2 W 47 51 (3 - ((j + 1 : Nat) : Int)) 47 51 = 3 - ((j + 1 : Nat) : Int) := upd2_s _ _ _ _
        have s3 : ∀ r i, ¬ r = 47 → upd2 W 47 51 (3 - ((j + 1 : Nat) : Int)) r i = V3 r i := fun r i h => by rw [upd2_n _ (by omega)]; exact w3 _ _ (by omega)
        have s4 : upd2 W 47 51 (3 - ((j + 1 : Nat) : Int)) 47 50 = W 47 50 := upd2_n _ (by omega)
        generalize upd2 W 47 51 (3 - ((j + 1 : Nat) : Int)) = s at *
        have fin : ∀ ty, ty = tyT b n (RT b n v t) (j + 1) a → tyAt d mc ms X Q t f (z + 1) (cmV s ty) := fun ty hty => by
          subst hty
          refine tyCome s1 s2 _ (y := 2 * (z + 1 - a0)) (by omega) (fun V' o1 o2 o3 o4 o5 => cont V' (o1.cg (fun k p => ?_) (Int.le_refl _)) o2 (o3.trans ?_) o4 ((lowV.tr ⟨fun i hi => ⟨s3 _ _ (by omega), s3 _ _ (by omega), s3 _ _ (by omega)⟩, fun i hi => ⟨s3 _ _ (by omega), s3 _ _ (by omega)⟩⟩).tr o5))
          · unfold NOp
            rw [s3 73 _ (by omega), s3 72 _ (by omega), s3 74 _ (by omega), vD.1, vD.2.1, vD.2.2]
          · unfold cmR
            rw [s3 73 _ (by omega), s3 72 _ (by omega), vD.1, vD.2.1]
        refine ⟨fun _ => ⟨by omega, by omega⟩, fun g1 => ⟨_, c_comes hW (by rw [s2]; omega) (by omega) _, fun w28 hP => ⟨⟨by omega, by omega⟩, ?_⟩⟩, fun g1 => ⟨_, c_comes hW (by rw [s2]; omega) (by omega) _, fun w28 hP => ⟨⟨by omega, by omega⟩, ?_⟩⟩⟩
        · have e : w28 = cmV s 116 := hP
          rw [e]
          refine fin 116 ?_
          rw [ety, if_neg (fun h => by rw [hwant, if_pos h] at g1; exact g1 rfl)]
        · have e : w28 = cmV s 110 := hP
          rw [e]
          refine fin 110 ?_
          rw [ety, if_pos (by
            by_cases h : tK b n a = 266
            · exact h
            · rw [hwant, if_neg h] at g1; omega)]
      have hpz := tS_bd b k3.1.1 z
      have n41 : lNow b n (tS b n z) = 41 := ((now_sign (b := b) hpz.2 (s := 41) (by unfold sgB; omega)).1).mpr c4
      have hK3 := (hH.fr x1.1).1
      obtain ⟨t9, -, -⟩ := hK3.1 z (by omega) (by omega)
      have e66' : V3 66 (8 * t + f) = v 66 (8 * t + f) := x1.1 66 _ (by unfold TYs; omega)
      refine bX11_typeOf_31 t f z hd hW (fun _ _ _ => ?_)
      rw [e66', t9]
      refine ⟨⟨by omega, by omega⟩, fun _ => ⟨by omega, by omega⟩, ⟨by omega, by omega⟩, fun g => by omega, fun _ => ⟨⟨by omega, by omega⟩, fun _ => ⟨by omega, by omega⟩, ⟨by omega, by omega⟩, fun g2 => ⟨⟨by omega, by omega⟩, fun g3 => ⟨⟨by omega, by omega⟩, fun g4 => ?_, fun g4 => by omega⟩, fun g3 => by omega⟩, fun g2 => by omega⟩⟩
      refine bX11_typeOf_202 t f z _ hd hW (fun _ _ _ _ => ?_)
      rw [t9, x2, x3, x75, x76]
      have quiet : (g = 0 ∨ g = want) → Ex mX11_typeOf d 288 [(2, 47), (0, t), (0, f), (0, z), (0, 400 * t + z), (0, g), (0, want)] [] X V3 mc ms Q := fun h => l288 V3 (x1.cg (fun k p => by
          rw [← hMall k p]
          exact ⟨Or.inl, fun q => q.elim id (fun y => by rcases h with h | h; exact absurd h y.2.1; exact absurd h y.2.2.1)⟩) (by omega)) x2 (fun _ _ _ => rfl)
      refine ⟨⟨by omega, by omega⟩, fun g5 => ⟨⟨by omega, by omega⟩, fun g6 => absurd n41 g6, fun g6 => ⟨⟨by omega, by omega⟩, ⟨by omega, by omega⟩, fun g7 => quiet (Or.inl g7), fun g7 => ⟨fun g8 => quiet (Or.inr g8), fun g8 => ⟨⟨by omega, by omega⟩, _, c_wrong hW (by have := x1.2.2.2.1; omega) _, fun w16 hP => ?_⟩⟩⟩⟩, fun g5 => by omega⟩
      have e16 : w16 = wrV V3 (tS b n a) := hP
      rw [e16]
      refine l288 _ (x1.wrong.cg (fun k p => ?_) (by omega)) (by rw [wrV_n (by omega)]; exact x2) (fun r i h => wrV_n h)
      rw [← hMall k p]
      exact ⟨fun q => q.imp id (fun y => ⟨y.1, g7, g8, y.2⟩), fun q => q.imp id (fun y => ⟨y.1, y.2.2.2⟩)⟩
    refine bX11_typeOf_31 t f a hd hW (fun _ _ _ => ?_)
    rw [e66, t1]
    refine ⟨⟨by omega, by omega⟩, fun _ => ⟨by omega, by omega⟩, ⟨by omega, by omega⟩, fun g => by omega, fun _ => ⟨⟨by omega, by omega⟩, fun _ => ⟨by omega, by omega⟩, ⟨by omega, by omega⟩, fun g2 => ⟨⟨by omega, by omega⟩, fun g3 => ⟨⟨by omega, by omega⟩, fun g4 => absurd n1 g4, fun g4 => ⟨fun _ => ⟨by omega, by omega⟩, ⟨by omega, by omega⟩, ?_⟩⟩, fun g3 => by omega⟩, fun g2 => by omega⟩⟩
    rw [show 400 * t + a + 1 = 400 * t + (a + 1) by omega, t3, n40, hD, eD1]
    refine ⟨fun g => absurd rfl g, fun _ => ⟨fun _ => ⟨by omega, by omega⟩, ⟨by omega, by omega⟩, ⟨by omega, by omega⟩, ?_⟩⟩
    have u1 : TA v N0 M (2 * (a - a0)) (upd2 (upd2 (upd2 V 47 51 (3 - (j : Int))) 72 (3 - (j : Int)) 0) 73 (3 - (j : Int)) 0) := ((hA.cell (by unfold TYs; omega) (by omega)).cell (by unfold TYs; omega) (by omega)).cell (by unfold TYs; omega) (by omega)
    have u2 : upd2 (upd2 (upd2 V 47 51 (3 - (j : Int))) 72 (3 - (j : Int)) 0) 73 (3 - (j : Int)) 0 47 51 = 3 - (j : Int) := by rw [upd2_n _ (by omega), upd2_n _ (by omega), upd2_s]
    have u3 : upd2 (upd2 (upd2 V 47 51 (3 - (j : Int))) 72 (3 - (j : Int)) 0) 73 (3 - (j : Int)) 0 72 (3 - (j : Int)) = 0 := by rw [upd2_n _ (by omega), upd2_s]
    have u4 : upd2 (upd2 (upd2 V 47 51 (3 - (j : Int))) 72 (3 - (j : Int)) 0) 73 (3 - (j : Int)) 0 73 (3 - (j : Int)) = 0 := upd2_s _ _ _ _
    have u7 : ∀ r i, ¬ (r = 47 ∧ i = 51) → ¬ i = 3 - (j : Int) → upd2 (upd2 (upd2 V 47 51 (3 - (j : Int))) 72 (3 - (j : Int)) 0) 73 (3 - (j : Int)) 0 r i = V r i := fun r i h1 h2 => by rw [upd2_n _ (by omega), upd2_n _ (by omega), upd2_n _ (by omega)]
    generalize upd2 (upd2 (upd2 V 47 51 (3 - (j : Int))) 72 (3 - (j : Int)) 0) 73 (3 - (j : Int)) 0 = u at *
    have hKu := (hH.fr u1.1).1
    refine ⟨_, c_wordOf hW hKu ⟨by omega, by omega⟩ n1 hw8.1, fun r2 w3 hP => ?_⟩
    obtain ⟨rfl, hr2⟩ := hP
    obtain rfl : r2 = tW b n a := by simpa using hr2
    have e38 : w3 47 38 = 8897 := (hH.fr u1.1).2.2.2.2.2.2.2.2.2.1
    have e62 : w3 62 (400 * t + a) = tS b n a := (hKu.1 a (by omega) (by omega)).2.1
    rw [e38, e62, u2]
    have go : ∀ want, want = (if tK b n a = 266 then 116 else 110) → tyAt d mc ms X Q t f (a + 1 + 1) (upd2 (upd2 w3 75 (3 - (j : Int)) want) 76 (3 - (j : Int)) (tS b n a)) := fun want hwant => by
      rw [show a + 1 + 1 = a + 2 by omega]
      refine inner want _ hwant ((u1.cell (by unfold TYs; omega) (by omega)).cell (by unfold TYs; omega) (by omega)) ?_ ?_ ?_ ?_ ?_ (fun r i h1 h2 => ?_)
      · rw [upd2_n _ (by omega), upd2_n _ (by omega)]; exact u2
      · rw [upd2_n _ (by omega), upd2_n _ (by omega)]; exact u3
      · rw [upd2_n _ (by omega), upd2_n _ (by omega)]; exact u4
      · rw [upd2_n _ (by omega), upd2_s]
      · rw [upd2_s]
      · rw [upd2_n _ (by omega), upd2_n _ (by omega)]; exact u7 r i h1 h2
    refine ⟨fun g5 => ⟨⟨by omega, by omega⟩, ⟨by omega, by omega⟩, ⟨by omega, by omega⟩, ⟨by omega, by omega⟩, ⟨by omega, by omega⟩, go 110 ?_⟩, fun g5 => ⟨⟨by omega, by omega⟩, ⟨by omega, by omega⟩, ⟨by omega, by omega⟩, ⟨by omega, by omega⟩, ⟨by omega, by omega⟩, go 116 ?_⟩⟩
    · rw [if_neg (fun h => g5 (hw8.2.mpr h))]
    · rw [if_pos (hw8.2.mp g5)]
def NFe (b : Int → Int) (n : Int) (v : VV) (t a k p : Int) : Prop := (k = 3 ∧ erF b n (RT b n v t) 3 a p) ∨ (k = 2 ∧ ∃ r, rfF b n 3 a r ∧ miss b n v t r p)
theorem TA.zero {v : VV} {N0 : Int → Int → Prop} (h : ¬ v 47 52 = 0 → FM N0 v) : TA v N0 (fun _ _ => False) 0 v := ⟨Fr.rf, fun z => (h z).cg (fun k p => ⟨Or.inl, fun q => q.elim id (fun y => y.elim)⟩), fun _ => ⟨rfl, rfl⟩, ⟨Int.le_refl _, by omega⟩, ⟨fun _ _ z => z, fun _ => rfl⟩⟩
theorem rForm_t {b : Int → Int} {n : Int} {j : Nat} {a : Int} (h : (rForm b n j a).1 = true) : (rTerm b n j a).1 = true ∧ (rMore b n (rTerm b n j) 5 (rTerm b n j a).2).1 = true ∧ rForm b n j a = rMore b n (rTerm b n j) 5 (rTerm b n j a).2 := by
  unfold rForm at h ⊢
  obtain ⟨h1, e⟩ := rThen_true h
  rw [e] at h ⊢
  exact ⟨h1, h, rfl⟩
set_option maxRecDepth 100000 in
set_option maxHeartbeats 4000000 in
theorem c_typeOf {X : XX} {v : VV} {b : Int → Int} {n t f A a : Int} (N0 : Int → Int → Prop) (hW : SW X) (hH : TYH b n t A v) (hf : 0 ≤ f ∧ f < 8) (ha : 0 ≤ a) (h65 : v 65 (8 * t + f) = a) (hr : (rForm b n 3 a).1 = true) (h66 : v 66 (8 * t + f) = (rForm b n 3 a).2) (hE : v 66 (8 * t + f) ≤ A) (he : 0 ≤ v 47 50 ∧ v 47 50 ≤ 1900000000) (hN : ¬ v 47 52 = 0 → FM N0 v) : CX mX11_typeOf 3 [(2, 47), (0, t), (0, f)] X v (fun o v1 => o = some (0, tyF b n (RT b n v t) 3 a) ∧ TA v N0 (NFe b n v t a) 1000 v1) := by
  have ht := hH.1.2.2.2.1
  have hA4 := hH.1.2.2.2.2
  refine CX.of (by decide +kernel) rfl rfl rfl (bX11_typeOf_0 t f (Nat.le_refl _) hW (fun _ _ => ⟨⟨by omega, by omega⟩, fun _ => ⟨by omega, by omega⟩, ⟨by omega, by omega⟩, ?_⟩))
  rw [h65]
  obtain ⟨r1, r2, r3⟩ := rForm_t hr
  rw [r3] at h66
  have hlt := rTerm_lt 3 _ r1
  have hle2 := rMore_le (pT := rTerm b n 3) (fun a => rTerm_lt 3 a) 5 _ r2
  have e0 : (3 : Int) - ((3 : Nat) : Int) = 0 := by decide
  have u1 : TA v N0 (fun _ _ => False) (2 * (a - a)) (upd2 (upd2 (upd2 v 47 51 0) 72 0 0) 73 0 0) := ((((TA.zero hN).cell (r := 47) (j := 51) (y := 0) (by unfold TYs; omega) (by omega)).cell (r := 72) (j := 0) (y := 0) (by unfold TYs; omega) (by omega)).cell (r := 73) (j := 0) (y := 0) (by unfold TYs; omega) (by omega)).cg (fun _ _ => Iff.rfl) (by omega)
  have u2 : upd2 (upd2 (upd2 v 47 51 0) 72 0 0) 73 0 0 47 51 = 0 := by rw [upd2_n _ (by omega), upd2_n _ (by omega), upd2_s]
  have u4 : upd2 (upd2 (upd2 v 47 51 0) 72 0 0) 73 0 0 73 0 = 0 := upd2_s _ _ _ _
  generalize upd2 (upd2 (upd2 v 47 51 0) 72 0 0) 73 0 0 = u at *
  have hJ := l_tyJ (X := X) (v := v) (Q := fun o X1 v1 => X1 = X ∧ (o = some (0, tyF b n (RT b n v t) 3 a) ∧ TA v N0 (NFe b n v t a) 1000 v1)) (d := 3) (mc := 0) (ms := 0) (a0 := a) (N0 := N0) hW (Nat.le_refl _) hH hf hE he ha 3 (Nat.le_refl _)
  have h := hJ a u _ r1 (Int.le_refl _) (by omega) u1 (by rw [e0]; exact u2) (fun V2 y1 y2 y3 y4 y5 => ?_)
  · exact h
  · have e72 : cmR u (3 - ((3 : Nat) : Int)) (tyT b n (RT b n v t) 3 a) = tyT b n (RT b n v t) 3 a := by unfold cmR; rw [e0, u4, if_pos rfl]
    rw [e72] at y3
    refine l_tyM hW (Nat.le_refl _) hH hf hE ha 3 (Nat.le_refl _) hJ 5 _ V2 _ _ y3 y4 r2 (by omega) (by omega) y1 y2 (fun V3 x1 x2 x3 x4 x5 => ?_)
    have eg : tyM b n (tyT b n (RT b n v t) 3) (rTerm b n 3) 5 (tyT b n (RT b n v t) 3 a) (rTerm b n 3 a).2 = tyF b n (RT b n v t) 3 a := rfl
    rw [eg, e0] at x3
    have e66' : V3 66 (8 * t + f) = v 66 (8 * t + f) := x1.1 66 _ (by unfold TYs; omega)
    refine bX11_typeOf_31 t f _ (Nat.le_refl _) hW (fun _ _ _ => ?_)
    rw [e66', x3]
    refine ⟨⟨by omega, by omega⟩, fun _ => ⟨by omega, by omega⟩, ⟨by omega, by omega⟩, fun _ => ⟨rfl, rfl, x1.cg (fun k p => ?_) (by omega)⟩, fun g => by omega⟩
    unfold NFe NTe NMe NOp
    rw [e0, u4]
    constructor
    · intro q
      rcases q with ((q | q | q) | q) | q | q
      · exact q.elim
      · exact Or.inl ⟨q.1, Or.inl q.2⟩
      · obtain ⟨q1, r, q2, q3⟩ := q
        exact Or.inr ⟨q1, r, Or.inl q2, q3⟩
      · exact absurd rfl q.2.1
      · exact Or.inl ⟨q.1, Or.inr q.2⟩
      · obtain ⟨q1, r, q2, q3⟩ := q
        exact Or.inr ⟨q1, r, Or.inr q2, q3⟩
    · intro q
      rcases q with ⟨q1, q2 | q2⟩ | ⟨q1, r, q2 | q2, q3⟩
      · exact Or.inl (Or.inl (Or.inr (Or.inl ⟨q1, q2⟩)))
      · exact Or.inr (Or.inl ⟨q1, q2⟩)
      · exact Or.inl (Or.inl (Or.inr (Or.inr ⟨q1, r, q2, q3⟩)))
      · exact Or.inr (Or.inr ⟨q1, r, q2, q3⟩)
