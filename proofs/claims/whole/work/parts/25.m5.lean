/-! ===== the reference: ask, drop, unused ===== -/
def pw2 (c : Int) : Int := 2 ^ c.toNat
theorem shl1 {c z : Int} (h0 : 0 ≤ c) (h1 : c ≤ 16) (h : Int32.ofInt 1 <<< (Int32.ofInt c &&& 31) = Int32.ofInt z) (hz : i32 z) : z = pw2 c := by
  have key : ∀ k : Nat, k < 17 → Int32.ofInt 1 <<< (Int32.ofInt (k : Int) &&& 31) = Int32.ofInt (2 ^ k) := by decide +kernel
  have hb : ∀ k : Nat, k < 17 → (2 : Int) ^ k < 2147483648 ∧ 0 ≤ (2 : Int) ^ k := by decide +kernel
  have e := key c.toNat (by omega)
  rw [Int.toNat_of_nonneg h0, h] at e
  have h9 := hb c.toNat (by omega)
  exact (i32_eq hz ⟨by omega, h9.1⟩).mp e
def askOK (v : VV) (u t b : Int) : Prop := (0 ≤ u ∧ u ≤ 9) ∧ isT v t ∧ (1 ≤ b ∧ b < pw2 (v 51 t)) ∧ ¬ v 47 59 = 40
def askV (v : VV) (u t b : Int) : VV := upd2 (upd2 (upd2 (upd2 (upd2 v 82 (v 47 59) u) 83 (v 47 59) t) 84 (v 47 59) b) 85 (v 47 59) (v 47 64)) 47 59 (v 47 59 + 1)
set_option maxRecDepth 100000 in
set_option maxHeartbeats 4000000 in
theorem c_ask {X : XX} {v : VV} (hW : SW X) (hb : MB v) (hM : MT v) (a1 a2 a3 : Int) : CX mX11_ask 1 [(2, 47), (0, a1), (0, a2), (0, a3)] X v (fun o v1 => (askOK v a1 a2 a3 ∧ v1 = askV v a1 a2 a3 ∧ o = some (0, v 47 59)) ∨ (¬ askOK v a1 a2 a3 ∧ v1 = v ∧ o = some (0, -1))) := by
  have hb1 := hb.1
  have hb4 := hb.2.2.2.1
  refine CX.of (by decide +kernel) rfl rfl rfl (bX11_ask_0 a1 a2 a3 (Nat.le_refl _) hW ?_)
  intro g1
  have g1a := g1.1
  have g1b := g1.2
  intro g2
  have g2a := g2.1
  have g2b := g2.2
  intro g3
  have g3a := g3.1
  have g3b := g3.2
  refine ⟨fun g4 => ?_, fun g5 => ?_⟩
  · exact ⟨rfl, Or.inr ⟨fun q => by obtain ⟨q1, q2, q3, q4⟩ := q; first | omega | exact absurd q2 (by assumption) | exact absurd (by assumption) q4, rfl, rfl⟩⟩
  · refine ⟨fun g6 => ?_, fun g7 => ?_⟩
    · exact ⟨rfl, Or.inr ⟨fun q => by obtain ⟨q1, q2, q3, q4⟩ := q; first | omega | exact absurd q2 (by assumption) | exact absurd (by assumption) q4, rfl, rfl⟩⟩
    · refine ⟨_, c_isTable hW (by omega) a2, fun r2 w3 hP => ?_⟩
      obtain ⟨rfl, hr⟩ := hP
      obtain rfl : r2 = bI (isT w3 a2) := by simpa using hr
      refine ⟨fun g8 => ?_, fun g9 => ?_⟩
      · rw [bI_0] at g8
        exact ⟨rfl, Or.inr ⟨fun q => by obtain ⟨q1, q2, q3, q4⟩ := q; first | omega | exact absurd q2 (by assumption) | exact absurd (by assumption) q4, rfl, rfl⟩⟩
      · rw [bI_n0] at g9
        have hT := g9
        have hT1 := hT.1
        have hT2 := hT.2.1
        obtain ⟨-, -, m3, -⟩ := hM a2 hT.1 hT.2.1
        refine ⟨fun g10 => ?_, fun g11 => ?_⟩
        · exact ⟨rfl, Or.inr ⟨fun q => by obtain ⟨q1, q2, q3, q4⟩ := q; first | omega | exact absurd q2 (by assumption) | exact absurd (by assumption) q4, rfl, rfl⟩⟩
        · refine ⟨⟨by omega, by omega⟩, ?_⟩
          intro z5 ez5 hz5
          have hz5 := shl1 (by omega) (by omega) ez5 hz5
          subst hz5
          refine ⟨fun g12 => ?_, fun g13 => ?_⟩
          · exact ⟨rfl, Or.inr ⟨fun q => by obtain ⟨q1, q2, q3, q4⟩ := q; first | omega | exact absurd q2 (by assumption) | exact absurd (by assumption) q4, rfl, rfl⟩⟩
          · refine ⟨fun g14 => ?_, fun g15 => ?_⟩
            · refine ⟨⟨by omega, by omega⟩, ?_⟩
              refine ⟨⟨by omega, by omega⟩, ?_⟩
              refine ⟨⟨by omega, by omega⟩, ?_⟩
              refine ⟨⟨by omega, by omega⟩, ?_⟩
              refine ⟨(fun ⟨_, _⟩ => ⟨by omega, by omega⟩), ?_⟩
              refine ⟨(fun ⟨_, _⟩ => ⟨by omega, by omega⟩), ?_⟩
              refine ⟨rfl, Or.inl ⟨⟨by omega, hT, by omega, by assumption⟩, rfl, ?_⟩⟩
              congr 2; omega
            · exact ⟨rfl, Or.inr ⟨fun q => by obtain ⟨q1, q2, q3, q4⟩ := q; first | omega | exact absurd q2 (by assumption) | exact absurd (by assumption) q4, rfl, rfl⟩⟩
def hasDep (v : VV) (t q : Int) : Prop := ¬ v 48 q = 0 ∧ hasB v q t
def dropV (v V : VV) (t x : Int) : Prop := ∀ r j, V r j = if r = 48 ∧ j = t then 0 else if r = 84 ∧ 0 ≤ j ∧ j < x ∧ v 83 j = t then 0 else v r j
set_option maxRecDepth 100000 in
set_option maxHeartbeats 4000000 in
theorem l_drop58 {X : XX} {v : VV} {Q : QQ} {d mc ms : Nat} (hW : SW X) (hb : MB v) (a1 : Int) (hd : 1 ≤ d) (hQ : ∀ V, dropV v V a1 (v 47 59) → Q (some (0, cnt (fun a => v 83 a = a1 ∧ ¬ v 84 a = 0) (v 47 59).toNat)) X V) : ∀ (x3 : Int) (V : VV), (0 ≤ x3 ∧ x3 ≤ v 47 59) → dropV v V a1 x3 → ∀ x2, x2 = cnt (fun a => v 83 a = a1 ∧ ¬ v 84 a = 0) x3.toNat → Ex mX11_drop d 58 [(2, 47), (0, a1), (0, x2), (0, x3)] [] X V mc ms Q := by
  refine loop2 (fun (x3 : Int) (V : VV) => (v 47 59 - x3).toNat) (fun (x3 : Int) (V : VV) => (0 ≤ x3 ∧ x3 ≤ v 47 59) → dropV v V a1 x3 → ∀ x2, x2 = cnt (fun a => v 83 a = a1 ∧ ¬ v 84 a = 0) x3.toNat → Ex mX11_drop d 58 [(2, 47), (0, a1), (0, x2), (0, x3)] [] X V mc ms Q) (fun x3 V ih => ?_)
  intro hk hA x2 hx2
  have hb4 := hb.2.2.2.1
  have e59 : V 47 59 = v 47 59 := by rw [hA 47 59, if_neg (by omega), if_neg (by omega)]
  have e83 : V 83 x3 = v 83 x3 := by rw [hA 83 x3, if_neg (by omega), if_neg (by omega)]
  have e84 : V 84 x3 = v 84 x3 := by rw [hA 84 x3, if_neg (by omega), if_neg (by omega)]
  have hcb := cnt_bd (fun a => v 83 a = a1 ∧ ¬ v 84 a = 0) x3.toNat
  have hs := cnt_s (fun a => v 83 a = a1 ∧ ¬ v 84 a = 0) hk.1
  have keepS : ¬ (v 83 x3 = a1 ∧ ¬ v 84 x3 = 0) → dropV v V a1 (x3 + 1) := by
    intro hn r j
    rw [hA r j]
    by_cases h1 : r = 48 ∧ j = a1
    · rw [if_pos h1, if_pos h1]
    · rw [if_neg h1, if_neg h1]
      by_cases h2 : r = 84 ∧ j = x3 ∧ v 83 x3 = a1
      · rw [if_neg (by omega), if_pos (by obtain ⟨z1, z2, z3⟩ := h2; subst z2; exact ⟨z1, by omega, by omega, z3⟩)]
        obtain ⟨z1, z2, z3⟩ := h2
        rw [z1, z2]
        omega
      · by_cases h3 : r = 84 ∧ 0 ≤ j ∧ j < x3 ∧ v 83 j = a1
        · rw [if_pos h3, if_pos ⟨h3.1, h3.2.1, by omega, h3.2.2.2⟩]
        · rw [if_neg h3, if_neg (fun z => by
            by_cases hj : j = x3
            · subst hj; exact h2 ⟨z.1, rfl, z.2.2.2⟩
            · exact h3 ⟨z.1, z.2.1, by omega, z.2.2.2⟩)]
  refine bX11_drop_58 a1 x2 x3 hd hW (fun _ _ _ => ⟨fun g => ?_, fun g => ?_⟩)
  · rw [e59] at g; rw [show x3 = v 47 59 by omega] at hA hx2; rw [hx2]; exact hQ V hA
  · rw [e59] at g
    have h40 : 0 ≤ x3 ∧ x3 < 40 := ⟨hk.1, by omega⟩
    rw [e83, e84]
    refine ⟨h40, fun g2 => ⟨⟨by omega, by omega⟩, ?_⟩, fun g2 => ⟨h40, fun g3 => ⟨h40, ⟨by omega, by omega⟩, ⟨by omega, by omega⟩, ?_⟩, fun g3 => ⟨⟨by omega, by omega⟩, ?_⟩⟩⟩
    · exact ih _ _ (by omega) ⟨by omega, by omega⟩ (keepS (fun z => g2 z.1)) _ (by rw [hs, bI_f (fun z => g2 z.1)]; omega)
    · refine ih _ _ (by omega) ⟨by omega, by omega⟩ (fun r j => ?_) _ (by rw [hs, bI_t ⟨g2, g3⟩]; omega)
      by_cases h1 : r = 84 ∧ j = x3
      · obtain ⟨rfl, rfl⟩ := h1; rw [upd2_s, if_neg (by omega), if_pos ⟨rfl, by omega, by omega, g2⟩]
      · rw [upd2_n _ h1, hA r j]
        by_cases h2 : r = 48 ∧ j = a1
        · rw [if_pos h2, if_pos h2]
        · rw [if_neg h2, if_neg h2]
          by_cases h3 : r = 84 ∧ 0 ≤ j ∧ j < x3 ∧ v 83 j = a1
          · rw [if_pos h3, if_pos ⟨h3.1, h3.2.1, by omega, h3.2.2.2⟩]
          · have hne : r = 84 → ¬ j = x3 := fun z q => h1 ⟨z, q⟩
            rw [if_neg h3, if_neg (fun z => h3 ⟨z.1, z.2.1, (by have h00 := z.2.2.1; have h01 := hne z.1; omega), z.2.2.2⟩)]
    · exact ih _ _ (by omega) ⟨by omega, by omega⟩ (keepS (fun z => z.2 g3)) _ (by rw [hs, bI_f (fun z => z.2 g3)]; omega)
set_option maxRecDepth 100000 in
set_option maxHeartbeats 4000000 in
theorem l_drop12 {X : XX} {v : VV} {Q : QQ} {d mc ms : Nat} (hW : SW X) (hb : MB v) (hM : MT v) (a1 : Int) (ha : 0 ≤ a1 ∧ a1 < v 47 0) (hd : 1 ≤ d) (hQ : (∀ q, 0 ≤ q → q < v 47 0 → ¬ hasDep v a1 q) → ∀ V, dropV v V a1 (v 47 59) → Q (some (0, cnt (fun a => v 83 a = a1 ∧ ¬ v 84 a = 0) (v 47 59).toNat)) X V) (hQ2 : (∃ q, 0 ≤ q ∧ q < v 47 0 ∧ hasDep v a1 q) → Q (some (0, -2)) X v) : ∀ (x2 : Int), (0 ≤ x2 ∧ x2 ≤ v 47 0) → (∀ q, 0 ≤ q → q < x2 → ¬ hasDep v a1 q) → Ex mX11_drop d 12 [(2, 47), (0, a1), (0, x2), (3, 0)] [] X v mc ms Q := by
  refine loop1 (fun (x2 : Int) => (v 47 0 - x2).toNat) (fun (x2 : Int) => (0 ≤ x2 ∧ x2 ≤ v 47 0) → (∀ q, 0 ≤ q → q < x2 → ¬ hasDep v a1 q) → Ex mX11_drop d 12 [(2, 47), (0, a1), (0, x2), (3, 0)] [] X v mc ms Q) (fun x2 ih => ?_)
  intro hk hp
  have hb1 := hb.1
  have hb4 := hb.2.2.2.1
  refine bX11_drop_12 a1 x2 hd hW (fun _ _ => ⟨fun g => ⟨⟨ha.1, by omega⟩, ?_⟩, fun g => ?_⟩)
  · refine l_drop58 (v := v) hW hb a1 hd (hQ (fun q q0 q1 => hp q q0 (by omega))) 0 _ ⟨by omega, by omega⟩ (fun r j => ?_) 0 rfl
    unfold upd2
    by_cases h1 : r = 48 ∧ j = a1
    · rw [if_pos h1, if_pos h1]
    · rw [if_neg h1, if_neg h1, if_neg (by omega)]
  · have h17 : 0 ≤ x2 ∧ x2 < 17 := ⟨hk.1, by omega⟩
    obtain ⟨-, -, -, m4, -⟩ := hM x2 hk.1 g
    have nxt : ¬ hasDep v a1 x2 → i32 (x2 + 1) ∧ Ex mX11_drop d 12 [(2, 47), (0, a1), (0, x2 + 1), (3, 0)] [] X v mc ms Q := fun hn => ⟨⟨by omega, by omega⟩, ih _ (by omega) ⟨by omega, by omega⟩ (fun q q0 q1 => by
        by_cases hq : q = x2
        · rw [hq]; exact hn
        · exact hp q q0 (by omega))⟩
    refine ⟨h17, fun g2 => nxt (fun z => z.1 g2), fun g2 => ⟨_, c_hasBehind hW x2 a1 h17 m4, fun r6 w7 hP => ?_⟩⟩
    obtain ⟨rfl, hr⟩ := hP
    obtain rfl : r6 = bI (hasB w7 x2 a1) := by simpa using hr
    exact ⟨fun g3 => nxt (fun z => bI_0.mp g3 z.2), fun g3 => hQ2 ⟨x2, hk.1, g, g2, bI_n0.mp g3⟩⟩
set_option maxRecDepth 100000 in
set_option maxHeartbeats 4000000 in
theorem c_drop {X : XX} {v : VV} (hW : SW X) (hb : MB v) (hM : MT v) (a1 : Int) : CX mX11_drop 1 [(2, 47), (0, a1)] X v (fun o v1 => (¬ isT v a1 ∧ v1 = v ∧ o = some (0, -1)) ∨ (isT v a1 ∧ (∃ q, 0 ≤ q ∧ q < v 47 0 ∧ hasDep v a1 q) ∧ v1 = v ∧ o = some (0, -2)) ∨ (isT v a1 ∧ (∀ q, 0 ≤ q → q < v 47 0 → ¬ hasDep v a1 q) ∧ dropV v v1 a1 (v 47 59) ∧ o = some (0, cnt (fun a => v 83 a = a1 ∧ ¬ v 84 a = 0) (v 47 59).toNat))) := by
  have hb1 := hb.1
  refine CX.of (by decide +kernel) rfl rfl rfl (bX11_drop_0 a1 (Nat.le_refl _) hW ?_)
  intro _
  refine ⟨_, c_isTable hW (by omega) a1, fun r2 w3 hP => ?_⟩
  obtain ⟨rfl, hr⟩ := hP
  obtain rfl : r2 = bI (isT w3 a1) := by simpa using hr
  refine ⟨fun g => ?_, fun g => ⟨rfl, Or.inl ⟨bI_0.mp g, rfl, rfl⟩⟩⟩
  rw [bI_n0] at g
  exact l_drop12 hW hb hM a1 ⟨g.1, g.2.1⟩ (Nat.le_refl _) (fun hn V hV => ⟨rfl, Or.inr (Or.inr ⟨g, hn, hV, rfl⟩)⟩) (fun hh => ⟨rfl, Or.inr (Or.inl ⟨g, hh, rfl, rfl⟩)⟩) 0 ⟨by omega, by omega⟩ (fun q q0 q1 => by omega)
/-- an ask of t itself since a day -/
def asd (v : VV) (since t : Int) : Prop := ∃ a, 0 ≤ a ∧ a < v 47 59 ∧ 0 < v 84 a ∧ since ≤ v 85 a ∧ v 83 a = t
/-- used since a day, through whatever steps -/
def usdF (v : VV) (since : Int) : Nat → Int → Prop
  | 0, t => asd v since t
  | f + 1, t => asd v since t ∨ ∃ s, t < s ∧ s < v 47 0 ∧ ¬ v 48 s = 0 ∧ usdF v since f s ∧ hasB v s t
def usd (v : VV) (since t : Int) : Prop := usdF v since 17 t
theorem usdF_fuel {v : VV} {since : Int} : ∀ (f f' : Nat) (t : Int), v 47 0 - t ≤ f → v 47 0 - t ≤ f' → (usdF v since f t ↔ usdF v since f' t) := by
  have none_ : ∀ (f : Nat) (t : Int), v 47 0 - t ≤ 0 → (usdF v since f t ↔ asd v since t) := by
    intro f t h
    cases f with
    | zero => exact Iff.rfl
    | succ f => exact ⟨fun q => q.elim id (fun ⟨s, s0, s1, _⟩ => by omega), Or.inl⟩
  intro f
  induction f with
  | zero => intro f' t h1 h2; exact (none_ 0 t h1).trans (none_ f' t (by omega)).symm
  | succ f ih =>
    intro f' t h1 h2
    cases f' with
    | zero => exact (none_ _ t (by omega)).trans (none_ 0 t h2).symm
    | succ f' =>
      unfold usdF
      exact ⟨fun q => q.imp id (fun ⟨s, s0, s1, s2, s3, s4⟩ => ⟨s, s0, s1, s2, (ih f' s (by omega) (by omega)).mp s3, s4⟩), fun q => q.imp id (fun ⟨s, s0, s1, s2, s3, s4⟩ => ⟨s, s0, s1, s2, (ih f' s (by omega) (by omega)).mpr s3, s4⟩)⟩
theorem usd_eq {v : VV} {since : Int} (hn : v 47 0 ≤ 16) (t : Int) (h0 : 0 ≤ t) : usd v since t ↔ (asd v since t ∨ ∃ s, t < s ∧ s < v 47 0 ∧ ¬ v 48 s = 0 ∧ usd v since s ∧ hasB v s t) := by
  show (asd v since t ∨ ∃ s, t < s ∧ s < v 47 0 ∧ ¬ v 48 s = 0 ∧ usdF v since 16 s ∧ hasB v s t) ↔ _
  exact ⟨fun q => q.imp id (fun ⟨s, s0, s1, s2, s3, s4⟩ => ⟨s, s0, s1, s2, (usdF_fuel 16 17 s (by omega) (by omega)).mp s3, s4⟩), fun q => q.imp id (fun ⟨s, s0, s1, s2, s3, s4⟩ => ⟨s, s0, s1, s2, (usdF_fuel 16 17 s (by omega) (by omega)).mpr s3, s4⟩)⟩
/-- the marks are P, and nothing else changed but them -/
def mkd (v V : VV) (P : Int → Prop) : Prop := (∀ j, 0 ≤ j → j < 136 → V 80 j = bI (P j)) ∧ ∀ r j, ¬ r = 80 → V r j = v r j
theorem mkd.set {v V : VV} {P P' : Int → Prop} {k : Int} (h : mkd v V P) (hk : P' k) (hP : ∀ j, 0 ≤ j → j < 136 → ¬ j = k → (P j ↔ P' j)) : mkd v (upd2 V 80 k 1) P' := by
  refine ⟨fun j h0 h1 => ?_, fun r j hr => by rw [upd2_n _ (by omega)]; exact h.2 r j hr⟩
  by_cases hj : j = k
  · subst hj; rw [upd2_s, bI_t hk]
  · rw [upd2_n _ (by omega), h.1 j h0 h1]; exact bI_iff (hP j h0 h1 hj)
theorem mkd.cg {v V : VV} {P P' : Int → Prop} (h : mkd v V P) (hP : ∀ j, 0 ≤ j → j < 136 → (P j ↔ P' j)) : mkd v V P' := ⟨fun j h0 h1 => by rw [h.1 j h0 h1]; exact bI_iff (hP j h0 h1), h.2⟩
theorem clr.mkd {v V : VV} (h : clr v V 136) : mkd v V (fun _ => False) := ⟨fun j h0 h1 => by rw [bI_f (fun z => z)]; exact h.1 j h0 h1, h.2⟩
def AKr (v : VV) : Prop := ∀ a, 0 ≤ a → a < v 47 59 → (0 ≤ v 83 a ∧ v 83 a < v 47 0) ∧ (0 ≤ v 84 a ∧ v 84 a < 64) ∧ (0 ≤ v 85 a ∧ v 85 a ≤ 30000)
/-- used, as far as the tables above x tell -/
def usx (v : VV) (since x q : Int) : Prop := asd v since q ∨ ∃ s, x < s ∧ s < v 47 0 ∧ ¬ v 48 s = 0 ∧ usd v since s ∧ hasB v s q
set_option maxRecDepth 100000 in
set_option maxHeartbeats 4000000 in
theorem l_unused6 {X : XX} {v : VV} {Q : QQ} {d mc ms : Nat} (hW : SW X) (hb : MB v) (hK : AKr v) (a1 : Int) (hd : 1 ≤ d) (hQ : ∀ V, mkd v V (asd v a1) → Ex mX11_unused d 58 [(2, 47), (0, a1), (0, v 47 0 - 1), (3, 0)] [] X V mc ms Q) : ∀ (x2 : Int) (V : VV), (0 ≤ x2 ∧ x2 ≤ v 47 59) → mkd v V (fun q => ∃ a, 0 ≤ a ∧ a < x2 ∧ 0 < v 84 a ∧ a1 ≤ v 85 a ∧ v 83 a = q) → Ex mX11_unused d 6 [(2, 47), (0, a1), (0, x2), (3, 0)] [] X V mc ms Q := by
  refine loop2 (fun (x2 : Int) (V : VV) => (v 47 59 - x2).toNat) (fun (x2 : Int) (V : VV) => (0 ≤ x2 ∧ x2 ≤ v 47 59) → mkd v V (fun q => ∃ a, 0 ≤ a ∧ a < x2 ∧ 0 < v 84 a ∧ a1 ≤ v 85 a ∧ v 83 a = q) → Ex mX11_unused d 6 [(2, 47), (0, a1), (0, x2), (3, 0)] [] X V mc ms Q) (fun x2 V ih => ?_)
  intro hk hA
  have hb1 := hb.1
  have hb4 := hb.2.2.2.1
  refine bX11_unused_6 a1 x2 hd hW (fun _ _ => ⟨fun g => ⟨fun _ => ⟨by rw [hA.2 47 0 (by omega)]; omega, by rw [hA.2 47 0 (by omega)]; omega⟩, ?_⟩, fun g => ?_⟩)
  · rw [hA.2 47 59 (by omega)] at g; rw [hA.2 47 0 (by omega)]; rw [show x2 = v 47 59 by omega] at hA; exact hQ V hA
  · rw [hA.2 47 59 (by omega)] at g
    rw [hA.2 84 _ (by omega), hA.2 85 _ (by omega), hA.2 83 _ (by omega)]
    have h40 : 0 ≤ x2 ∧ x2 < 40 := ⟨hk.1, by omega⟩
    have hk3 := hK x2 hk.1 g
    have nxt : ¬ (0 < v 84 x2 ∧ a1 ≤ v 85 x2) → i32 (x2 + 1) ∧ Ex mX11_unused d 6 [(2, 47), (0, a1), (0, x2 + 1), (3, 0)] [] X V mc ms Q := fun hn => ⟨⟨by omega, by omega⟩, ih _ _ (by omega) ⟨by omega, by omega⟩ (hA.cg (fun j _ _ => ⟨fun ⟨a, q0, q1, q2⟩ => ⟨a, q0, by omega, q2⟩, fun ⟨a, q0, q1, q2, q3, q4⟩ => ⟨a, q0, by
        have : ¬ a = x2 := fun z => hn ⟨z ▸ q2, z ▸ q3⟩
        omega, q2, q3, q4⟩⟩))⟩
    refine ⟨h40, fun g2 => nxt (by omega), fun g2 => ⟨h40, fun g3 => nxt (by omega), fun g3 => ⟨h40, ⟨hk3.1.1, by omega⟩, ⟨by omega, by omega⟩, ?_⟩⟩⟩
    refine ih _ _ (by omega) ⟨by omega, by omega⟩ (hA.set ⟨x2, hk.1, by omega, g2, g3, rfl⟩ (fun j _ _ hj => ⟨fun ⟨a, q0, q1, q2⟩ => ⟨a, q0, by omega, q2⟩, fun ⟨a, q0, q1, q2, q3, q4⟩ => ⟨a, q0, by
      have : ¬ a = x2 := fun z => hj (by rw [← q4, z])
      omega, q2, q3, q4⟩⟩))
set_option maxRecDepth 100000 in
set_option maxHeartbeats 4000000 in
theorem l_unused85 {X : XX} {v : VV} {Q : QQ} {d mc ms : Nat} (hW : SW X) (hb : MB v) (hM : MT v) (a1 x2 : Int) (hx : 0 ≤ x2 ∧ x2 < v 47 0) (hd : 1 ≤ d) (P : Int → Prop) (hQ : ∀ V, mkd v V (fun q => P q ∨ hasB v x2 q) → Ex mX11_unused d 58 [(2, 47), (0, a1), (0, x2 + -1), (3, 0)] [] X V mc ms Q) : ∀ (x3 : Int) (V : VV), (0 ≤ x3 ∧ x3 ≤ v 54 x2) → mkd v V (fun q => P q ∨ ∃ k, 0 ≤ k ∧ k < x3 ∧ v 55 (3 * x2 + k) = q) → Ex mX11_unused d 85 [(2, 47), (0, a1), (0, x2), (0, x3)] [] X V mc ms Q := by
  refine loop2 (fun (x3 : Int) (V : VV) => (v 54 x2 - x3).toNat) (fun (x3 : Int) (V : VV) => (0 ≤ x3 ∧ x3 ≤ v 54 x2) → mkd v V (fun q => P q ∨ ∃ k, 0 ≤ k ∧ k < x3 ∧ v 55 (3 * x2 + k) = q) → Ex mX11_unused d 85 [(2, 47), (0, a1), (0, x2), (0, x3)] [] X V mc ms Q) (fun x3 V ih => ?_)
  intro hk hA
  have hb1 := hb.1
  obtain ⟨-, -, -, m4, m5, -⟩ := hM x2 hx.1 hx.2
  refine bX11_unused_85 a1 x2 x3 hd hW (fun _ _ _ => ⟨⟨hx.1, by omega⟩, fun g => ⟨⟨by omega, by omega⟩, ?_⟩, fun g => ?_⟩)
  · rw [hA.2 54 _ (by omega)] at g; rw [show x3 = v 54 x2 by omega] at hA; exact hQ V hA
  · rw [hA.2 54 _ (by omega)] at g
    obtain ⟨q0, q1, -⟩ := m5 x3 hk.1 g
    rw [hA.2 55 _ (by omega)]
    refine ⟨⟨by omega, by omega⟩, fun _ => ⟨by omega, by omega⟩, ⟨by omega, by omega⟩, ⟨q0, by omega⟩, ⟨by omega, by omega⟩, ?_⟩
    refine ih _ _ (by omega) ⟨by omega, by omega⟩ (hA.set (Or.inr ⟨x3, hk.1, by omega, rfl⟩) (fun j _ _ hj => ⟨fun q => q.imp id (fun ⟨k, a, b, c⟩ => ⟨k, a, by omega, c⟩), fun q => q.imp id (fun ⟨k, a, b, c⟩ => ⟨k, a, by
      have : ¬ k = x3 := fun z => hj (by rw [← c, z])
      omega, c⟩)⟩))
set_option maxRecDepth 100000 in
set_option maxHeartbeats 4000000 in
theorem l_unused58 {X : XX} {v : VV} {Q : QQ} {d mc ms : Nat} (hW : SW X) (hb : MB v) (hM : MT v) (a1 : Int) (hd : 1 ≤ d) (hQ : ∀ V, mkd v V (usd v a1) → Ex mX11_unused d 130 [(2, 47), (0, a1), (0, 0), (3, 0)] [] X (upd2 V 47 57 0) mc ms Q) : ∀ (x2 : Int) (V : VV), (-1 ≤ x2 ∧ x2 < v 47 0) → mkd v V (usx v a1 x2) → Ex mX11_unused d 58 [(2, 47), (0, a1), (0, x2), (3, 0)] [] X V mc ms Q := by
  refine loop2 (fun (x2 : Int) (V : VV) => (x2 + 1).toNat) (fun (x2 : Int) (V : VV) => (-1 ≤ x2 ∧ x2 < v 47 0) → mkd v V (usx v a1 x2) → Ex mX11_unused d 58 [(2, 47), (0, a1), (0, x2), (3, 0)] [] X V mc ms Q) (fun x2 V ih => ?_)
  intro hk hA
  have hb1 := hb.1
  refine bX11_unused_58 a1 x2 hd hW (fun _ _ => ⟨fun g => ?_, fun g => ?_⟩)
  · refine hQ V (hA.cg (fun j h0 h1 => ?_))
    rw [usd_eq (by omega) j h0]
    unfold usx
    exact ⟨fun q => q.imp id (fun ⟨s, s0, s1, s2, s3, s4⟩ => ⟨s, by
      obtain ⟨k, k0, k1, k2⟩ := s4
      have := ((hM s (by omega) s1).2.2.2.2.1 k k0 k1).2.1
      omega, s1, s2, s3, s4⟩), fun q => q.imp id (fun ⟨s, s0, s1, s2⟩ => ⟨s, by omega, s1, s2⟩)⟩
  · have h17 : 0 ≤ x2 ∧ x2 < 17 := ⟨g, by omega⟩
    rw [hA.2 48 _ (by omega), hA.1 x2 g (by omega)]
    have hus : usx v a1 x2 x2 ↔ usd v a1 x2 := by
      rw [usd_eq (by omega) x2 g]
      exact Iff.rfl
    have skp : ¬ (¬ v 48 x2 = 0 ∧ usd v a1 x2) → i32 (x2 + -1) ∧ Ex mX11_unused d 58 [(2, 47), (0, a1), (0, x2 + -1), (3, 0)] [] X V mc ms Q := fun hn => ⟨⟨by omega, by omega⟩, ih _ _ (by omega) ⟨by omega, by omega⟩ (hA.cg (fun j _ _ => ⟨fun q => q.imp id (fun ⟨s, s0, s1, s2⟩ => ⟨s, by omega, s1, s2⟩), fun q => q.imp id (fun ⟨s, s0, s1, s2, s3, s4⟩ => ⟨s, by
        have : ¬ s = x2 := fun z => hn ⟨z ▸ s2, z ▸ s3⟩
        omega, s1, s2, s3, s4⟩)⟩))⟩
    refine ⟨h17, fun g2 => skp (fun z => z.1 g2), fun g2 => ⟨⟨g, by omega⟩, fun g3 => ?_, fun g3 => skp (fun z => bI_0.mp g3 (hus.mpr z.2))⟩⟩
    rw [bI_n0, hus] at g3
    refine l_unused85 hW hb hM a1 x2 ⟨g, hk.2⟩ hd (usx v a1 x2) (fun V2 hV2 => ?_) 0 V ⟨by omega, (hM x2 g hk.2).2.2.2.1.1⟩ (hA.cg (fun j _ _ => ⟨Or.inl, fun q => q.elim id (fun ⟨k, a, b, _⟩ => by omega)⟩))
    refine ih _ _ (by omega) ⟨by omega, by omega⟩ (hV2.cg (fun j _ _ => ⟨fun q => ?_, fun q => ?_⟩))
    · rcases q with q | q
      · exact q.imp id (fun ⟨s, s0, s1, s2⟩ => ⟨s, by omega, s1, s2⟩)
      · exact Or.inr ⟨x2, by omega, hk.2, g2, g3, q⟩
    · rcases q with q | ⟨s, s0, s1, s2, s3, s4⟩
      · exact Or.inl (Or.inl q)
      · by_cases hs : s = x2
        · subst hs; exact Or.inr s4
        · exact Or.inl (Or.inr ⟨s, by omega, s1, s2, s3, s4⟩)
def UNs (v V : VV) (since x : Int) : Prop := (∀ j, 0 ≤ j → j < 136 → V 80 j = bI (usd v since j)) ∧ (∀ r j, ¬ (r = 80 ∨ r = 81 ∨ (r = 47 ∧ j = 57)) → V r j = v r j) ∧ FLx (fun t => ¬ v 48 t = 0 ∧ ¬ usd v since t) x (V 47 57) (V 81) ∧ 0 ≤ V 47 57 ∧ V 47 57 ≤ x
set_option maxRecDepth 100000 in
set_option maxHeartbeats 4000000 in
theorem l_unused130 {X : XX} {v : VV} {Q : QQ} {d mc ms : Nat} (hW : SW X) (hb : MB v) (a1 : Int) (hd : 1 ≤ d) (hQ : ∀ V, UNs v V a1 (v 47 0) → Q (some (0, V 47 57)) X V) : ∀ (x2 : Int) (V : VV), (0 ≤ x2 ∧ x2 ≤ v 47 0) → UNs v V a1 x2 → Ex mX11_unused d 130 [(2, 47), (0, a1), (0, x2), (3, 0)] [] X V mc ms Q := by
  refine loop2 (fun (x2 : Int) (V : VV) => (v 47 0 - x2).toNat) (fun (x2 : Int) (V : VV) => (0 ≤ x2 ∧ x2 ≤ v 47 0) → UNs v V a1 x2 → Ex mX11_unused d 130 [(2, 47), (0, a1), (0, x2), (3, 0)] [] X V mc ms Q) (fun x2 V ih => ?_)
  intro hk hA
  have hb1 := hb.1
  have e0 : V 47 0 = v 47 0 := hA.2.1 47 0 (by omega)
  have h3 := hA.2.2.2
  refine bX11_unused_130 a1 x2 hd hW (fun _ _ => ⟨fun g => ?_, fun g => ?_⟩)
  · rw [e0] at g; rw [show x2 = v 47 0 by omega] at hA; exact hQ V hA
  · rw [e0] at g
    have h17 : 0 ≤ x2 ∧ x2 < 17 := ⟨hk.1, by omega⟩
    rw [hA.2.1 48 _ (by omega), hA.1 x2 hk.1 (by omega)]
    have skp : ¬ (¬ v 48 x2 = 0 ∧ ¬ usd v a1 x2) → i32 (x2 + 1) ∧ Ex mX11_unused d 130 [(2, 47), (0, a1), (0, x2 + 1), (3, 0)] [] X V mc ms Q := fun hn => ⟨⟨by omega, by omega⟩, ih _ _ (by omega) ⟨by omega, by omega⟩ ⟨hA.1, hA.2.1, hA.2.2.1.skip hk.1 hn, h3.1, by omega⟩⟩
    refine ⟨h17, fun g2 => skp (fun z => z.1 g2), fun g2 => ⟨⟨hk.1, by omega⟩, fun g3 => skp (fun z => z.2 (bI_n0.mp g3)), fun g3 => ⟨_, c_finds hW (by omega) x2, fun w7 hP => ⟨⟨by omega, by omega⟩, ?_⟩⟩⟩⟩
    obtain rfl := hP
    rw [bI_0] at g3
    refine ih _ _ (by omega) ⟨by omega, by omega⟩ ⟨fun j h0 h1 => ?_, fun r j h => ?_, ?_, ?_⟩
    · rw [upd2_n _ (by omega), upd2_n _ (by omega)]; exact hA.1 j h0 h1
    · rw [upd2_n _ (by omega), upd2_n _ (by omega)]; exact hA.2.1 r j h
    · rw [upd2_s]
      refine hA.2.2.1.add hk.1 ⟨g2, g3⟩ ?_ (fun i hi => ?_)
      · rw [upd2_n _ (by omega), upd2_s]
      · rw [upd2_n _ (by omega), upd2_n _ (by omega)]
    · rw [upd2_s]; omega
set_option maxRecDepth 100000 in
set_option maxHeartbeats 4000000 in
theorem c_unused {X : XX} {v : VV} (hW : SW X) (hb : MB v) (hM : MT v) (hK : AKr v) (a1 : Int) : CX mX11_unused 1 [(2, 47), (0, a1)] X v (fun o v1 => UNs v v1 a1 (v 47 0) ∧ o = some (0, v1 47 57)) := by
  have hb1 := hb.1
  have hb4 := hb.2.2.2.1
  refine CX.of (by decide +kernel) rfl rfl rfl (bX11_unused_0 a1 (Nat.le_refl _) hW ?_)
  intro _
  refine ⟨_, c_clears hW, fun w3 hP => ?_⟩
  refine l_unused6 hW hb hK a1 (Nat.le_refl _) (fun V hV => ?_) 0 w3 ⟨by omega, by omega⟩ (hP.mkd.cg (fun j _ _ => ⟨fun z => z.elim, fun ⟨a, z0, z1, _⟩ => by omega⟩))
  refine l_unused58 hW hb hM a1 (Nat.le_refl _) (fun V2 hV2 => ?_) (v 47 0 - 1) V ⟨by omega, by omega⟩ (hV.cg (fun j _ _ => ⟨Or.inl, fun z => z.elim id (fun ⟨s, s0, s1, _⟩ => by omega)⟩))
  refine l_unused130 hW hb a1 (Nat.le_refl _) (fun V3 hV3 => ⟨rfl, hV3, rfl⟩) 0 _ ⟨by omega, by omega⟩ ⟨fun j h0 h1 => ?_, fun r j h => ?_, ?_, ?_⟩
  · rw [upd2_n _ (by omega)]; exact hV2.1 j h0 h1
  · rw [upd2_n _ (by omega)]; exact hV2.2 r j (by omega)
  · rw [upd2_s]; exact FLx.zero _ _
  · rw [upd2_s]; omega
