/-! ===== the class: typing by a stack ===== -/
def TypS (X : XX) (o s : Int) : Prop := X.1.2 o = (9, 0) ∧ (0 ≤ o ∧ o < X.1.1) ∧ X.2 o 0 = s ∧ X.1.2 s = (100, 16) ∧ (0 ≤ s ∧ s < X.1.1)
theorem TypS.ne {X : XX} {o s : Int} (h : TypS X o s) : ¬ o = s := fun e => by
  obtain ⟨s1, -, -, s3, -⟩ := h
  rw [e, s3] at s1
  exact absurd (congrArg Prod.fst s1) (by decide)
theorem typS33 {X : XX} (h : SW X) : TypS X 33 34 := ⟨sW33 h, gW33 h, rW33_0 h, sW34 h, gW34 h⟩
theorem typS35 {X : XX} (h : SW X) : TypS X 35 36 := ⟨sW35 h, gW35 h, rW35_0 h, sW36 h, gW36 h⟩
def SL (v : VV) (s : Int) : List Int → Prop
  | [] => True
  | x :: σ => v s (σ.length : Int) = x ∧ SL v s σ
def StkR (v : VV) (o s : Int) (σ : List Int) : Prop := v o 1 = σ.length ∧ SL v s σ
theorem SL.fr {v V : VV} {s : Int} : ∀ (σ : List Int), SL v s σ → (∀ j, 0 ≤ j → j < σ.length → V s j = v s j) → SL V s σ
  | [], _, _ => trivial
  | x :: σ, h, hf => ⟨by rw [hf _ (by omega) (by simp)]; exact h.1, SL.fr σ h.2 (fun j j0 j1 => hf j j0 (by simp; omega))⟩
def okT (x : Int) : Prop := x = 0 ∨ x = 110 ∨ x = 116 ∨ x = 100
def pushL (σ : List Int) (x : Int) : List Int := if σ.length < 16 then x :: σ else σ
def nB (b p : Int) : Int := if b = -1 ∨ p < b then p else b
def STy (o s r j : Int) : Prop := (r = o ∧ (j = 1 ∨ j = 2)) ∨ r = s
set_option maxRecDepth 100000 in
set_option maxHeartbeats 4000000 in
theorem k_push {X : XX} {v : VV} {o s : Int} {σ : List Int} (hW : SW X) (h : TypS X o s) (hS : StkR v o s σ) (x : Int) : CX mX9_push 0 [(2, o), (0, x)] X v (fun o1 v1 => StkR v1 o s (pushL σ x) ∧ v1 o 2 = v o 2 ∧ Fr (STy o s) v v1) := by
  have hne := h.ne
  obtain ⟨s1, s2, rfl, s3, s4⟩ := h
  obtain ⟨h1, h2⟩ := hS
  have e : upd2 v (X.2 o 0) (v o 1) x o 1 = v o 1 := upd2_n _ (fun q => hne q.1)
  refine CX.of (by decide +kernel) rfl rfl rfl (bX9_push_0 o x (Nat.le_refl _) hW (fun _ => ⟨s1, s2, fun g => by omega, fun g => ⟨16, s3, s4, fun g2 => ?_, fun g2 => ⟨⟨by omega, by omega⟩, ?_⟩⟩⟩))
  · refine ⟨rfl, ?_, rfl, Fr.rf⟩
    unfold pushL
    rw [if_neg (by omega)]
    exact ⟨h1, h2⟩
  · rw [e]
    refine ⟨fun _ => ⟨by omega, by omega⟩, rfl, ?_, ?_, (Fr.rf.up (Or.inr rfl)).up (Or.inl ⟨rfl, Or.inl rfl⟩)⟩
    · unfold pushL
      rw [if_pos (by omega)]
      refine ⟨by rw [upd2_s]; simp; omega, ?_, ?_⟩
      · rw [upd2_n _ (fun q => hne q.1.symm), ← h1, upd2_s]
      · exact h2.fr σ (fun j j0 j1 => by rw [upd2_n _ (fun q => hne q.1.symm), upd2_n _ (by omega)])
    · rw [upd2_n _ (by omega), upd2_n _ (fun q => hne q.1)]
set_option maxRecDepth 100000 in
set_option maxHeartbeats 4000000 in
theorem k_pop {X : XX} {v : VV} {o s : Int} {σ : List Int} (hW : SW X) (h : TypS X o s) (hS : StkR v o s σ) (hl : σ.length ≤ 16) : CX mX9_pop 0 [(2, o)] X v (fun o1 v1 => o1 = some (0, σ.headD 0) ∧ StkR v1 o s σ.tail ∧ v1 o 2 = v o 2 ∧ Fr (STy o s) v v1) := by
  have hne := h.ne
  obtain ⟨s1, s2, rfl, s3, s4⟩ := h
  obtain ⟨h1, h2⟩ := hS
  refine CX.of (by decide +kernel) rfl rfl rfl (bX9_pop_0 o (Nat.le_refl _) hW ⟨s1, s2, fun g => ?_, fun g => ⟨16, s3, s4, fun g2 => ⟨fun _ => ⟨by omega, by omega⟩, ⟨by omega, by omega⟩, ?_⟩, fun g2 => by omega⟩⟩)
  · cases σ with
    | nil => exact ⟨rfl, rfl, ⟨h1, trivial⟩, rfl, Fr.rf⟩
    | cons x σ => simp at h1; omega
  · cases σ with
    | nil => simp at h1; omega
    | cons x σ =>
      have hlen : v o 1 - 1 = (σ.length : Int) := by rw [h1]; simp
      rw [upd2_n _ (fun q => hne q.1.symm), hlen, h2.1]
      refine ⟨rfl, rfl, ⟨upd2_s _ _ _ _, ?_⟩, ?_, Fr.rf.up (Or.inl ⟨rfl, Or.inl rfl⟩)⟩
      · exact h2.2.fr σ (fun j j0 j1 => upd2_n _ (fun q => hne q.1.symm))
      · rw [upd2_n _ (by omega)]
set_option maxRecDepth 100000 in
set_option maxHeartbeats 4000000 in
theorem k_noteBad {X : XX} {v : VV} {o s : Int} (hW : SW X) (h : TypS X o s) (p : Int) : CX mX9_noteBad 0 [(2, o), (0, p)] X v (fun o1 v1 => v1 = upd2 v o 2 (nB (v o 2) p)) := by
  refine CX.of (by decide +kernel) rfl rfl rfl (bX9_noteBad_0 o p (Nat.le_refl _) hW (fun _ => ⟨h.1, h.2.1, fun g => ⟨rfl, ?_⟩, fun g => ⟨fun g2 => ⟨rfl, ?_⟩, fun g2 => ⟨rfl, ?_⟩⟩⟩))
  · unfold nB; rw [if_pos (Or.inl g)]
  · unfold nB; rw [if_neg (by omega), upd2_id]
  · unfold nB; rw [if_pos (Or.inr g2)]
/-- a note of two types that are known and unlike -/
def nU (b x y p : Int) : Int := if ¬ x = 0 ∧ ¬ y = 0 ∧ ¬ x = y then nB b p else b
set_option maxRecDepth 100000 in
set_option maxHeartbeats 4000000 in
theorem k_noteUnlike {X : XX} {v : VV} {o s : Int} (hW : SW X) (h : TypS X o s) (x y p : Int) : CX mX9_noteUnlike 1 [(2, o), (0, x), (0, y), (0, p)] X v (fun o1 v1 => v1 = upd2 v o 2 (nU (v o 2) x y p)) := by
  refine CX.of (by decide +kernel) rfl rfl rfl (bX9_noteUnlike_0 o x y p (Nat.le_refl _) hW (fun _ _ _ => ⟨fun g => ⟨rfl, ?_⟩, fun g => ⟨fun g2 => ⟨rfl, ?_⟩, fun g2 => ⟨fun g3 => ⟨rfl, ?_⟩, fun g3 => ⟨h.1, h.2.1, _, k_noteBad hW h p, fun w4 hP => ⟨rfl, ?_⟩⟩⟩⟩⟩))
  · unfold nU; rw [if_neg (fun z => z.1 g), upd2_id]
  · unfold nU; rw [if_neg (fun z => z.2.1 g2), upd2_id]
  · unfold nU; rw [if_neg (fun z => z.2.2 g3), upd2_id]
  · unfold nU; rw [if_pos ⟨g, g2, g3⟩]; exact hP
def nO (b sg l r p : Int) : Int := if ¬ l = 0 ∧ ¬ r = 0 ∧ opT sg l r = 0 then nB b p else b
set_option maxRecDepth 100000 in
set_option maxHeartbeats 4000000 in
theorem k_operated {X : XX} {v : VV} {o s : Int} (hW : SW X) (h : TypS X o s) (sg l r p : Int) (hs : sg = 38 ∨ sg = 43 ∨ sg = 45) (hl : okT l) (hr : okT r) : CX mX9_operated 1 [(2, o), (0, sg), (0, l), (0, r), (0, p)] X v (fun o1 v1 => o1 = some (0, opT sg l r) ∧ v1 = upd2 v o 2 (nO (v o 2) sg l r p)) := by
  unfold okT at hl hr
  have bad_ : ¬ l = 0 → ¬ r = 0 → opT sg l r = 0 → ∀ w, w = upd2 v o 2 (nB (v o 2) p) → (fun o1 X1 v1 => X1 = X ∧ o1 = some (0, opT sg l r) ∧ v1 = upd2 v o 2 (nO (v o 2) sg l r p)) (some ((0 : Nat), (0 : Int))) X w := fun g1 g2 g3 w hw => by
    refine ⟨rfl, by rw [g3], ?_⟩
    unfold nO; rw [if_pos ⟨g1, g2, g3⟩]; exact hw
  have ok_ : ∀ x, opT sg l r = x → (l = 0 ∨ r = 0 ∨ ¬ x = 0) → (fun o1 X1 v1 => X1 = X ∧ o1 = some (0, opT sg l r) ∧ v1 = upd2 v o 2 (nO (v o 2) sg l r p)) (some ((0 : Nat), x)) X v := fun x g1 g2 => by
    refine ⟨rfl, by rw [g1], ?_⟩
    unfold nO; rw [if_neg (fun z => by rcases g2 with y | y | y; exact z.1 y; exact z.2.1 y; exact y (g1.symm.trans z.2.2)), upd2_id]
  have l51 : ¬ l = 0 → ¬ r = 0 → ¬ (sg = 38 ∧ l = 116 ∧ r = 116) → ¬ (¬ sg = 38 ∧ ¬ l = 116 ∧ r = 110) → Ex mX9_operated 1 51 [(2, o), (0, sg), (0, l), (0, r), (0, p)] [] X v 0 0 (fun o1 X1 v1 => X1 = X ∧ o1 = some (0, opT sg l r) ∧ v1 = upd2 v o 2 (nO (v o 2) sg l r p)) := fun n1 n2 n3 n4 => by
    refine bX9_operated_51 o sg l r p (Nat.le_refl _) hW (fun _ _ _ _ => ⟨fun g => ⟨h.1, h.2.1, _, k_noteBad hW h p, fun w4 hP => bad_ n1 n2 ?_ w4 hP⟩, fun g => ⟨fun g2 => ⟨h.1, h.2.1, _, k_noteBad hW h p, fun w9 hP => bad_ n1 n2 ?_ w9 hP⟩, fun g2 => ⟨fun g3 => ⟨h.1, h.2.1, _, k_noteBad hW h p, fun w14 hP => bad_ n1 n2 ?_ w14 hP⟩, fun g3 => ok_ 110 ?_ (by omega)⟩⟩⟩)
    · unfold opT; (repeat' split) <;> omega
    · unfold opT; (repeat' split) <;> omega
    · unfold opT; (repeat' split) <;> omega
    · unfold opT; (repeat' split) <;> omega
  have l31 : ¬ l = 0 → ¬ r = 0 → ¬ (sg = 38 ∧ l = 116 ∧ r = 116) → Ex mX9_operated 1 31 [(2, o), (0, sg), (0, l), (0, r), (0, p)] [] X v 0 0 (fun o1 X1 v1 => X1 = X ∧ o1 = some (0, opT sg l r) ∧ v1 = upd2 v o 2 (nO (v o 2) sg l r p)) := fun n1 n2 n3 => by
    refine bX9_operated_31 o sg l r p (Nat.le_refl _) hW (fun _ _ _ _ => ⟨fun g => l51 n1 n2 n3 (by omega), fun g => ⟨fun g2 => l51 n1 n2 n3 (by omega), fun g2 => ⟨fun g3 => l51 n1 n2 n3 (by omega), fun g3 => ok_ l ?_ (by omega)⟩⟩⟩)
    unfold opT; (repeat' split) <;> omega
  have z0 : (l = 0 ∨ r = 0) → opT sg l r = 0 := fun z => by unfold opT; (repeat' split) <;> omega
  refine CX.of (by decide +kernel) rfl rfl rfl (bX9_operated_0 o sg l r p (Nat.le_refl _) hW (fun _ _ _ _ => ⟨fun g => ok_ 0 (z0 (Or.inl g)) (Or.inl g), fun g => ⟨fun g2 => ⟨fun g3 => l31 g g2 (by omega), fun g3 => ⟨fun g4 => l31 g g2 (by omega), fun g4 => ⟨fun g5 => l31 g g2 (by omega), fun g5 => ok_ 116 ?_ (by omega)⟩⟩⟩, fun g2 => ok_ 0 (z0 (Or.inr g2)) (Or.inr (Or.inl g2))⟩⟩))
  unfold opT; (repeat' split) <;> omega
/-- what an item that is no column does: its type, the stack, the note -/
def stepR (x p : Int) (σ : List Int) (b : Int) : Int × List Int × Int := if x = 38 ∨ x = 43 ∨ x = 45 then (opT x (σ.tail.headD 0) (σ.headD 0), σ.tail.tail, nO b x (σ.tail.headD 0) (σ.headD 0) p) else if x = 60 ∨ x = 61 then (0, σ.tail.tail, nU b (σ.headD 0) (σ.tail.headD 0) p) else if x = 257 then (110, σ, b) else if x = 258 then (116, σ, b) else if x = 266 then (110, σ.tail, nU b (σ.headD 0) 116 p) else if x = 267 then (116, σ.tail, nU b (σ.headD 0) 110 p) else (0, σ, b)
theorem okT_opT {s l r : Int} (hl : okT l) (hr : okT r) : okT (opT s l r) := by
  unfold okT at *
  unfold opT
  (repeat' split) <;> omega
theorem okT_hd {σ : List Int} (h : ∀ x ∈ σ, okT x) : okT (σ.headD 0) := by
  cases σ with
  | nil => exact Or.inl rfl
  | cons x σ => exact h x List.mem_cons_self
theorem okT_tl {σ : List Int} (h : ∀ x ∈ σ, okT x) : ∀ x ∈ σ.tail, okT x := fun x hx => h x (List.mem_of_mem_tail hx)
theorem tail_len {σ : List Int} (h : σ.length ≤ 16) : σ.tail.length ≤ 16 := by rw [List.length_tail]; omega
set_option maxRecDepth 100000 in
set_option maxHeartbeats 4000000 in
theorem k_resultOf {X : XX} {v : VV} {o s : Int} {σ : List Int} (hW : SW X) (h : TypS X o s) (hS : StkR v o s σ) (hl : σ.length ≤ 16) (hk : ∀ x ∈ σ, okT x) (x p : Int) : CX mX9_resultOf 2 [(2, o), (0, x), (0, p)] X v (fun o1 v1 => o1 = some (0, (stepR x p σ (v o 2)).1) ∧ StkR v1 o s (stepR x p σ (v o 2)).2.1 ∧ v1 o 2 = (stepR x p σ (v o 2)).2.2 ∧ Fr (STy o s) v v1) := by
  have hne := h.ne
  have up2 : ∀ {w : VV} {τ : List Int} (y : Int), StkR w o s τ → StkR (upd2 w o 2 y) o s τ := fun {w τ} y hw => ⟨by rw [upd2_n _ (by omega)]; exact hw.1, hw.2.fr τ (fun j _ _ => upd2_n _ (fun q => hne q.1.symm))⟩
  have l118 : (x = 60 ∨ x = 61) → Ex mX9_resultOf 2 118 [(2, o), (0, x), (0, p), (3, 0)] [] X v 0 0 (fun o1 X1 v1 => X1 = X ∧ o1 = some (0, (stepR x p σ (v o 2)).1) ∧ StkR v1 o s (stepR x p σ (v o 2)).2.1 ∧ v1 o 2 = (stepR x p σ (v o 2)).2.2 ∧ Fr (STy o s) v v1) := fun hx => by
    have es : stepR x p σ (v o 2) = (0, σ.tail.tail, nU (v o 2) (σ.headD 0) (σ.tail.headD 0) p) := by unfold stepR; rw [if_neg (by omega), if_pos hx]
    rw [es]
    refine bX9_resultOf_118 o x p (Nat.le_refl _) hW (fun _ _ => ⟨h.1, h.2.1, _, k_pop hW h hS hl, fun r21 w22 hP => ?_⟩)
    obtain ⟨hr, p1, p2, p3⟩ := hP
    obtain rfl : r21 = σ.headD 0 := by simpa using hr
    refine ⟨_, k_pop hW h p1 (tail_len hl), fun r25 w26 hP => ?_⟩
    obtain ⟨hr2, q1, q2, q3⟩ := hP
    obtain rfl : r25 = σ.tail.headD 0 := by simpa using hr2
    refine ⟨_, k_noteUnlike hW h _ _ p, fun w30 hP => ?_⟩
    have e : w30 = upd2 w26 o 2 (nU (w26 o 2) (σ.headD 0) (σ.tail.headD 0) p) := hP
    rw [e]
    refine ⟨rfl, rfl, up2 _ q1, ?_, (p3.via q3 (fun _ _ z => z) (fun _ _ z => z)).up (Or.inl ⟨rfl, Or.inr rfl⟩)⟩
    rw [upd2_s, q2, p2]
  have l133 : (x = 38 ∨ x = 43 ∨ x = 45) → Ex mX9_resultOf 2 133 [(2, o), (0, x), (0, p), (3, 0)] [] X v 0 0 (fun o1 X1 v1 => X1 = X ∧ o1 = some (0, (stepR x p σ (v o 2)).1) ∧ StkR v1 o s (stepR x p σ (v o 2)).2.1 ∧ v1 o 2 = (stepR x p σ (v o 2)).2.2 ∧ Fr (STy o s) v v1) := fun hx => by
    have es : stepR x p σ (v o 2) = (opT x (σ.tail.headD 0) (σ.headD 0), σ.tail.tail, nO (v o 2) x (σ.tail.headD 0) (σ.headD 0) p) := by unfold stepR; rw [if_pos hx]
    rw [es]
    refine bX9_resultOf_133 o x p (Nat.le_refl _) hW (fun _ _ => ⟨h.1, h.2.1, _, k_pop hW h hS hl, fun r34 w35 hP => ?_⟩)
    obtain ⟨hr, p1, p2, p3⟩ := hP
    obtain rfl : r34 = σ.headD 0 := by simpa using hr
    refine ⟨_, k_pop hW h p1 (tail_len hl), fun r38 w39 hP => ?_⟩
    obtain ⟨hr2, q1, q2, q3⟩ := hP
    obtain rfl : r38 = σ.tail.headD 0 := by simpa using hr2
    refine ⟨_, k_operated hW h x _ _ p hx (okT_hd (okT_tl hk)) (okT_hd hk), fun r42 w43 hP => ?_⟩
    obtain ⟨hr3, e⟩ := hP
    obtain rfl : r42 = opT x (σ.tail.headD 0) (σ.headD 0) := by simpa using hr3
    rw [e]
    refine ⟨rfl, rfl, up2 _ q1, ?_, (p3.via q3 (fun _ _ z => z) (fun _ _ z => z)).up (Or.inl ⟨rfl, Or.inr rfl⟩)⟩
    rw [upd2_s, q2, p2]
  refine CX.of (by decide +kernel) rfl rfl rfl (bX9_resultOf_0 o x p (Nat.le_refl _) hW (fun _ _ => ⟨fun g => l133 (Or.inl g), fun g => l133 (Or.inr (Or.inl g)), fun g => l133 (Or.inr (Or.inr g)), fun g => l118 (Or.inl g), fun g => l118 (Or.inr g), fun g => ?_, fun g => ?_, fun g => ⟨h.1, h.2.1, _, k_pop hW h hS hl, fun r3 w4 hP => ?_⟩, fun g => ⟨h.1, h.2.1, _, k_pop hW h hS hl, fun r12 w13 hP => ?_⟩, fun g => ?_⟩))
  · have es : stepR x p σ (v o 2) = (110, σ, v o 2) := by unfold stepR; rw [if_neg (by omega), if_neg (by omega), if_pos g]
    rw [es]; exact ⟨rfl, rfl, hS, rfl, Fr.rf⟩
  · have es : stepR x p σ (v o 2) = (116, σ, v o 2) := by unfold stepR; rw [if_neg (by omega), if_neg (by omega), if_neg (by omega), if_pos g]
    rw [es]; exact ⟨rfl, rfl, hS, rfl, Fr.rf⟩
  · have es : stepR x p σ (v o 2) = (110, σ.tail, nU (v o 2) (σ.headD 0) 116 p) := by unfold stepR; rw [if_neg (by omega), if_neg (by omega), if_neg (by omega), if_neg (by omega), if_pos g]
    rw [es]
    obtain ⟨hr, p1, p2, p3⟩ := hP
    obtain rfl : r3 = σ.headD 0 := by simpa using hr
    refine ⟨_, k_noteUnlike hW h _ _ p, fun w8 hP => ?_⟩
    have e : w8 = upd2 w4 o 2 (nU (w4 o 2) (σ.headD 0) 116 p) := hP
    rw [e]
    exact ⟨rfl, rfl, up2 _ p1, by rw [upd2_s, p2], p3.up (Or.inl ⟨rfl, Or.inr rfl⟩)⟩
  · have es : stepR x p σ (v o 2) = (116, σ.tail, nU (v o 2) (σ.headD 0) 110 p) := by unfold stepR; rw [if_neg (by omega), if_neg (by omega), if_neg (by omega), if_neg (by omega), if_neg (by omega), if_pos g]
    rw [es]
    obtain ⟨hr, p1, p2, p3⟩ := hP
    obtain rfl : r12 = σ.headD 0 := by simpa using hr
    refine ⟨_, k_noteUnlike hW h _ _ p, fun w17 hP => ?_⟩
    have e : w17 = upd2 w13 o 2 (nU (w13 o 2) (σ.headD 0) 110 p) := hP
    rw [e]
    exact ⟨rfl, rfl, up2 _ p1, by rw [upd2_s, p2], p3.up (Or.inl ⟨rfl, Or.inr rfl⟩)⟩
  · have es : stepR x p σ (v o 2) = (0, σ, v o 2) := by unfold stepR; rw [if_neg (by omega), if_neg (by omega), if_neg (by omega), if_neg (by omega), if_neg (by omega), if_neg (by omega)]
    rw [es]; exact ⟨rfl, rfl, hS, rfl, Fr.rf⟩
theorem stepR_len {x p b : Int} {σ : List Int} (h : σ.length ≤ 16) : (stepR x p σ b).2.1.length ≤ 16 := by
  unfold stepR
  (repeat' split) <;> (simp only [List.length_tail]; omega)
theorem stepR_ok {x p b : Int} {σ : List Int} (h : ∀ y ∈ σ, okT y) : okT (stepR x p σ b).1 ∧ ∀ y ∈ (stepR x p σ b).2.1, okT y := by
  unfold stepR
  split
  · exact ⟨okT_opT (okT_hd (okT_tl h)) (okT_hd h), okT_tl (okT_tl h)⟩
  split
  · exact ⟨Or.inl rfl, okT_tl (okT_tl h)⟩
  split
  · exact ⟨Or.inr (Or.inl rfl), h⟩
  split
  · exact ⟨Or.inr (Or.inr (Or.inl rfl)), h⟩
  split
  · exact ⟨Or.inr (Or.inl rfl), okT_tl h⟩
  split
  · exact ⟨Or.inr (Or.inr (Or.inl rfl)), okT_tl h⟩
  · exact ⟨Or.inl rfl, h⟩
theorem pushL_len {σ : List Int} {x : Int} (h : σ.length ≤ 16) : (pushL σ x).length ≤ 16 := by
  unfold pushL; split
  · simp; omega
  · exact h
theorem pushL_ok {σ : List Int} {x : Int} (h : ∀ y ∈ σ, okT y) (hx : okT x) : ∀ y ∈ pushL σ x, okT y := by
  unfold pushL; split
  · intro y hy
    rcases List.mem_cons.mp hy with e | e
    · rw [e]; exact hx
    · exact h y e
  · exact h
/-- a row of items, run -/
def runS (τ : Int → Int) : List (Int × Int) → List Int × Int → List Int × Int
  | [], s => s
  | q :: L, s => runS τ L (if 1000 ≤ q.1 ∧ q.1 < 1128 then (pushL s.1 (τ (q.1 - 1000)), s.2) else (pushL (stepR q.1 q.2 s.1 s.2).2.1 (stepR q.1 q.2 s.1 s.2).1, (stepR q.1 q.2 s.1 s.2).2.2))
/-- a program's cells -/
def PrgS (X : XX) (p st en it ic pl pc : Int) (R : Nat) : Prop := X.1.2 p = (5, 0) ∧ (0 ≤ p ∧ p < X.1.1) ∧ (X.2 p 2 = st ∧ X.1.2 st = (100, 7) ∧ (0 ≤ st ∧ st < X.1.1)) ∧ (X.2 p 3 = en ∧ X.1.2 en = (100, 7) ∧ (0 ≤ en ∧ en < X.1.1)) ∧ (X.2 p 0 = it ∧ RowS X it ic R) ∧ X.2 p 1 = pl ∧ RowS X pl pc R
theorem prgS25 {X : XX} (h : SW X) : PrgS X 25 26 27 28 29 30 31 400 := ⟨sW25 h, gW25 h, ⟨rW25_2 h, sW26 h, gW26 h⟩, ⟨rW25_3 h, sW27 h, gW27 h⟩, ⟨rW25_0 h, rowS28 h⟩, rW25_1 h, rowS30 h⟩
set_option maxRecDepth 100000 in
set_option maxHeartbeats 4000000 in
theorem k_startOf {X : XX} {v : VV} {p st en it ic pl pc : Int} {R : Nat} (hW : SW X) (h : PrgS X p st en it ic pl pc R) (f : Int) : CX mX5_startOf 0 [(2, p), (0, f)] X v (fun o1 v1 => v1 = v ∧ o1 = some (0, if 0 ≤ f ∧ f ≤ 6 then v st f else 0)) := by
  obtain ⟨s1, s2, ⟨rfl, s3, s4⟩, -⟩ := h
  refine CX.of (by decide +kernel) rfl rfl rfl (bX5_startOf_0 p f (Nat.le_refl _) hW (fun _ => ⟨fun g => ⟨rfl, rfl, ?_⟩, fun g => ⟨fun g2 => ⟨rfl, rfl, ?_⟩, fun g2 => ⟨s1, s2, 7, s3, s4, ⟨by omega, by omega⟩, rfl, rfl, ?_⟩⟩⟩))
  · rw [if_neg (by omega)]
  · rw [if_neg (by omega)]
  · rw [if_pos (by omega)]
set_option maxRecDepth 100000 in
set_option maxHeartbeats 4000000 in
theorem k_stopOf {X : XX} {v : VV} {p st en it ic pl pc : Int} {R : Nat} (hW : SW X) (h : PrgS X p st en it ic pl pc R) (f : Int) : CX mX5_stopOf 0 [(2, p), (0, f)] X v (fun o1 v1 => v1 = v ∧ o1 = some (0, if 0 ≤ f ∧ f ≤ 6 then v en f else 0)) := by
  obtain ⟨s1, s2, -, ⟨rfl, s3, s4⟩, -⟩ := h
  refine CX.of (by decide +kernel) rfl rfl rfl (bX5_stopOf_0 p f (Nat.le_refl _) hW (fun _ => ⟨fun g => ⟨rfl, rfl, ?_⟩, fun g => ⟨fun g2 => ⟨rfl, rfl, ?_⟩, fun g2 => ⟨s1, s2, 7, s3, s4, ⟨by omega, by omega⟩, rfl, rfl, ?_⟩⟩⟩))
  · rw [if_neg (by omega)]
  · rw [if_neg (by omega)]
  · rw [if_pos (by omega)]
def AtL (v : VV) (ic pc : Int) : Int → List (Int × Int) → Prop
  | _, [] => True
  | s, q :: L => v ic s = q.1 ∧ v pc s = q.2 ∧ AtL v ic pc (s + 1) L
/-- part f of a program is the row L of items -/
def PartR (v : VV) (st en it ic pl pc f : Int) (L : List (Int × Int)) : Prop := 0 ≤ v st f ∧ v en f = v st f + L.length ∧ v en f ≤ v it 1 ∧ v en f ≤ v pl 1 ∧ AtL v ic pc (v st f) L
theorem AtL.fr {v V : VV} {ic pc : Int} : ∀ (L : List (Int × Int)) (s : Int), AtL v ic pc s L → (∀ j, s ≤ j → j < s + L.length → V ic j = v ic j ∧ V pc j = v pc j) → AtL V ic pc s L
  | [], _, _, _ => trivial
  | q :: L, s, h, hf => by
    obtain ⟨h1, h2, h3⟩ := h
    obtain ⟨e1, e2⟩ := hf s (Int.le_refl _) (by simp; omega)
    exact ⟨e1.trans h1, e2.trans h2, AtL.fr L (s + 1) h3 (fun j j0 j1 => hf j (by omega) (by simp; omega))⟩
theorem runS_c (τ : Int → Int) (q : Int × Int) (L : List (Int × Int)) (s : List Int × Int) : runS τ (q :: L) s = runS τ L (if 1000 ≤ q.1 ∧ q.1 < 1128 then (pushL s.1 (τ (q.1 - 1000)), s.2) else (pushL (stepR q.1 q.2 s.1 s.2).2.1 (stepR q.1 q.2 s.1 s.2).1, (stepR q.1 q.2 s.1 s.2).2.2)) := rfl
set_option maxRecDepth 100000 in
set_option maxHeartbeats 4000000 in
theorem k_typeOfPart {X : XX} {v : VV} {o s p st en it ic pl pc ty : Int} {R : Nat} {L : List (Int × Int)} (hW : SW X) (h : TypS X o s) (hp : PrgS X p st en it ic pl pc R) (hR : R ≤ 60000000) (hty : X.1.2 ty = (100, 128) ∧ (0 ≤ ty ∧ ty < X.1.1)) (hd : (¬ ty = o ∧ ¬ ty = s) ∧ (¬ ic = o ∧ ¬ ic = s) ∧ (¬ pc = o ∧ ¬ pc = s) ∧ (¬ it = o ∧ ¬ it = s) ∧ (¬ pl = o ∧ ¬ pl = s) ∧ (¬ st = o ∧ ¬ st = s) ∧ (¬ en = o ∧ ¬ en = s)) (f : Int) (hf : 0 ≤ f ∧ f ≤ 6) (hL : PartR v st en it ic pl pc f L) (hs : v it 1 ≤ R ∧ v pl 1 ≤ R) (hok : ∀ q ∈ L, 1000 ≤ q.1 → q.1 < 1128 → okT (v ty (q.1 - 1000))) (h32 : ∀ q ∈ L, -1 ≤ q.1 ∧ q.1 ≤ 1000000) : CX mX9_typeOfPart 3 [(2, o), (2, p), (0, f), (2, ty)] X v (fun o1 v1 => o1 = some (0, (runS (v ty) L ([], -1)).1.headD 0) ∧ v1 o 2 = (runS (v ty) L ([], -1)).2 ∧ Fr (STy o s) v v1) := by
  obtain ⟨l1, l2, l3, l4, l5⟩ := hL
  obtain ⟨d1, d2, d3, d4, d5, d6, d7⟩ := hd
  have g0 : ∀ {V : VV}, Fr (STy o s) v V → (∀ j, V ty j = v ty j) ∧ (∀ j, V ic j = v ic j) ∧ (∀ j, V pc j = v pc j) ∧ V it 1 = v it 1 ∧ V pl 1 = v pl 1 := fun {V} hV =>
    ⟨fun j => hV _ _ (fun q => q.elim (fun z => d1.1 z.1) d1.2), fun j => hV _ _ (fun q => q.elim (fun z => d2.1 z.1) d2.2), fun j => hV _ _ (fun q => q.elim (fun z => d3.1 z.1) d3.2), hV _ _ (fun q => q.elim (fun z => d4.1 z.1) d4.2), hV _ _ (fun q => q.elim (fun z => d5.1 z.1) d5.2)⟩
  have loop : ∀ (K : List (Int × Int)) (i : Int) (σ : List Int) (V : VV), (∀ q ∈ K, q ∈ L) → 0 ≤ i → i + K.length = v en f → AtL v ic pc i K → Fr (STy o s) v V → StkR V o s σ → σ.length ≤ 16 → (∀ y ∈ σ, okT y) → runS (v ty) K (σ, V o 2) = runS (v ty) L ([], -1) → Ex mX9_typeOfPart 3 24 [(2, o), (2, p), (0, f), (2, ty), (0, v en f), (0, i), (3, 0), (3, 0)] [] X V 0 0 (fun o1 X1 v1 => X1 = X ∧ o1 = some (0, (runS (v ty) L ([], -1)).1.headD 0) ∧ v1 o 2 = (runS (v ty) L ([], -1)).2 ∧ Fr (STy o s) v v1) := by
    intro K
    induction K with
    | nil =>
      intro i σ V _ hi he _ hV hS hl hk hrun
      have hrun2 : (σ, V o 2) = runS (v ty) L ([], -1) := hrun
      refine bX9_typeOfPart_24 o p f ty _ i (Nat.le_refl _) hW (fun _ _ _ => ⟨fun g => ⟨h.1, h.2.1, _, k_pop hW h hS hl, fun r13 w14 hP => ?_⟩, fun g => by simp at he; omega⟩)
      obtain ⟨hr, p1, p2, p3⟩ := hP
      rw [← hrun2]
      exact ⟨rfl, hr, p2, hV.via p3 (fun _ _ z => z) (fun _ _ z => z)⟩
    | cons q K ih =>
      intro i σ V hin hi he hat hV hS hl hk hrun
      obtain ⟨a1, a2, a3⟩ := hat
      have hqL := hin q List.mem_cons_self
      have hq32 := h32 q hqL
      obtain ⟨e1, e2, e3, e4, e5⟩ := g0 hV
      have hlen : i < v en f := by simp at he; omega
      -- behind one item
      have nx : ∀ (σ' : List Int) (W : VV), Fr (STy o s) V W → StkR W o s σ' → σ'.length ≤ 16 → (∀ y ∈ σ', okT y) → runS (v ty) K (σ', W o 2) = runS (v ty) L ([], -1) → i32 (i + 1) ∧ Ex mX9_typeOfPart 3 24 [(2, o), (2, p), (0, f), (2, ty), (0, v en f), (0, i + 1), (3, 0), (3, 0)] [] X W 0 0 (fun o1 X1 v1 => X1 = X ∧ o1 = some (0, (runS (v ty) L ([], -1)).1.headD 0) ∧ v1 o 2 = (runS (v ty) L ([], -1)).2 ∧ Fr (STy o s) v v1) := fun σ' W w1 w2 w3 w4 w5 =>
        ⟨⟨by omega, by omega⟩, ih (i + 1) σ' W (fun y hy => hin y (List.mem_cons_of_mem _ hy)) (by omega) (by simp at he; omega) a3 (hV.via w1 (fun _ _ z => z) (fun _ _ z => z)) w2 w3 w4 w5⟩
      have l73 : ¬ (1000 ≤ q.1 ∧ q.1 < 1128) → ∀ (x7 : Int) (W : VV), W = V → Ex mX9_typeOfPart 3 73 [(2, o), (2, p), (0, f), (2, ty), (0, v en f), (0, i), (0, q.1), (0, x7)] [] X W 0 0 (fun o1 X1 v1 => X1 = X ∧ o1 = some (0, (runS (v ty) L ([], -1)).1.headD 0) ∧ v1 o 2 = (runS (v ty) L ([], -1)).2 ∧ Fr (STy o s) v v1) := fun hno x7 W hW7 => by
        subst hW7
        have hrun2 : runS (v ty) K (pushL (stepR q.1 q.2 σ (W o 2)).2.1 (stepR q.1 q.2 σ (W o 2)).1, (stepR q.1 q.2 σ (W o 2)).2.2) = runS (v ty) L ([], -1) := by
          have := hrun
          rw [runS_c] at this
          rw [if_neg hno] at this
          exact this
        refine bX9_typeOfPart_73 o p f ty _ i q.1 x7 (Nat.le_refl _) hW (fun _ _ _ _ _ => ⟨hp.1, hp.2.1, ?_⟩)
        obtain ⟨-, -, -, -, -, hpl, hpr⟩ := hp
        rw [hpl]
        refine ⟨hpr.1, hpr.2.1, _, k_get hW hpr (by rw [e5]; exact hs.2) i, fun r31 w32 hP => ?_⟩
        obtain ⟨rfl, hr⟩ := hP
        obtain rfl : r31 = rGet w32 pl pc i := by simpa using hr
        have ep : rGet w32 pl pc i = q.2 := by rw [rGet_in ⟨hi, by rw [e5]; omega⟩, e3]; exact a2
        rw [ep]
        refine ⟨h.1, h.2.1, _, k_resultOf hW h hS hl hk q.1 q.2, fun r36 w37 hP => ?_⟩
        obtain ⟨hr2, p1, p2, p3⟩ := hP
        obtain rfl : r36 = (stepR q.1 q.2 σ (w32 o 2)).1 := by simpa using hr2
        refine ⟨_, k_push hW h p1 _, fun w41 hP => ?_⟩
        obtain ⟨q1, q2, q3⟩ := hP
        exact nx _ w41 (p3.via q3 (fun _ _ z => z) (fun _ _ z => z)) q1 (pushL_len (stepR_len hl)) (pushL_ok (stepR_ok hk).2 (stepR_ok hk).1) (by rw [q2, p2]; exact hrun2)
      refine bX9_typeOfPart_24 o p f ty _ i (Nat.le_refl _) hW (fun _ _ _ => ⟨fun g => by omega, fun g => ⟨hp.1, hp.2.1, ?_⟩⟩)
      obtain ⟨hp1, hp2, hp3, hp4, ⟨hit, hitr⟩, hp5⟩ := id hp
      rw [hit]
      refine ⟨hitr.1, hitr.2.1, _, k_get hW hitr (by rw [e4]; exact hs.1) i, fun r19 w20 hP => ?_⟩
      obtain ⟨rfl, hr⟩ := hP
      obtain rfl : r19 = rGet w20 it ic i := by simpa using hr
      have ei : rGet w20 it ic i = q.1 := by rw [rGet_in ⟨hi, by rw [e4]; omega⟩, e2]; exact a1
      rw [ei]
      refine ⟨fun _ => ⟨by omega, by omega⟩, fun g2 => l73 (by omega) _ w20 rfl, fun g2 => ⟨128, hty.1, hty.2, fun g3 => l73 (by omega) _ w20 rfl, fun g3 => ⟨⟨by omega, by omega⟩, h.1, h.2.1, _, k_push hW h hS _, fun w26 hP => ?_⟩⟩⟩
      obtain ⟨q1, q2, q3⟩ := hP
      have hcol : 1000 ≤ q.1 ∧ q.1 < 1128 := by omega
      have hrun2 : runS (v ty) K (pushL σ (v ty (q.1 - 1000)), w20 o 2) = runS (v ty) L ([], -1) := by
        have := hrun
        rw [runS_c] at this
        rw [if_pos hcol] at this
        exact this
      rw [e1] at q1
      exact nx _ w26 q3 q1 (pushL_len hl) (pushL_ok hk (hok q hqL hcol.1 hcol.2)) (by rw [q2]; exact hrun2)
  have u0 : Fr (STy o s) v (upd2 (upd2 v o 1 0) o 2 (-1)) := (Fr.rf.up (Or.inl ⟨rfl, Or.inl rfl⟩)).up (Or.inl ⟨rfl, Or.inr rfl⟩)
  have u1 : upd2 (upd2 v o 1 0) o 2 (-1) o 1 = 0 := by rw [upd2_n _ (by omega), upd2_s]
  have u2 : upd2 (upd2 v o 1 0) o 2 (-1) o 2 = -1 := upd2_s _ _ _ _
  refine CX.of (by decide +kernel) rfl rfl rfl (bX9_typeOfPart_0 o p f ty (Nat.le_refl _) hW (fun _ => ⟨h.1, h.2.1, hp.1, hp.2.1, _, k_stopOf hW hp f, fun r4 w5 hP => ?_⟩))
  obtain ⟨rfl, hr⟩ := hP
  rw [if_pos hf] at hr
  refine ⟨_, k_startOf hW hp f, fun r8 w9 hP => ?_⟩
  obtain ⟨rfl, hr8⟩ := hP
  rw [if_pos hf] at hr8
  have est : (upd2 (upd2 v o 1 0) o 2 (-1)) st f = v st f := u0 _ _ (fun q => q.elim (fun z => d6.1 z.1) d6.2)
  have een : (upd2 (upd2 v o 1 0) o 2 (-1)) en f = v en f := u0 _ _ (fun q => q.elim (fun z => d7.1 z.1) d7.2)
  obtain rfl : r4 = v en f := by rw [een] at hr; simpa using hr
  obtain rfl : r8 = v st f := by rw [est] at hr8; simpa using hr8
  exact loop L (v st f) [] (upd2 (upd2 v o 1 0) o 2 (-1)) (fun q hq => hq) l1 l2.symm l5 u0 ⟨u1, trivial⟩ (by simp) (fun y hy => absurd hy List.not_mem_nil) (by rw [u2])
