/-! ===== tokens of a text ===== -/
def wKind (w : Int) : Int := if w = 10650290 then 261 else if w = 439745 then 262 else if w = 70441 then 263 else if w = 131638 then 264 else if w = 12384743 then 265 else if w = 8897 then 266 else if w = 14409 then 267 else 256
theorem wKind_cases (w : Int) : (w = 10650290 ∧ wKind w = 261) ∨ (w = 439745 ∧ wKind w = 262) ∨ (w = 70441 ∧ wKind w = 263) ∨ (w = 131638 ∧ wKind w = 264) ∨ (w = 12384743 ∧ wKind w = 265) ∨ (w = 8897 ∧ wKind w = 266) ∨ (w = 14409 ∧ wKind w = 267) ∨ (wKind w = 256 ∧ ¬ w = 10650290 ∧ ¬ w = 439745 ∧ ¬ w = 70441 ∧ ¬ w = 131638 ∧ ¬ w = 12384743 ∧ ¬ w = 8897 ∧ ¬ w = 14409) := by
  by_cases h1 : w = 10650290
  · subst h1; exact Or.inl ⟨rfl, rfl⟩
  by_cases h2 : w = 439745
  · subst h2; exact Or.inr (Or.inl ⟨rfl, rfl⟩)
  by_cases h3 : w = 70441
  · subst h3; exact Or.inr (Or.inr (Or.inl ⟨rfl, rfl⟩))
  by_cases h4 : w = 131638
  · subst h4; exact Or.inr (Or.inr (Or.inr (Or.inl ⟨rfl, rfl⟩)))
  by_cases h5 : w = 12384743
  · subst h5; exact Or.inr (Or.inr (Or.inr (Or.inr (Or.inl ⟨rfl, rfl⟩))))
  by_cases h6 : w = 8897
  · subst h6; exact Or.inr (Or.inr (Or.inr (Or.inr (Or.inr (Or.inl ⟨rfl, rfl⟩)))))
  by_cases h7 : w = 14409
  · subst h7; exact Or.inr (Or.inr (Or.inr (Or.inr (Or.inr (Or.inr (Or.inl ⟨rfl, rfl⟩))))))
  refine Or.inr (Or.inr (Or.inr (Or.inr (Or.inr (Or.inr (Or.inr ⟨?_, h1, h2, h3, h4, h5, h6, h7⟩))))))
  unfold wKind
  rw [if_neg h1, if_neg h2, if_neg h3, if_neg h4, if_neg h5, if_neg h6, if_neg h7]
/-- the end of what a quote at s holds -/
def qE (b : Int → Int) (n s : Int) : Int := rEnd b qtB n (s + 1)
def tEnd (b : Int → Int) (n s : Int) : Int := if s = n then n else if ltB (b s) = true then rEnd b ltB n s else if dgB (b s) = true then rEnd b dgB n s else if b s = 39 then (if qE b n s < n ∧ b (qE b n s) = 39 then qE b n s + 1 else qE b n s) else s + 1
def tKind (b : Int → Int) (n s : Int) : Int := if s = n then 260 else if ltB (b s) = true then (if rEnd b ltB n s - s ≤ 8 then wKind (cdm 27 (fun i => b (s + i)) (rEnd b ltB n s - s).toNat) else 256) else if dgB (b s) = true then 257 else if b s = 39 then (if qE b n s < n ∧ b (qE b n s) = 39 then 258 else 259) else b s
/-- a text: bytes -/
def TX (b : Int → Int) (n : Int) : Prop := (0 ≤ n ∧ n ≤ 400) ∧ ∀ i, 0 ≤ i → i < n → 0 ≤ b i ∧ b i ≤ 255
theorem rEnd_pos {b : Int → Int} {p : Int → Bool} {n s : Int} (h : s < n) (hp : p (b s) = true) : s < rEnd b p n s := by
  obtain ⟨a1, a2, a3, a4⟩ := rEnd_spec b p (Int.le_of_lt h)
  rcases Int.lt_or_le s (rEnd b p n s) with q | q
  · exact q
  · have e : rEnd b p n s = s := by omega
    rw [e] at a4
    exact absurd hp (a4 h)
/-- what stands at s: the end, a word, digits, a quote, a sign -/
def tcE (b : Int → Int) (n s : Int) : Prop := s = n ∧ lNow b n s = 0 ∧ lOver b n s = -1 ∧ lWord b n s = 0 ∧ lE b n s = n ∧ tKind b n s = 260 ∧ tEnd b n s = n
def tcW (b : Int → Int) (n s : Int) : Prop := s < n ∧ (97 ≤ b s ∧ b s ≤ 122) ∧ lNow b n s = 1 ∧ lE b n s = rEnd b ltB n s ∧ tEnd b n s = rEnd b ltB n s ∧ ((tEnd b n s - s ≤ 8 ∧ lOver b n s = -1 ∧ lWord b n s = cdm 27 (fun i => b (s + i)) (rEnd b ltB n s - s).toNat ∧ tKind b n s = wKind (lWord b n s)) ∨ (8 < tEnd b n s - s ∧ lOver b n s = s + 8 ∧ lWord b n s = 0 ∧ tKind b n s = 256))
def tcD (b : Int → Int) (n s : Int) : Prop := s < n ∧ (48 ≤ b s ∧ b s ≤ 57) ∧ lNow b n s = 2 ∧ lE b n s = tEnd b n s ∧ tKind b n s = 257 ∧ ((tEnd b n s - s ≤ 4 ∧ lOver b n s = -1) ∨ (4 < tEnd b n s - s ∧ lOver b n s = s + 4))
def tcQ (b : Int → Int) (n s : Int) : Prop := s < n ∧ b s = 39 ∧ lNow b n s = 3 ∧ lOver b n s = -1 ∧ lE b n s = s + 1 ∧ (s + 1 ≤ qE b n s ∧ qE b n s ≤ n) ∧ ((tKind b n s = 258 ∧ qE b n s < n ∧ b (qE b n s) = 39 ∧ tEnd b n s = qE b n s + 1) ∨ (tKind b n s = 259 ∧ ¬ (qE b n s < n ∧ b (qE b n s) = 39) ∧ tEnd b n s = qE b n s))
def tcS (b : Int → Int) (n s : Int) : Prop := s < n ∧ (¬ (97 ≤ b s ∧ b s ≤ 122) ∧ ¬ (48 ≤ b s ∧ b s ≤ 57) ∧ ¬ b s = 39) ∧ ((b s < 32 ∧ lNow b n s = -1) ∨ (32 ≤ b s ∧ lNow b n s = b s)) ∧ lOver b n s = -1 ∧ lE b n s = s + 1 ∧ tKind b n s = b s ∧ tEnd b n s = s + 1
theorem tcase (b : Int → Int) {n s : Int} (h : s ≤ n) : tcE b n s ∨ tcW b n s ∨ tcD b n s ∨ tcQ b n s ∨ tcS b n s := by
  by_cases h1 : s = n
  · left; unfold tcE lNow lOver lWord lE tKind tEnd
    simp only [if_pos h1]
    refine ⟨h1, ?_, ?_, ?_, ?_, ?_, ?_⟩ <;> first | trivial | rfl
  have hlt : s < n := by omega
  by_cases h2 : ltB (b s) = true
  · right; left; unfold tcW lNow lOver lWord lE tKind tEnd
    simp only [if_neg h1, if_pos h2]
    refine ⟨hlt, ltB_iff.mp h2, trivial, trivial, trivial, ?_⟩
    by_cases h3 : rEnd b ltB n s - s ≤ 8
    · left; simp only [if_pos h3]; exact ⟨h3, trivial, trivial, trivial⟩
    · right; simp only [if_neg h3]; exact ⟨by omega, trivial, trivial, trivial⟩
  have h2' : ¬ (97 ≤ b s ∧ b s ≤ 122) := fun q => h2 (ltB_iff.mpr q)
  by_cases h4 : dgB (b s) = true
  · right; right; left; unfold tcD lNow lOver lE tKind tEnd
    simp only [if_neg h1, if_neg h2, if_pos h4]
    refine ⟨hlt, dgB_iff.mp h4, trivial, trivial, trivial, ?_⟩
    by_cases h3 : rEnd b dgB n s - s ≤ 4
    · left; simp only [if_pos h3]; exact ⟨h3, trivial⟩
    · right; simp only [if_neg h3]; exact ⟨by omega, trivial⟩
  have h4' : ¬ (48 ≤ b s ∧ b s ≤ 57) := fun q => h4 (dgB_iff.mpr q)
  by_cases h5 : b s = 39
  · right; right; right; left; unfold tcQ lNow lOver lE tKind tEnd
    simp only [if_neg h1, if_neg h2, if_neg h4, if_pos h5]
    have hq : s + 1 ≤ qE b n s ∧ qE b n s ≤ n := ⟨(rEnd_spec b qtB (by omega)).1, (rEnd_spec b qtB (by omega)).2.1⟩
    refine ⟨hlt, h5, trivial, trivial, trivial, hq, ?_⟩
    by_cases h3 : qE b n s < n ∧ b (qE b n s) = 39
    · left; simp only [if_pos h3]; exact ⟨trivial, h3.1, h3.2, trivial⟩
    · right; simp only [if_neg h3]; exact ⟨trivial, h3, trivial⟩
  · right; right; right; right; unfold tcS lNow lOver lE tKind tEnd
    simp only [if_neg h1, if_neg h2, if_neg h4, if_neg h5]
    refine ⟨hlt, ⟨h2', h4', h5⟩, ?_, trivial, trivial, trivial, trivial⟩
    by_cases h6 : b s < 32
    · left; exact ⟨h6, if_pos h6⟩
    · right; exact ⟨by omega, if_neg h6⟩
theorem tEnd_bd (b : Int → Int) {n s : Int} (h : s ≤ n) : tEnd b n s ≤ n ∧ (s < n → s < tEnd b n s) ∧ s ≤ tEnd b n s := by
  rcases tcase b h with q | q | q | q | q
  · obtain ⟨a, -, -, -, -, -, c⟩ := q; omega
  · obtain ⟨a, c, -, -, e, -⟩ := q
    have := rEnd_pos (b := b) (p := ltB) a (ltB_iff.mpr c)
    have := (rEnd_spec b ltB (Int.le_of_lt a)).2.1
    omega
  · obtain ⟨a, c, -, -, -⟩ := q
    have h1 : ¬ s = n := by omega
    have h2 : ¬ ltB (b s) = true := fun z => by have := ltB_iff.mp z; omega
    have h3 : dgB (b s) = true := dgB_iff.mpr c
    have e : tEnd b n s = rEnd b dgB n s := by unfold tEnd; rw [if_neg h1, if_neg h2, if_pos h3]
    have := rEnd_pos (b := b) (p := dgB) a h3
    have := (rEnd_spec b dgB (Int.le_of_lt a)).2.1
    omega
  · obtain ⟨a, -, -, -, -, c, e⟩ := q; omega
  · obtain ⟨a, -, -, -, -, -, e⟩ := q; omega
def tSn (b : Int → Int) (n : Int) : Nat → Int
  | 0 => lS b n 0
  | k + 1 => lS b n (tEnd b n (tSn b n k))
/-- where token a begins -/
def tS (b : Int → Int) (n a : Int) : Int := tSn b n a.toNat
theorem lS_bd (b : Int → Int) {n p : Int} (h : p ≤ n) : p ≤ lS b n p ∧ lS b n p ≤ n := ⟨(rEnd_spec b bkB h).1, (rEnd_spec b bkB h).2.1⟩
theorem tS_0 (b : Int → Int) (n : Int) : tS b n 0 = lS b n 0 := rfl
theorem tS_s (b : Int → Int) (n : Int) {a : Int} (h : 0 ≤ a) : tS b n (a + 1) = lS b n (tEnd b n (tS b n a)) := by
  unfold tS
  rw [show (a + 1).toNat = a.toNat + 1 by omega]
  rfl
theorem tSn_bd (b : Int → Int) {n : Int} (h : 0 ≤ n) : ∀ k : Nat, (0 ≤ tSn b n k ∧ tSn b n k ≤ n) ∧ (tSn b n k < n → (k : Int) ≤ tSn b n k)
  | 0 => ⟨⟨(lS_bd b h).1, (lS_bd b h).2⟩, fun _ => (lS_bd b h).1⟩
  | k + 1 => by
    obtain ⟨⟨h1, h2⟩, h3⟩ := tSn_bd b h k
    obtain ⟨e1, e2, e3⟩ := tEnd_bd b h2
    have h4 := lS_bd b e1
    have h5 : tSn b n (k + 1) = lS b n (tEnd b n (tSn b n k)) := rfl
    rw [h5]
    refine ⟨⟨by omega, h4.2⟩, fun q => ?_⟩
    have h6 : tSn b n k < n := by
      rcases Int.lt_or_le (tSn b n k) n with z | z
      · exact z
      · omega
    have := h3 h6
    have := e2 h6
    omega
theorem tS_bd (b : Int → Int) {n : Int} (h : 0 ≤ n) (a : Int) : 0 ≤ tS b n a ∧ tS b n a ≤ n := (tSn_bd b h a.toNat).1
theorem tS_lt (b : Int → Int) {n : Int} (h : 0 ≤ n) {a : Int} (h0 : 0 ≤ a) (hl : tS b n a < n) : a ≤ tS b n a := by
  have := (tSn_bd b h a.toNat).2 hl
  show a ≤ tSn b n a.toNat
  omega
/-- kinds, lengths and places of tokens -/
def tK (b : Int → Int) (n a : Int) : Int := tKind b n (tS b n a)
def tL (b : Int → Int) (n a : Int) : Int := tEnd b n (tS b n a) - tS b n a
theorem tK_end (b : Int → Int) {n : Int} (hT : TX b n) (a : Int) : tK b n a = 260 ↔ tS b n a = n := by
  have h := (tS_bd b hT.1.1 a).2
  have h0 := (tS_bd b hT.1.1 a).1
  unfold tK
  rcases tcase b h with q | q | q | q | q
  · exact ⟨fun _ => q.1, fun _ => q.2.2.2.2.2.1⟩
  · obtain ⟨q1, -, -, -, -, q2⟩ := q
    refine ⟨fun z => ?_, fun z => by omega⟩
    rcases q2 with q2 | q2
    · have := wKind_cases (lWord b n (tS b n a)); omega
    · omega
  · obtain ⟨q1, -, -, -, q2, -⟩ := q; omega
  · obtain ⟨q1, -, -, -, -, -, q2⟩ := q; omega
  · obtain ⟨q1, -, -, -, -, q2, -⟩ := q
    have := hT.2 _ h0 q1
    omega
theorem tK_in (b : Int → Int) {n : Int} (hT : TX b n) {a : Int} (h0 : 0 ≤ a) (h : ¬ tK b n a = 260) : tS b n a < n ∧ a ≤ tS b n a := by
  have h1 := tS_bd b hT.1.1 a
  have h2 : ¬ tS b n a = n := fun z => h ((tK_end b hT a).mpr z)
  exact ⟨by omega, tS_lt b hT.1.1 h0 (by omega)⟩
