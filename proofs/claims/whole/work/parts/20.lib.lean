/-! ===== contracts that keep the references ===== -/
def CX (M : MM) (d : Nat) (avs : List AV) (X : XX) (v : VV) (P : Option AV → VV → Prop) : Prop := Con M d 0 0 avs X v (fun o X1 v1 => X1 = X ∧ P o v1)
theorem CX.of {M : MM} {d : Nat} {avs ls : List AV} {X : XX} {v : VV} {P : Option AV → VV → Prop} (hplain : plainName M.1.cls = true) (h3 : avs.all (fun a => decide (a.1 < 3)) = true) (hle : Nat.ble (avs.flatMap (fun a => if a.1 = 1 then [a, (3, 0)] else [a])).length M.2.2.1 = true) (hl : entL M.2.2.1 avs = ls) (h : Ex M d 0 ls [] X v 0 0 (fun o X1 v1 => X1 = X ∧ P o v1)) : CX M d avs X v P :=
  Con.of hplain (fun a ha => by simpa using List.all_eq_true.mp h3 a ha) (Nat.le_of_ble_eq_true hle) (by rw [hl]; exact h)
theorem CX.mono {M : MM} {d : Nat} {avs : List AV} {X : XX} {v : VV} {P P' : Option AV → VV → Prop} (h : CX M d avs X v P) (hp : ∀ o v1, P o v1 → P' o v1) : CX M d avs X v P' := Con.mono h (fun o X1 v1 q => ⟨q.1, hp o v1 q.2⟩)
noncomputable def bI (p : Prop) : Int := @ite Int p (Classical.propDecidable p) 1 0
theorem bI_t {p : Prop} (h : p) : bI p = 1 := by unfold bI; rw [if_pos h]
theorem bI_f {p : Prop} (h : ¬ p) : bI p = 0 := by unfold bI; rw [if_neg h]
theorem bI_0 {p : Prop} : bI p = 0 ↔ ¬ p := by
  constructor
  · intro h hp; rw [bI_t hp] at h; exact absurd h (by decide)
  · exact bI_f
theorem bI_1 {p : Prop} : bI p = 1 ↔ p := by
  constructor
  · intro h
    by_cases hp : p
    · exact hp
    · rw [bI_f hp] at h; exact absurd h (by decide)
  · exact bI_t
theorem bI_n0 {p : Prop} : ¬ bI p = 0 ↔ p := by rw [bI_0]; exact Classical.not_not
theorem bI_01 (p : Prop) : bI p = 0 ∨ bI p = 1 := by
  by_cases h : p
  · exact Or.inr (bI_t h)
  · exact Or.inl (bI_f h)
theorem bI_iff {p q : Prop} (h : p ↔ q) : bI p = bI q := by
  by_cases hp : p
  · rw [bI_t hp, bI_t (h.mp hp)]
  · rw [bI_f hp, bI_f (fun hq => hp (h.mpr hq))]
/-- the first place below n where p holds, or -1 -/
def First (p : Int → Prop) (n r : Int) : Prop := (r = -1 ∧ ∀ t, 0 ≤ t → t < n → ¬ p t) ∨ (0 ≤ r ∧ r < n ∧ p r ∧ ∀ t, 0 ≤ t → t < r → ¬ p t)
theorem First.unique {p : Int → Prop} {n r s : Int} (h1 : First p n r) (h2 : First p n s) : r = s := by
  rcases h1 with ⟨rfl, a⟩ | ⟨a, b, c, e⟩ <;> rcases h2 with ⟨rfl, a'⟩ | ⟨a', b', c', e'⟩
  · rfl
  · exact absurd c' (a s a' b')
  · exact absurd c (a' r a b)
  · rcases Int.lt_trichotomy r s with h | h | h
    · exact absurd c (e' r a h)
    · exact h
    · exact absurd c' (e s a' h)
theorem First.congr {p q : Int → Prop} {n m r : Int} (hn : ∀ t, n ≤ t → t < m → ¬ q t) (hm : n ≤ m) (h : ∀ t, 0 ≤ t → t < n → (p t ↔ q t)) (h1 : First p n r) : First q m r := by
  rcases h1 with ⟨rfl, a⟩ | ⟨a, b, c, e⟩
  · refine Or.inl ⟨rfl, fun t h0 h2 => ?_⟩
    by_cases h3 : t < n
    · exact fun z => a t h0 h3 ((h t h0 h3).mpr z)
    · exact hn t (by omega) h2
  · exact Or.inr ⟨a, by omega, (h r a b).mp c, fun t h0 h2 z => e t h0 h2 ((h t h0 (by omega)).mpr z)⟩
/-- nothing changed but where S -/
def Keep (S : Int → Int → Prop) (v v' : VV) : Prop := ∀ r j, S r j ∨ v' r j = v r j
theorem Keep.rf {S : Int → Int → Prop} {v : VV} : Keep S v v := fun _ _ => Or.inr rfl
theorem Keep.tr {S : Int → Int → Prop} {a b c : VV} (h1 : Keep S a b) (h2 : Keep S b c) : Keep S a c := fun r j => by
  rcases h2 r j with h | h
  · exact Or.inl h
  · rcases h1 r j with q | q
    · exact Or.inl q
    · exact Or.inr (h.trans q)
theorem Keep.mono {S T : Int → Int → Prop} {a b : VV} (h : Keep S a b) (hs : ∀ r j, S r j → T r j) : Keep T a b := fun r j => (h r j).imp (hs r j) id
theorem Keep.upd {S : Int → Int → Prop} {a b : VV} {r j x : Int} (h : Keep S a b) (hs : S r j) : Keep S a (upd2 b r j x) := fun r' j' => by
  by_cases hh : r' = r ∧ j' = j
  · obtain ⟨rfl, rfl⟩ := hh; exact Or.inl hs
  · rcases h r' j' with q | q
    · exact Or.inl q
    · right; simp only [upd2, hh, if_false]; exact q
theorem loop1 {A : Type} (μ : A → Nat) (P : A → Prop) (h : ∀ a, (∀ b, μ b < μ a → P b) → P a) : ∀ a, P a := by
  have key : ∀ (n : Nat) (a : A), μ a < n → P a := by
    intro n
    induction n with
    | zero => intro a ha; exact absurd ha (Nat.not_lt_zero _)
    | succ n ih => intro a ha; exact h a (fun b hb => ih b (by omega))
  exact fun a => key (μ a + 1) a (Nat.lt_succ_self _)
theorem loop2 {A B : Type} (μ : A → B → Nat) (P : A → B → Prop) (h : ∀ a b, (∀ a' b', μ a' b' < μ a b → P a' b') → P a b) : ∀ a b, P a b := fun a b => loop1 (A := A × B) (fun q => μ q.1 q.2) (fun q => P q.1 q.2) (fun q ih => h q.1 q.2 (fun a' b' hb => ih (a', b') hb)) (a, b)
theorem loop3 {A B C : Type} (μ : A → B → C → Nat) (P : A → B → C → Prop) (h : ∀ a b c, (∀ a' b' c', μ a' b' c' < μ a b c → P a' b' c') → P a b c) : ∀ a b c, P a b c := fun a b c => loop1 (A := A × B × C) (fun q => μ q.1 q.2.1 q.2.2) (fun q => P q.1 q.2.1 q.2.2) (fun q ih => h q.1 q.2.1 q.2.2 (fun a' b' c' hb => ih (a', b', c') hb)) (a, b, c)
/-- a word's number in base m: letters 97 .. 122 count from 1 -/
def cdm (m : Int) (f : Int → Int) : Nat → Int
  | 0 => 0
  | n + 1 => m * cdm m f n + (f n - 96)
theorem cdm_bd {m : Int} (hm : 27 ≤ m) {f : Int → Int} : ∀ (n : Nat), (∀ i : Int, 0 ≤ i → i < n → 97 ≤ f i ∧ f i ≤ 122) → 0 ≤ cdm m f n ∧ cdm m f n < m ^ n
  | 0, _ => by simp [cdm]
  | n + 1, h => by
    obtain ⟨h1, h2⟩ := cdm_bd hm n (fun i a b => h i a (by omega))
    have h3 := h n (by omega) (by omega)
    have h4 : (0 : Int) ≤ m * cdm m f n := Int.mul_nonneg (by omega) h1
    have h5 : m * cdm m f n ≤ m * (m ^ n - 1) := Int.mul_le_mul_of_nonneg_left (by omega) (by omega)
    have h6 : m ^ (n + 1) = m * m ^ n := by rw [Int.pow_succ, Int.mul_comm]
    have h7 : m * (m ^ n - 1) = m * m ^ n - m := by rw [Int.mul_sub, Int.mul_one]
    unfold cdm
    rw [h6]
    exact ⟨by omega, by omega⟩
theorem cdm_congr {m : Int} {f g : Int → Int} : ∀ (n : Nat), (∀ i : Int, 0 ≤ i → i < n → f i = g i) → cdm m f n = cdm m g n
  | 0, _ => rfl
  | n + 1, h => by
    unfold cdm
    rw [cdm_congr n (fun i a b => h i a (by omega)), h n (by omega) (by omega)]
/-- the number tells the word: its length and its letters -/
theorem cdm_inj {m : Int} (hm : 27 ≤ m) {f g : Int → Int} : ∀ (n k : Nat), (∀ i : Int, 0 ≤ i → i < n → 97 ≤ f i ∧ f i ≤ 122) → (∀ i : Int, 0 ≤ i → i < k → 97 ≤ g i ∧ g i ≤ 122) → cdm m f n = cdm m g k → n = k ∧ ∀ i : Int, 0 ≤ i → i < n → f i = g i
  | 0, 0, _, _, _ => ⟨rfl, fun i a b => by omega⟩
  | 0, k + 1, _, hg, h => by
    have h3 := hg k (by omega) (by omega)
    have h4 := (cdm_bd hm k (fun i a b => hg i a (by omega))).1
    have h5 : (0 : Int) ≤ m * cdm m g k := Int.mul_nonneg (by omega) h4
    simp only [cdm] at h
    omega
  | n + 1, 0, hf, _, h => by
    have h3 := hf n (by omega) (by omega)
    have h4 := (cdm_bd hm n (fun i a b => hf i a (by omega))).1
    have h5 : (0 : Int) ≤ m * cdm m f n := Int.mul_nonneg (by omega) h4
    simp only [cdm] at h
    omega
  | n + 1, k + 1, hf, hg, h => by
    have a3 := hf n (by omega) (by omega)
    have b3 := hg k (by omega) (by omega)
    simp only [cdm] at h
    have e1 : cdm m f n = cdm m g k := by
      have h8 : m * (cdm m f n - cdm m g k) = (g k - 96) - (f n - 96) := by rw [Int.mul_sub]; omega
      rcases Int.lt_trichotomy (cdm m f n - cdm m g k) 0 with q | q | q
      · have : m * (cdm m f n - cdm m g k) ≤ m * (-1) := Int.mul_le_mul_of_nonneg_left (by omega) (by omega)
        omega
      · omega
      · have : m * 1 ≤ m * (cdm m f n - cdm m g k) := Int.mul_le_mul_of_nonneg_left (by omega) (by omega)
        omega
    obtain ⟨e2, e3⟩ := cdm_inj hm n k (fun i a b => hf i a (by omega)) (fun i a b => hg i a (by omega)) e1
    subst e2
    rw [e1] at h
    refine ⟨rfl, fun i a b => ?_⟩
    by_cases hi : i = n
    · subst hi; omega
    · exact e3 i a (by omega)
noncomputable def cnt (p : Int → Prop) : Nat → Int
  | 0 => 0
  | n + 1 => cnt p n + bI (p n)
theorem cnt_bd (p : Int → Prop) : ∀ n : Nat, 0 ≤ cnt p n ∧ cnt p n ≤ n
  | 0 => by simp [cnt]
  | n + 1 => by
    have h := cnt_bd p n
    have h2 := bI_01 (p n)
    unfold cnt
    omega
theorem cnt_congr {p q : Int → Prop} : ∀ n : Nat, (∀ i : Int, 0 ≤ i → i < n → (p i ↔ q i)) → cnt p n = cnt q n
  | 0, _ => rfl
  | n + 1, h => by
    unfold cnt
    rw [cnt_congr n (fun i a b => h i a (by omega)), bI_iff (h n (by omega) (by omega))]
theorem cnt_s (p : Int → Prop) {x : Int} (h : 0 ≤ x) : cnt p (x + 1).toNat = cnt p x.toNat + bI (p x) := by
  have e : (x + 1).toNat = x.toNat + 1 := by omega
  rw [e]
  show cnt p x.toNat + bI (p (x.toNat : Int)) = _
  rw [Int.toNat_of_nonneg h]
theorem upd2_s (v : VV) (r j x : Int) : upd2 v r j x r j = x := by simp [upd2]
theorem upd2_n (v : VV) {r j x r' j' : Int} (h : ¬ (r' = r ∧ j' = j)) : upd2 v r j x r' j' = v r' j' := by simp [upd2, h]
theorem upd2_uu (v : VV) (r j x y : Int) : upd2 (upd2 v r j x) r j y = upd2 v r j y := by
  funext a b; unfold upd2; split <;> rfl
theorem upd2_id (v : VV) (r j : Int) : upd2 v r j (v r j) = v := by
  funext a b; unfold upd2; split
  · rename_i h; rw [h.1, h.2]
  · rfl
/-- outside S nothing changed -/
def Fr (S : Int → Int → Prop) (v v1 : VV) : Prop := ∀ r j, ¬ S r j → v1 r j = v r j
theorem Fr.rf {S : Int → Int → Prop} {v : VV} : Fr S v v := fun _ _ _ => rfl
theorem Fr.tr {S T U : Int → Int → Prop} {a b c : VV} (h1 : Fr S a b) (h2 : Fr T b c) (hs : ∀ r j, ¬ U r j → ¬ S r j ∧ ¬ T r j) : Fr U a c := fun r j h => (h2 r j (hs r j h).2).trans (h1 r j (hs r j h).1)
theorem Fr.mono {S T : Int → Int → Prop} {a b : VV} (h1 : Fr S a b) (hs : ∀ r j, ¬ T r j → ¬ S r j) : Fr T a b := fun r j h => h1 r j (hs r j h)
theorem Fr.up {S : Int → Int → Prop} {a b : VV} {r j x : Int} (h : Fr S a b) (hs : S r j) : Fr S a (upd2 b r j x) := fun r' j' hn => by
  rw [upd2_n _ (fun q => hn (by rw [q.1, q.2]; exact hs))]; exact h r' j' hn
/-- a list of what satisfies p below N, in order -/
def FLs (p : Int → Prop) (N : Nat) (len : Int) (get : Int → Int) : Prop := len = cnt p N ∧ ∀ x : Nat, x < N → p x → get (cnt p x) = x
theorem cnt_mono (p : Int → Prop) : ∀ {a b : Nat}, a ≤ b → cnt p a ≤ cnt p b := by
  intro a b h
  induction b with
  | zero => rw [show a = 0 by omega]; exact Int.le_refl _
  | succ b ih =>
    by_cases he : a = b + 1
    · rw [he]; exact Int.le_refl _
    · have := ih (by omega)
      have h2 := bI_01 (p b)
      show cnt p a ≤ cnt p b + bI (p b)
      omega
theorem cnt_hit (p : Int → Prop) : ∀ (n : Nat) (i : Int), 0 ≤ i → i < cnt p n → ∃ x : Nat, x < n ∧ p x ∧ cnt p x = i
  | 0, i, h0, h1 => by simp [cnt] at h1; omega
  | n + 1, i, h0, h1 => by
    by_cases h2 : i < cnt p n
    · obtain ⟨x, a, b, c⟩ := cnt_hit p n i h0 h2
      exact ⟨x, by omega, b, c⟩
    · unfold cnt at h1
      have h3 : bI (p n) = 1 := by have := bI_01 (p n); omega
      exact ⟨n, by omega, bI_1.mp h3, by omega⟩
theorem FLs.unique {p : Int → Prop} {N : Nat} {len len' : Int} {get get' : Int → Int} (h : FLs p N len get) (h' : FLs p N len' get') : len = len' ∧ ∀ i, 0 ≤ i → i < len → get i = get' i := by
  refine ⟨h.1.trans h'.1.symm, fun i h0 h1 => ?_⟩
  obtain ⟨x, a, b, c⟩ := cnt_hit p N i h0 (by rw [← h.1]; exact h1)
  rw [← c, h.2 x a b, h'.2 x a b]
theorem FLs.congr {p q : Int → Prop} {N M : Nat} {len : Int} {get : Int → Int} (h : FLs p N len get) (hpq : ∀ i : Int, 0 ≤ i → i < N → (p i ↔ q i)) (hM : N ≤ M) (hz : ∀ i : Int, N ≤ i → i < M → ¬ q i) : FLs q M len get := by
  have e : ∀ n : Nat, n ≤ N → cnt p n = cnt q n := fun n hn => cnt_congr n (fun i a b => hpq i a (by omega))
  have e2 : ∀ k : Nat, N + k ≤ M → cnt q (N + k) = cnt q N := by
    intro k
    induction k with
    | zero => intro _; rfl
    | succ k ih =>
      intro hk
      show cnt q (N + k) + bI (q ((N + k : Nat) : Int)) = _
      rw [ih (by omega), bI_f (hz _ (by omega) (by omega))]
      omega
  refine ⟨?_, fun x hx hq => ?_⟩
  · have := e2 (M - N) (by omega)
    rw [show N + (M - N) = M by omega] at this
    rw [this, ← e N (Nat.le_refl _)]; exact h.1
  · have hxN : x < N := by
      rcases Nat.lt_or_ge x N with h1 | h1
      · exact h1
      · exact absurd hq (hz x (by omega) (by omega))
    rw [← e x (by omega)]
    exact h.2 x hxN ((hpq x (by omega) (by omega)).mpr hq)
/-- a list so far: below x -/
def FLx (p : Int → Prop) (x : Int) (len : Int) (get : Int → Int) : Prop := len = cnt p x.toNat ∧ ∀ y : Nat, (y : Int) < x → p y → get (cnt p y) = y
theorem FLx.zero (p : Int → Prop) (get : Int → Int) : FLx p 0 0 get := ⟨rfl, fun y h _ => by omega⟩
theorem FLx.skip {p : Int → Prop} {x len : Int} {get : Int → Int} (h : FLx p x len get) (h0 : 0 ≤ x) (hp : ¬ p x) : FLx p (x + 1) len get := by
  refine ⟨by rw [cnt_s p h0, bI_f hp]; have := h.1; omega, fun y hy hq => ?_⟩
  by_cases he : (y : Int) = x
  · rw [he] at hq; exact absurd hq hp
  · exact h.2 y (by omega) hq
theorem FLx.add {p : Int → Prop} {x len : Int} {get get' : Int → Int} (h : FLx p x len get) (h0 : 0 ≤ x) (hp : p x) (hg : get' len = x) (hk : ∀ i, i < len → get' i = get i) : FLx p (x + 1) (len + 1) get' := by
  refine ⟨by rw [cnt_s p h0, bI_t hp]; have := h.1; omega, fun y hy hq => ?_⟩
  by_cases he : (y : Int) = x
  · have e2 : y = x.toNat := by omega
    rw [e2, ← h.1, hg]; omega
  · have hlt : cnt p y < len := by
      rw [h.1]
      have h1 : cnt p (y + 1) ≤ cnt p x.toNat := cnt_mono p (by omega)
      have h2 : cnt p (y + 1) = cnt p y + 1 := by show cnt p y + bI (p y) = _; rw [bI_t hq]
      omega
    rw [hk _ hlt]; exact h.2 y (by omega) hq
theorem FLx.fin {p : Int → Prop} {x len : Int} {get : Int → Int} (h : FLx p x len get) : FLs p x.toNat len get := ⟨h.1, fun y hy hq => h.2 y (by omega) hq⟩
