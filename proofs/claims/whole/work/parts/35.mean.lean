/-! ===== what a statement means ===== -/
/-- notes of columns that repeat, up to (c, i) -/
def NCo (v : VV) (T : Int) (ct : Int → Int) (S : Int → Int) (c i k p : Int) : Prop := k = 4 ∧ ∃ c' i', 0 ≤ i' ∧ i' < c' ∧ (c' < c ∨ (c' = c ∧ i' < i)) ∧ v 52 (8 * T + i') = v 52 (8 * T + c') ∧ p = S (ct c')
theorem NCo_next {v : VV} {T : Int} {ct S : Int → Int} {c k p : Int} : NCo v T ct S c c k p ↔ NCo v T ct S (c + 1) 0 k p := by
  unfold NCo
  exact ⟨fun ⟨h, c', i', h1, h2, h3, h4⟩ => ⟨h, c', i', h1, h2, by omega, h4⟩, fun ⟨h, c', i', h1, h2, h3, h4⟩ => ⟨h, c', i', h1, h2, by omega, h4⟩⟩
theorem NCo_skip {v : VV} {T : Int} {ct S : Int → Int} {c i k p : Int} (hn : ¬ v 52 (8 * T + i) = v 52 (8 * T + c)) : NCo v T ct S c i k p ↔ NCo v T ct S c (i + 1) k p := by
  unfold NCo
  refine ⟨fun ⟨h, c', i', h1, h2, h3, h4⟩ => ⟨h, c', i', h1, h2, by omega, h4⟩, fun ⟨h, c', i', h1, h2, h3, h4⟩ => ⟨h, c', i', h1, h2, ?_, h4⟩⟩
  rcases h3 with h3 | ⟨h3, h5⟩
  · exact Or.inl h3
  · by_cases hi : i' = i
    · subst hi; subst h3; exact absurd h4.1 hn
    · exact Or.inr ⟨h3, by omega⟩
theorem NCo_add {v : VV} {T : Int} {ct S : Int → Int} {c i k p : Int} (h0 : 0 ≤ i) (hi : i < c) (hy : v 52 (8 * T + i) = v 52 (8 * T + c)) : (NCo v T ct S c i k p ∨ (k = 4 ∧ p = S (ct c))) ↔ NCo v T ct S c (i + 1) k p := by
  unfold NCo
  constructor
  · rintro (⟨h, c', i', h1, h2, h3, h4⟩ | ⟨h, h4⟩)
    · exact ⟨h, c', i', h1, h2, by omega, h4⟩
    · exact ⟨h, c, i, h0, hi, Or.inr ⟨rfl, by omega⟩, hy, h4⟩
  · rintro ⟨h, c', i', h1, h2, h3, h4⟩
    rcases h3 with h3 | ⟨h3, h5⟩
    · exact Or.inl ⟨h, c', i', h1, h2, Or.inl h3, h4⟩
    · by_cases hi : i' = i
      · subst h3; exact Or.inr ⟨h, h4.2⟩
      · exact Or.inl ⟨h, c', i', h1, h2, Or.inr ⟨h3, by omega⟩, h4⟩
theorem orR {A B C : Prop} (h : B ↔ C) : (A ∨ B) ↔ (A ∨ C) := ⟨fun q => q.imp id h.mp, fun q => q.imp id h.mpr⟩
def FTs (r j : Int) : Prop := r = 47 ∧ (j = 25 ∨ j = 26)
theorem Fr.mM' {v V : VV} {k p : Int} (h : Fr FTs v V) : Fr FTs v (mMeans V k p) := h.mM ⟨rfl, Or.inl rfl⟩ ⟨rfl, Or.inr rfl⟩
set_option maxRecDepth 100000 in
set_option maxHeartbeats 4000000 in
theorem l_mean53 {X : XX} {v : VV} {Q : QQ} {d mc ms : Nat} {T C : Int} {N0 : Int → Int → Prop} {ct S : Int → Int} (hW : SW X) (hd : 4 ≤ d) (hT : 0 ≤ T ∧ T ≤ 16) (hC : v 51 T = C) (hC6 : 0 ≤ C ∧ C ≤ 6) (hct : ∀ c, 0 ≤ c → c < C → 0 ≤ ct c ∧ ct c < 400 ∧ v 62 (400 * T + ct c) = S (ct c) ∧ (v 50 T = 0 → ct (c + 1) = ct c + 3) ∧ (¬ v 50 T = 0 → ct (c + 1) = v 66 (8 * T + c) + 1 ∧ 0 ≤ v 66 (8 * T + c) ∧ v 66 (8 * T + c) ≤ 400)) (c : Int) (hc : 0 ≤ c ∧ c < C) (next : ∀ V, Fr FTs v V → FM (fun k p => N0 k p ∨ NCo v T ct S (c + 1) 0 k p) V → Ex mX11_meant d 40 [(2, 47), (0, T), (0, ct (c + 1)), (0, c + 1), (3, 0)] [] X V mc ms Q) : ∀ (i : Int) (V : VV), (0 ≤ i ∧ i ≤ c) → Fr FTs v V → FM (fun k p => N0 k p ∨ NCo v T ct S c i k p) V → Ex mX11_meant d 53 [(2, 47), (0, T), (0, ct c), (0, c), (0, i)] [] X V mc ms Q := by
  refine loop2 (fun (i : Int) (V : VV) => (c - i).toNat) (fun (i : Int) (V : VV) => (0 ≤ i ∧ i ≤ c) → Fr FTs v V → FM (fun k p => N0 k p ∨ NCo v T ct S c i k p) V → Ex mX11_meant d 53 [(2, 47), (0, T), (0, ct c), (0, c), (0, i)] [] X V mc ms Q) (fun i V ih => ?_)
  intro hi hf hN
  obtain ⟨q1, q2, q3, q4, q5⟩ := hct c hc.1 hc.2
  have g : ∀ r j, ¬ FTs r j → V r j = v r j := hf
  refine bX11_meant_53 T (ct c) c i hd hW (fun _ _ _ _ => ?_)
  rw [g 50 _ (by unfold FTs; omega), g 66 _ (by unfold FTs; omega), g 52 _ (by unfold FTs; omega), g 52 _ (by unfold FTs; omega), g 62 _ (by unfold FTs; omega)]
  refine ⟨fun gi => ⟨⟨by omega, by omega⟩, fun g5 => ?_, fun g5 => ?_⟩, fun gi => ⟨⟨by omega, by omega⟩, fun _ => ⟨by omega, by omega⟩, ⟨by omega, by omega⟩, ⟨by omega, by omega⟩, fun _ => ⟨by omega, by omega⟩, ⟨by omega, by omega⟩, fun g5 => ⟨⟨by omega, by omega⟩, ?_⟩, fun g5 => ⟨⟨by omega, by omega⟩, fun _ => ⟨by omega, by omega⟩, ⟨by omega, by omega⟩, ?_⟩⟩⟩
  · obtain ⟨e1, e2, e3⟩ := q5 g5
    refine ⟨⟨by omega, by omega⟩, fun _ => ⟨by omega, by omega⟩, ⟨by omega, by omega⟩, fun _ => ⟨by omega, by omega⟩, ⟨by omega, by omega⟩, ?_⟩
    rw [← e1]
    exact next V hf (hN.cg (fun k p => orR (by rw [show i = c by omega]; exact NCo_next)))
  · refine ⟨⟨by omega, by omega⟩, ⟨by omega, by omega⟩, ?_⟩
    rw [← q4 g5]
    exact next V hf (hN.cg (fun k p => orR (by rw [show i = c by omega]; exact NCo_next)))
  · exact ih (i + 1) V (by omega) ⟨by omega, by omega⟩ hf (hN.cg (fun k p => orR (NCo_skip g5)))
  · refine ⟨_, c_means hW _ _, fun w12 hP => ⟨⟨by omega, by omega⟩, ?_⟩⟩
    have e : w12 = mMeans V 4 (S (ct c)) := by rw [q3] at hP; exact hP
    rw [e]
    exact ih (i + 1) _ (by omega) ⟨by omega, by omega⟩ hf.mM' ((hN.note 4 _ (by decide)).cg (fun k p => or_assoc.trans (orR (NCo_add hi.1 gi g5))))
set_option maxRecDepth 100000 in
set_option maxHeartbeats 4000000 in
theorem l_mean40 {X : XX} {v : VV} {Q : QQ} {d mc ms : Nat} {T C : Int} {N0 : Int → Int → Prop} {ct S : Int → Int} (hW : SW X) (hd : 4 ≤ d) (hT : 0 ≤ T ∧ T ≤ 16) (hC : v 51 T = C) (hC6 : 0 ≤ C ∧ C ≤ 6) (hct : ∀ c, 0 ≤ c → c < C → 0 ≤ ct c ∧ ct c < 400 ∧ v 62 (400 * T + ct c) = S (ct c) ∧ (v 50 T = 0 → ct (c + 1) = ct c + 3) ∧ (¬ v 50 T = 0 → ct (c + 1) = v 66 (8 * T + c) + 1 ∧ 0 ≤ v 66 (8 * T + c) ∧ v 66 (8 * T + c) ≤ 400)) (next : ∀ V, Fr FTs v V → FM (fun k p => N0 k p ∨ NCo v T ct S C 0 k p) V → Ex mX11_meant d 146 [(2, 47), (0, T), (0, ct C), (0, 0), (3, 0)] [] X V mc ms Q) : ∀ (c : Int) (V : VV), (0 ≤ c ∧ c ≤ C) → Fr FTs v V → FM (fun k p => N0 k p ∨ NCo v T ct S c 0 k p) V → Ex mX11_meant d 40 [(2, 47), (0, T), (0, ct c), (0, c), (3, 0)] [] X V mc ms Q := by
  refine loop2 (fun (c : Int) (V : VV) => (C - c).toNat) (fun (c : Int) (V : VV) => (0 ≤ c ∧ c ≤ C) → Fr FTs v V → FM (fun k p => N0 k p ∨ NCo v T ct S c 0 k p) V → Ex mX11_meant d 40 [(2, 47), (0, T), (0, ct c), (0, c), (3, 0)] [] X V mc ms Q) (fun c V ih => ?_)
  intro hc hf hN
  have e51 : V 51 T = C := (hf 51 T (by unfold FTs; omega)).trans hC
  refine bX11_meant_40 T (ct c) c hd hW (fun _ _ _ => ?_)
  rw [e51]
  refine ⟨⟨by omega, by omega⟩, fun g => ?_, fun g => ?_⟩
  · have e : c = C := by omega
    subst e
    exact next V hf hN
  · exact l_mean53 hW hd hT hC hC6 hct c ⟨hc.1, g⟩ (fun V2 h1 h2 => ih (c + 1) V2 (by omega) ⟨by omega, by omega⟩ h1 h2) 0 V ⟨Int.le_refl _, hc.1⟩ hf hN
noncomputable def tN (v : VV) (w : Int) : Int := fst1 (thereNamed v w) (v 47 0).toNat
def NB2 (v : VV) (m k p : Int) : Prop := k = 2 ∧ ∃ k', 0 ≤ k' ∧ k' < m ∧ tN v (v 70 k') = -1 ∧ p = v 71 k'
def NB4 (v : VV) (c i k p : Int) : Prop := k = 4 ∧ ∃ c' i', 0 ≤ i' ∧ i' < c' ∧ (c' < c ∨ (c' = c ∧ i' < i)) ∧ v 70 i' = v 70 c' ∧ p = v 71 c'
theorem NB2_skip {v : VV} {m k p : Int} (h : ¬ tN v (v 70 m) = -1) : NB2 v m k p ↔ NB2 v (m + 1) k p := by
  unfold NB2
  refine ⟨fun ⟨a, k', b, c, e⟩ => ⟨a, k', b, by omega, e⟩, fun ⟨a, k', b, c, e⟩ => ⟨a, k', b, ?_, e⟩⟩
  by_cases hk : k' = m
  · subst hk; exact absurd e.1 h
  · omega
theorem NB2_add {v : VV} {m k p : Int} (h0 : 0 ≤ m) (h : tN v (v 70 m) = -1) : (NB2 v m k p ∨ (k = 2 ∧ p = v 71 m)) ↔ NB2 v (m + 1) k p := by
  unfold NB2
  constructor
  · rintro (⟨a, k', b, c, e⟩ | ⟨a, e⟩)
    · exact ⟨a, k', b, by omega, e⟩
    · exact ⟨a, m, h0, by omega, h, e⟩
  · rintro ⟨a, k', b, c, e⟩
    by_cases hk : k' = m
    · subst hk; exact Or.inr ⟨a, e.2⟩
    · exact Or.inl ⟨a, k', b, by omega, e⟩
theorem NB4_next {v : VV} {c k p : Int} : NB4 v c c k p ↔ NB4 v (c + 1) 0 k p := by
  unfold NB4
  exact ⟨fun ⟨h, c', i', h1, h2, h3, h4⟩ => ⟨h, c', i', h1, h2, by omega, h4⟩, fun ⟨h, c', i', h1, h2, h3, h4⟩ => ⟨h, c', i', h1, h2, by omega, h4⟩⟩
theorem NB4_skip {v : VV} {c i k p : Int} (hn : ¬ v 70 i = v 70 c) : NB4 v c i k p ↔ NB4 v c (i + 1) k p := by
  unfold NB4
  refine ⟨fun ⟨h, c', i', h1, h2, h3, h4⟩ => ⟨h, c', i', h1, h2, by omega, h4⟩, fun ⟨h, c', i', h1, h2, h3, h4⟩ => ⟨h, c', i', h1, h2, ?_, h4⟩⟩
  rcases h3 with h3 | ⟨h3, h5⟩
  · exact Or.inl h3
  · by_cases hi : i' = i
    · subst hi; subst h3; exact absurd h4.1 hn
    · exact Or.inr ⟨h3, by omega⟩
theorem NB4_add {v : VV} {c i k p : Int} (h0 : 0 ≤ i) (hi : i < c) (hy : v 70 i = v 70 c) : (NB4 v c i k p ∨ (k = 4 ∧ p = v 71 c)) ↔ NB4 v c (i + 1) k p := by
  unfold NB4
  constructor
  · rintro (⟨h, c', i', h1, h2, h3, h4⟩ | ⟨h, h4⟩)
    · exact ⟨h, c', i', h1, h2, by omega, h4⟩
    · exact ⟨h, c, i, h0, hi, Or.inr ⟨rfl, by omega⟩, hy, h4⟩
  · rintro ⟨h, c', i', h1, h2, h3, h4⟩
    rcases h3 with h3 | ⟨h3, h5⟩
    · exact Or.inl ⟨h, c', i', h1, h2, Or.inl h3, h4⟩
    · by_cases hi : i' = i
      · subst h3; exact Or.inr ⟨h, h4.2⟩
      · exact Or.inl ⟨h, c', i', h1, h2, Or.inr ⟨h3, by omega⟩, h4⟩
/-- what the look behind touches -/
def MBs (T r j : Int) : Prop := FTs r j ∨ (r = 55 ∧ 3 * T ≤ j ∧ j < 3 * T + 3)
theorem orRR {A B C D : Prop} (h : B ↔ C) : ((A ∨ B) ∨ D) ↔ ((A ∨ C) ∨ D) := ⟨fun q => q.imp (fun z => z.imp id h.mp) id, fun q => q.imp (fun z => z.imp id h.mpr) id⟩
theorem MB.fr {S : Int → Int → Prop} {v V : VV} (h : MB v) (hf : Fr S v V) (hs : ∀ j, (j = 0 ∨ j = 22 ∨ j = 57 ∨ j = 59 ∨ j = 64) → ¬ S 47 j) : MB V := by
  unfold MB at h ⊢
  rw [hf 47 0 (hs 0 (by omega)), hf 47 22 (hs 22 (by omega)), hf 47 57 (hs 57 (by omega)), hf 47 59 (hs 59 (by omega)), hf 47 64 (hs 64 (by omega))]
  exact h
theorem tN_eq {S : Int → Int → Prop} {v V : VV} (hf : Fr S v V) (hs : ∀ j, ¬ S 48 j ∧ ¬ S 49 j) (w : Int) : thereNamed V w = thereNamed v w := by
  funext t
  unfold thereNamed
  rw [hf 48 t (hs t).1, hf 49 t (hs t).2]
def CB (v : VV) (T m : Int) (V : VV) : Prop := ∀ k, 0 ≤ k → k < m → V 55 (3 * T + k) = tN v (v 70 k)
set_option maxRecDepth 100000 in
set_option maxHeartbeats 4000000 in
theorem l_mean204 {X : XX} {v : VV} {Q : QQ} {d mc ms : Nat} {T x2 : Int} {N0 : Int → Int → Prop} (hW : SW X) (hd : 4 ≤ d) (hT : 0 ≤ T ∧ T ≤ 16) (k : Int) (hk : 0 ≤ k ∧ k < 3) (next : ∀ V, Fr (MBs T) v V → FM (fun kk p => (N0 kk p ∨ NB2 v (k + 1) kk p) ∨ NB4 v (k + 1) 0 kk p) V → CB v T (k + 1) V → Ex mX11_meant d 146 [(2, 47), (0, T), (0, x2), (0, k + 1), (3, 0)] [] X V mc ms Q) : ∀ (i : Int) (V : VV), (0 ≤ i ∧ i ≤ k) → Fr (MBs T) v V → FM (fun kk p => (N0 kk p ∨ NB2 v (k + 1) kk p) ∨ NB4 v k i kk p) V → CB v T (k + 1) V → Ex mX11_meant d 204 [(2, 47), (0, T), (0, x2), (0, k), (0, i)] [] X V mc ms Q := by
  refine loop2 (fun (i : Int) (V : VV) => (k - i).toNat) (fun (i : Int) (V : VV) => (0 ≤ i ∧ i ≤ k) → Fr (MBs T) v V → FM (fun kk p => (N0 kk p ∨ NB2 v (k + 1) kk p) ∨ NB4 v k i kk p) V → CB v T (k + 1) V → Ex mX11_meant d 204 [(2, 47), (0, T), (0, x2), (0, k), (0, i)] [] X V mc ms Q) (fun i V ih => ?_)
  intro hi hf hN hC
  have g : ∀ r j, ¬ MBs T r j → V r j = v r j := hf
  refine bX11_meant_204 T x2 k i hd hW (fun _ _ _ _ => ?_)
  rw [g 70 i (by unfold MBs FTs; omega), g 70 k (by unfold MBs FTs; omega), g 71 k (by unfold MBs FTs; omega)]
  refine ⟨fun gi => ⟨⟨by omega, by omega⟩, ?_⟩, fun gi => ⟨⟨by omega, by omega⟩, ⟨by omega, by omega⟩, fun g5 => ⟨⟨by omega, by omega⟩, ?_⟩, fun g5 => ⟨⟨by omega, by omega⟩, _, c_means hW _ _, fun w25 hP => ⟨⟨by omega, by omega⟩, ?_⟩⟩⟩⟩
  · exact next V hf (hN.cg (fun kk p => orR (by rw [show i = k by omega]; exact NB4_next))) hC
  · exact ih (i + 1) V (by omega) ⟨by omega, by omega⟩ hf (hN.cg (fun kk p => orR (NB4_skip g5))) hC
  · have e : w25 = mMeans V 4 (v 71 k) := hP
    rw [e]
    exact ih (i + 1) _ (by omega) ⟨by omega, by omega⟩ (hf.mM (Or.inl ⟨rfl, Or.inl rfl⟩) (Or.inl ⟨rfl, Or.inr rfl⟩)) ((hN.note 4 _ (by decide)).cg (fun kk p => or_assoc.trans (orR (NB4_add hi.1 gi g5)))) (fun k' a b => by rw [mM_n (by omega)]; exact hC k' a b)
set_option maxRecDepth 100000 in
set_option maxHeartbeats 4000000 in
theorem l_mean146 {X : XX} {v : VV} {Q : QQ} {d mc ms : Nat} {T B x2 : Int} {N0 : Int → Int → Prop} (hW : SW X) (hd : 4 ≤ d) (hb : MB v) (hT : 0 ≤ T ∧ T ≤ 16) (hB : v 54 T = B) (hB3 : 0 ≤ B ∧ B ≤ 3) (next : ∀ V, Fr (MBs T) v V → FM (fun kk p => (N0 kk p ∨ NB2 v B kk p) ∨ NB4 v B 0 kk p) V → CB v T B V → (v 50 T ≤ 0 → Ex mX11_meant d 299 [(2, 47), (0, T), (0, x2), (0, B), (3, 0)] [] X (upd2 V 47 52 1) mc ms Q) ∧ (0 < v 50 T → Ex mX11_meant d 266 [(2, 47), (0, T), (0, x2), (0, 0), (3, 0)] [] X (upd2 V 47 52 1) mc ms Q)) : ∀ (k : Int) (V : VV), (0 ≤ k ∧ k ≤ B) → Fr (MBs T) v V → FM (fun kk p => (N0 kk p ∨ NB2 v k kk p) ∨ NB4 v k 0 kk p) V → CB v T k V → Ex mX11_meant d 146 [(2, 47), (0, T), (0, x2), (0, k), (3, 0)] [] X V mc ms Q := by
  refine loop2 (fun (k : Int) (V : VV) => (B - k).toNat) (fun (k : Int) (V : VV) => (0 ≤ k ∧ k ≤ B) → Fr (MBs T) v V → FM (fun kk p => (N0 kk p ∨ NB2 v k kk p) ∨ NB4 v k 0 kk p) V → CB v T k V → Ex mX11_meant d 146 [(2, 47), (0, T), (0, x2), (0, k), (3, 0)] [] X V mc ms Q) (fun k V ih => ?_)
  intro hk hf hN hC
  have g : ∀ r j, ¬ MBs T r j → V r j = v r j := hf
  have hbV : MB V := hb.fr hf (fun j hj => by unfold MBs FTs; omega)
  have hb1 := hb.1
  refine bX11_meant_146 T x2 k hd hW (fun _ _ _ => ?_)
  rw [g 54 T (by unfold MBs FTs; omega), hB, g 50 T (by unfold MBs FTs; omega), g 70 k (by unfold MBs FTs; omega)]
  refine ⟨⟨by omega, by omega⟩, fun gk => ?_, fun gk => ?_⟩
  · have e : k = B := by omega
    subst e
    exact ⟨⟨by omega, by omega⟩, (next V hf hN hC).1, (next V hf hN hC).2⟩
  · refine ⟨⟨by omega, by omega⟩, fun _ => ⟨by omega, by omega⟩, ⟨by omega, by omega⟩, _, c_tableNamed hW hbV _, fun r15 w16 hP => ?_⟩
    obtain ⟨rfl, r, hr, hF⟩ := hP
    obtain rfl : r15 = r := by simpa using hr
    have er : r15 = tN v (v 70 k) := by
      rw [tN_eq hf (fun j => ⟨by unfold MBs FTs; omega, by unfold MBs FTs; omega⟩), g 47 0 (by unfold MBs FTs; omega)] at hF
      exact hF.eq hb1.1
    have nx := l_mean204 (N0 := N0) (x2 := x2) (d := d) (mc := mc) (ms := ms) (Q := Q) (v := v) hW hd hT k ⟨hk.1, by omega⟩ (fun V2 h1 h2 h3 => ih (k + 1) V2 (by omega) ⟨by omega, by omega⟩ h1 h2 h3) 0
    have hfu : Fr (MBs T) v (upd2 w16 55 (3 * T + k) r15) := hf.up (by unfold MBs; omega)
    have hCu : CB v T (k + 1) (upd2 w16 55 (3 * T + k) r15) := fun k' a b => by
      by_cases hkk : k' = k
      · subst hkk; rw [upd2_s]; exact er
      · rw [upd2_n _ (by omega)]; exact hC k' a (by omega)
    have hNu : FM (fun kk p => (N0 kk p ∨ NB2 v k kk p) ∨ NB4 v k 0 kk p) (upd2 w16 55 (3 * T + k) r15) := hN.same (upd2_n _ (by omega)) (upd2_n _ (by omega))
    refine ⟨⟨by omega, by omega⟩, ⟨by omega, by omega⟩, fun _ => ⟨by omega, by omega⟩, ⟨by omega, by omega⟩, fun g5 => ?_, fun g5 => ?_⟩
    · exact nx _ ⟨Int.le_refl _, hk.1⟩ hfu (hNu.cg (fun kk p => orRR (NB2_skip (by rw [← er]; exact g5)))) hCu
    · refine ⟨⟨by omega, by omega⟩, _, c_means hW _ _, fun w20 hP => ?_⟩
      have e : w20 = mMeans (upd2 w16 55 (3 * T + k) r15) 2 (w16 71 k) := hP
      rw [e]
      refine nx _ ⟨Int.le_refl _, hk.1⟩ (hfu.mM (Or.inl ⟨rfl, Or.inl rfl⟩) (Or.inl ⟨rfl, Or.inr rfl⟩)) ((hNu.note 2 _ (by decide)).cg (fun kk p => ?_)) (fun k' a b => by rw [mM_n (by omega)]; exact hCu k' a b)
      rw [← NB2_add hk.1 (by rw [← er]; exact g5), g 71 k (by unfold MBs FTs; omega)]
      exact ⟨fun q => by rcases q with ((q | q) | q) | q; exact Or.inl (Or.inl q); exact Or.inl (Or.inr (Or.inl q)); exact Or.inr q; exact Or.inl (Or.inr (Or.inr q)), fun q => by rcases q with (q | q | q) | q; exact Or.inl (Or.inl (Or.inl q)); exact Or.inl (Or.inl (Or.inr q)); exact Or.inr q; exact Or.inl (Or.inr q)⟩
/-- what the typing of table T touches -/
def MTs (T r j : Int) : Prop := TYs r j ∨ (r = 53 ∧ 8 * T ≤ j ∧ j < 8 * T + 8)
theorem MTs_ref (T : Int) : noRef (MTs T) := fun j => ⟨by unfold MTs TYs; omega, by unfold MTs TYs; omega, by unfold MTs TYs; omega, by unfold MTs TYs; omega, by unfold MTs TYs; omega, by unfold MTs TYs; omega⟩
theorem TYH.frM {b : Int → Int} {n T t A : Int} {v V : VV} (h : TYH b n t A v) (hf : Fr (MTs T) v V) : TYH b n t A V := by
  obtain ⟨⟨k1, k2, k3, k4, k5⟩, h2, h3, h4, m1, m2, m3, m4, m5, m6, m7⟩ := h
  have g : ∀ r j, ¬ MTs T r j → V r j = v r j := hf
  refine ⟨⟨fun i i0 i1 => ?_, fun i i0 i1 => ?_, k3, k4, k5⟩, ?_, fun i i0 i1 => ?_, fun q q0 q1 => ?_, ?_, ?_, ?_, ?_, ?_, ?_, ?_⟩
  · rw [g 61 _ (by unfold MTs TYs; omega), g 62 _ (by unfold MTs TYs; omega), g 63 _ (by unfold MTs TYs; omega)]; exact k1 i i0 i1
  · rw [g 64 _ (by unfold MTs TYs; omega)]; exact k2 i i0 i1
  · rw [g 54 _ (by unfold MTs TYs; omega)]; exact h2
  · rw [g 54 _ (by unfold MTs TYs; omega)] at i1
    rw [g 55 _ (by unfold MTs TYs; omega)]; exact h3 i i0 i1
  · rw [g 51 _ (by unfold MTs TYs; omega)]; exact h4 q q0 q1
  · rw [g 47 _ (by unfold MTs TYs; omega)]; exact m1
  · rw [g 47 _ (by unfold MTs TYs; omega)]; exact m2
  · rw [g 47 _ (by unfold MTs TYs; omega)]; exact m3
  · rw [g 47 _ (by unfold MTs TYs; omega)]; exact m4
  · rw [g 47 _ (by unfold MTs TYs; omega)]; exact m5
  · rw [g 47 _ (by unfold MTs TYs; omega)]; exact m6
  · rw [g 47 _ (by unfold MTs TYs; omega)]; exact m7
theorem qOf_bd {v : VV} {t m w : Int} (h54 : 0 ≤ v 54 t) (h : ∀ i, 0 ≤ i → i < v 54 t → -1 ≤ v 55 (3 * t + i) ∧ v 55 (3 * t + i) < m) : qOf v t w = -1 ∨ (0 ≤ qOf v t w ∧ qOf v t w < m) := by
  have hs := fst1_spec (bhn v t w) (v 54 t).toNat
  rw [Int.toNat_of_nonneg h54] at hs
  unfold qOf
  rcases hs with ⟨h1, -⟩ | ⟨h1, h2, h3, -⟩
  · left; rw [if_pos h1]
  · right
    rw [if_neg (by omega)]
    have := h _ h1 h2
    have := h3.1
    omega
theorem cOf_bd {v : VV} {q w : Int} (h51 : 0 ≤ v 51 q) : cOf v q w = -1 ∨ (0 ≤ cOf v q w ∧ cOf v q w < v 51 q) := by
  have hs := fst1_spec (fun c => v 52 (8 * q + c) = w) (v 51 q).toNat
  rw [Int.toNat_of_nonneg h51] at hs
  unfold cOf
  rcases hs with ⟨h1, -⟩ | ⟨h1, h2, -, -⟩
  · exact Or.inl h1
  · exact Or.inr ⟨h1, h2⟩
theorem RT_M {b : Int → Int} {n T : Int} {v V : VV} (hf : Fr (MTs T) v V) (e52 : V 47 52 = v 47 52) (h54 : 0 ≤ v 54 T) (h55 : ∀ i, 0 ≤ i → i < v 54 T → -1 ≤ v 55 (3 * T + i) ∧ v 55 (3 * T + i) < T) (h51 : ∀ q, 0 ≤ q → q < T → 0 ≤ v 51 q ∧ v 51 q ≤ 6) (hT : T ≤ 16) : RT b n V T = RT b n v T := by
  funext k
  unfold RT refTy
  rw [e52, qOf_fs hf (MTs_ref T), cOf_fs hf (MTs_ref T)]
  by_cases hq : qOf v T (tW b n k) = -1
  · rw [if_pos hq, if_pos hq]
  rw [if_neg hq, if_neg hq]
  by_cases hc : cOf v (qOf v T (tW b n k)) (tW b n (k + 2)) = -1
  · rw [if_pos hc, if_pos hc]
  rw [if_neg hc, if_neg hc]
  have h1 := qOf_bd (w := tW b n k) h54 h55
  have h2 := h51 (qOf v T (tW b n k)) (by omega) (by omega)
  have h3 := cOf_bd (w := tW b n (k + 2)) h2.1
  refine hf _ _ ?_
  split
  · unfold MTs TYs; omega
  · unfold MTs TYs; omega
/-- the notes of the results' formulas below c -/
def NFc (b : Int → Int) (n : Int) (v : VV) (T : Int) (fa : Int → Int) (c k p : Int) : Prop := ∃ i, 0 ≤ i ∧ i < c ∧ NFe b n v T (fa i) k p
theorem NFe_M {b : Int → Int} {n T a k p : Int} {v V : VV} (hf : Fr (MTs T) v V) (eR : RT b n V T = RT b n v T) : NFe b n V T a k p ↔ NFe b n v T a k p := by
  unfold NFe
  rw [eR]
  have e : ∀ r q, miss b n V T r q ↔ miss b n v T r q := fun r q => miss_fs hf (MTs_ref T)
  simp only [e]
set_option maxRecDepth 100000 in
set_option maxHeartbeats 4000000 in
theorem l_mean266 {X : XX} {v : VV} {Q : QQ} {d mc ms : Nat} {b : Int → Int} {n T A C x2 : Int} {N0 : Int → Int → Prop} {fa : Int → Int} (hW : SW X) (hd : 4 ≤ d) (hH : TYH b n T A v) (h52 : v 47 52 = 1) (hT : 0 ≤ T ∧ T ≤ 16) (hC : v 51 T = C) (hC6 : 0 ≤ C ∧ C ≤ 6) (h55 : ∀ i, 0 ≤ i → i < v 54 T → -1 ≤ v 55 (3 * T + i) ∧ v 55 (3 * T + i) < T) (hfa : ∀ c, 0 ≤ c → c < C → 0 ≤ fa c ∧ v 65 (8 * T + c) = fa c ∧ (rForm b n 3 (fa c)).1 = true ∧ v 66 (8 * T + c) = (rForm b n 3 (fa c)).2 ∧ v 66 (8 * T + c) ≤ A) (he : 0 ≤ v 47 50 ∧ v 47 50 ≤ 1800000000) (next : ∀ V, Fr (MTs T) v V → FM (fun k p => N0 k p ∨ NFc b n v T fa C k p) V → (∀ c, 0 ≤ c → c < C → V 53 (8 * T + c) = tyF b n (RT b n v T) 3 (fa c)) → (v 47 50 ≤ V 47 50 ∧ V 47 50 ≤ v 47 50 + 1000 * C) → Ex mX11_meant d 299 [(2, 47), (0, T), (0, x2), (0, C), (3, 0)] [] X V mc ms Q) : ∀ (c : Int) (V : VV), (0 ≤ c ∧ c ≤ C) → Fr (MTs T) v V → FM (fun k p => N0 k p ∨ NFc b n v T fa c k p) V → (∀ i, 0 ≤ i → i < c → V 53 (8 * T + i) = tyF b n (RT b n v T) 3 (fa i)) → (v 47 50 ≤ V 47 50 ∧ V 47 50 ≤ v 47 50 + 1000 * c) → Ex mX11_meant d 266 [(2, 47), (0, T), (0, x2), (0, c), (3, 0)] [] X V mc ms Q := by
  refine loop2 (fun (c : Int) (V : VV) => (C - c).toNat) (fun (c : Int) (V : VV) => (0 ≤ c ∧ c ≤ C) → Fr (MTs T) v V → FM (fun k p => N0 k p ∨ NFc b n v T fa c k p) V → (∀ i, 0 ≤ i → i < c → V 53 (8 * T + i) = tyF b n (RT b n v T) 3 (fa i)) → (v 47 50 ≤ V 47 50 ∧ V 47 50 ≤ v 47 50 + 1000 * c) → Ex mX11_meant d 266 [(2, 47), (0, T), (0, x2), (0, c), (3, 0)] [] X V mc ms Q) (fun c V ih => ?_)
  intro hc hf hN hty hb
  have g : ∀ r j, ¬ MTs T r j → V r j = v r j := hf
  have e52 : V 47 52 = v 47 52 := g 47 52 (by unfold MTs TYs; omega)
  refine bX11_meant_266 T x2 c hd hW (fun _ _ _ => ?_)
  rw [g 51 T (by unfold MTs TYs; omega), hC]
  refine ⟨⟨by omega, by omega⟩, fun gc => ?_, fun gc => ?_⟩
  · have e : c = C := by omega
    subst e
    exact next V hf hN hty hb
  · obtain ⟨f0, f1, f2, f3, f4⟩ := hfa c hc.1 gc
    have eR := RT_M (b := b) (n := n) hf e52 hH.2.1.1 h55 hH.2.2.2.1 hT.2
    refine ⟨⟨by omega, by omega⟩, fun _ => ⟨by omega, by omega⟩, _, c_typeOf (b := b) (n := n) (A := A) (a := fa c) _ hW (hH.frM hf) ⟨hc.1, by omega⟩ f0 (by rw [g 65 _ (by unfold MTs TYs; omega)]; exact f1) f2 (by rw [g 66 _ (by unfold MTs TYs; omega)]; exact f3) (by rw [g 66 _ (by unfold MTs TYs; omega)]; exact f4) (by omega) (fun _ => hN), fun r28 w29 hP => ?_⟩
    obtain ⟨hr, hTA⟩ := hP
    obtain rfl : r28 = tyF b n (RT b n V T) 3 (fa c) := by simpa using hr
    obtain ⟨t1, t2, t3, t4, t5⟩ := hTA
    rw [eR]
    refine ⟨⟨by omega, by omega⟩, ⟨by omega, by omega⟩, ih (c + 1) _ (by omega) ⟨by omega, by omega⟩ ((hf.via t1 (fun _ _ q => q) (fun _ _ q => Or.inl q)).up (Or.inr ⟨rfl, by omega, by omega⟩)) (((t2 (by omega)).same (upd2_n _ (by omega)) (upd2_n _ (by omega))).cg (fun k p => ?_)) (fun i i0 i1 => ?_) ?_⟩
    · rw [NFe_M hf eR, or_assoc]
      refine orR ⟨fun q => ?_, fun ⟨i, i0, i1, i2⟩ => ?_⟩
      · rcases q with ⟨i, i0, i1, i2⟩ | q
        · exact ⟨i, i0, by omega, i2⟩
        · exact ⟨c, hc.1, by omega, q⟩
      · by_cases hi : i = c
        · subst hi; exact Or.inr i2
        · exact Or.inl ⟨i, i0, by omega, i2⟩
    · by_cases hi : i = c
      · subst hi; rw [upd2_s]
      · rw [upd2_n _ (by omega), t1 53 _ (by unfold TYs; omega)]; exact hty i i0 (by omega)
    · rw [upd2_n _ (by omega)]; omega
/-- the notes of a where -/
def NWh (b : Int → Int) (n : Int) (v : VV) (T a6 a7 k p : Int) : Prop := (NFe b n v T a6 k p ∨ NFe b n v T a7 k p) ∨ (k = 3 ∧ ¬ tyF b n (RT b n v T) 3 a6 = 0 ∧ ¬ tyF b n (RT b n v T) 3 a7 = 0 ∧ ¬ tyF b n (RT b n v T) 3 a6 = tyF b n (RT b n v T) 3 a7 ∧ p = v 47 42)
set_option maxRecDepth 100000 in
set_option maxHeartbeats 4000000 in
theorem l_mean299 {X : XX} {v : VV} {Q : QQ} {d mc ms : Nat} {b : Int → Int} {n T A a6 a7 x2 x3 : Int} {N0 : Int → Int → Prop} (hW : SW X) (hd : 4 ≤ d) (hH : TYH b n T A v) (h52 : v 47 52 = 1) (hT : 0 ≤ T ∧ T ≤ 16) (h55 : ∀ i, 0 ≤ i → i < v 54 T → -1 ≤ v 55 (3 * T + i) ∧ v 55 (3 * T + i) < T) (hwh : 0 < v 66 (8 * T + 7) → (0 ≤ a6 ∧ v 65 (8 * T + 6) = a6 ∧ (rForm b n 3 a6).1 = true ∧ v 66 (8 * T + 6) = (rForm b n 3 a6).2 ∧ v 66 (8 * T + 6) ≤ A) ∧ (0 ≤ a7 ∧ v 65 (8 * T + 7) = a7 ∧ (rForm b n 3 a7).1 = true ∧ v 66 (8 * T + 7) = (rForm b n 3 a7).2 ∧ v 66 (8 * T + 7) ≤ A)) (he : 0 ≤ v 47 50 ∧ v 47 50 ≤ 1800000000) (hN : FM N0 v) (next : ∀ V, Fr TYs v V → FM (fun k p => N0 k p ∨ (0 < v 66 (8 * T + 7) ∧ NWh b n v T a6 a7 k p)) V → (v 47 50 ≤ V 47 50 ∧ V 47 50 ≤ v 47 50 + 2000) → Q none X (upd2 V 47 52 0)) : Ex mX11_meant d 299 [(2, 47), (0, T), (0, x2), (0, x3), (3, 0)] [] X v mc ms Q := by
  refine bX11_meant_299 T x2 x3 hd hW (fun _ _ _ => ⟨_, c_hasWhere hW T ⟨hT.1, by omega⟩, fun r32 w33 hP => ?_⟩)
  obtain ⟨rfl, hr⟩ := hP
  obtain rfl : r32 = bI (0 < w33 66 (8 * T + 7)) := by simpa using hr
  refine ⟨fun g => ?_, fun g => ?_⟩
  · rw [bI_0] at g
    exact next w33 Fr.rf (hN.cg (fun k p => ⟨Or.inl, fun q => q.elim id (fun z => absurd z.1 g)⟩)) ⟨Int.le_refl _, by omega⟩
  · rw [bI_n0] at g
    obtain ⟨⟨s0, s1, s2, s3, s4⟩, p0, p1, p2, p3, p4⟩ := hwh g
    refine ⟨_, c_typeOf (b := b) (n := n) (A := A) (a := a6) N0 hW hH ⟨by omega, by omega⟩ s0 s1 s2 s3 s4 (by omega) (fun _ => hN), fun r36 w37 hP => ?_⟩
    obtain ⟨hr, hTA⟩ := hP
    obtain rfl : r36 = tyF b n (RT b n w33 T) 3 a6 := by simpa using hr
    obtain ⟨t1, t2, t3, t4, t5⟩ := hTA
    have fM : Fr (MTs T) w33 w37 := t1.mono (fun r j h q => h (Or.inl q))
    have e52 : w37 47 52 = w33 47 52 := t1 47 52 (by unfold TYs; omega)
    have eR := RT_M (b := b) (n := n) fM e52 hH.2.1.1 h55 hH.2.2.2.1 hT.2
    refine ⟨_, c_typeOf (b := b) (n := n) (A := A) (a := a7) _ hW (hH.frM fM) ⟨by omega, by omega⟩ p0 (by rw [t1 65 _ (by unfold TYs; omega)]; exact p1) p2 (by rw [t1 66 _ (by unfold TYs; omega)]; exact p3) (by rw [t1 66 _ (by unfold TYs; omega)]; exact p4) (by omega) (fun _ => t2 (by omega)), fun r40 w41 hP => ?_⟩
    obtain ⟨hr, hTA⟩ := hP
    obtain rfl : r40 = tyF b n (RT b n w37 T) 3 a7 := by simpa using hr
    obtain ⟨q1, q2, q3, q4, q5⟩ := hTA
    rw [eR]
    have fM2 : Fr (MTs T) w33 w41 := fM.via q1 (fun _ _ q => q) (fun _ _ q => Or.inl q)
    have fY2 : Fr TYs w33 w41 := t1.via q1 (fun _ _ q => q) (fun _ _ q => q)
    have e42 : w41 47 42 = w33 47 42 := fM2 47 42 (by unfold MTs TYs; omega)
    have hF := (q2 (by omega)).cg (N' := fun k p => N0 k p ∨ (NFe b n w33 T a6 k p ∨ NFe b n w33 T a7 k p)) (fun k p => by rw [NFe_M fM eR, or_assoc])
    have quiet : ¬ (¬ tyF b n (RT b n w33 T) 3 a6 = 0 ∧ ¬ tyF b n (RT b n w33 T) 3 a7 = 0 ∧ ¬ tyF b n (RT b n w33 T) 3 a6 = tyF b n (RT b n w33 T) 3 a7) → Q none X (upd2 w41 47 52 0) := fun h => next w41 fY2 (hF.cg (fun k p => orR ⟨fun q => ⟨g, Or.inl q⟩, fun q => q.2.elim id (fun z => absurd ⟨z.2.1, z.2.2.1, z.2.2.2.1⟩ h)⟩)) ⟨by omega, by omega⟩
    refine ⟨fun g1 => quiet (fun z => z.1 g1), fun g1 => ⟨fun g2 => quiet (fun z => z.2.1 g2), fun g2 => ⟨fun g3 => quiet (fun z => z.2.2 g3), fun g3 => ⟨_, c_means hW _ _, fun w45 hP => ?_⟩⟩⟩⟩
    have e : w45 = mMeans w41 3 (w41 47 42) := hP
    rw [e, e42]
    refine next _ (fY2.mM (by unfold TYs; omega) (by unfold TYs; omega)) ((hF.note 3 _ (by decide)).cg (fun k p => ?_)) (by rw [mM_n (by omega)]; omega)
    rw [or_assoc]
    refine orR ⟨fun q => ⟨g, q.imp id (fun z => ⟨z.1, g1, g2, g3, z.2⟩)⟩, fun q => q.2.imp id (fun z => ⟨z.1, z.2.2.2.2⟩)⟩
