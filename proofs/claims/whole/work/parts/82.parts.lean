/-! ===== where type faults lie; the draft's parts ===== -/
def ErAt (b : Int → Int) (n a e p : Int) : Prop := ∃ x, (a ≤ x ∧ x < e) ∧ p = tS b n x ∧ ¬ tK b n x = 256 ∧ ¬ tK b n x = 260
theorem ErAt.wide {b : Int → Int} {n a e a' e' p : Int} (h : ErAt b n a e p) (h1 : a' ≤ a) (h2 : e ≤ e') : ErAt b n a' e' p := by
  obtain ⟨x, q1, q2⟩ := h
  exact ⟨x, ⟨by omega, by omega⟩, q2⟩
theorem erM_at {b : Int → Int} {n : Int} {R : Int → Int} {j : Nat} (hT : ∀ a p, (rTerm b n j a).1 = true → erT b n R j a p → ErAt b n a (rTerm b n j a).2 p) : ∀ (m : Nat) (l a p : Int), (rMore b n (rTerm b n j) m a).1 = true → erM b n (tyT b n R j) (rTerm b n j) (erT b n R j) m l a p → ErAt b n a (rMore b n (rTerm b n j) m a).2 p
  | 0, l, a, p, _, h => h.elim
  | m + 1, l, a, p, hr, h => by
    obtain ⟨ho, h⟩ := h
    have hr0 := hr
    rw [rMore_s m ho] at hr
    obtain ⟨h1, e1⟩ := rThen_true hr
    have e2 : rMore b n (rTerm b n j) (m + 1) a = rMore b n (rTerm b n j) m (rTerm b n j (a + 1)).2 := by rw [rMore_s m ho]; exact e1
    rw [e1] at hr
    have hlt := rTerm_lt j _ h1
    have hle := rMore_le (pT := rTerm b n j) (fun a => rTerm_lt j a) m _ hr
    rw [e2]
    have hop : tK b n a = 43 ∨ tK b n a = 45 ∨ tK b n a = 38 := by unfold isOp at ho; omega
    rcases h with h | ⟨-, h⟩ | h
    · exact (hT _ _ h1 h).wide (by omega) hle
    · exact ⟨a, ⟨Int.le_refl _, by omega⟩, h, by omega, by omega⟩
    · exact (erM_at hT m _ _ _ hr h).wide (by omega) (Int.le_refl _)
theorem erT_at {b : Int → Int} {n : Int} {R : Int → Int} : ∀ (j : Nat) (a p : Int), (rTerm b n j a).1 = true → erT b n R j a p → ErAt b n a (rTerm b n j a).2 p
  | 0, a, p, _, h => h.elim
  | j + 1, a, p, hr, h => by
    obtain ⟨hk, h⟩ := h
    have eR : rTerm b n (j + 1) a = rThen (rTake b n 40 (a + 1)) (fun a => rThen (rForm b n j a) (rTake b n 41)) := if_pos hk
    rw [eR] at hr ⊢
    obtain ⟨h1, e1⟩ := rThen_true hr
    obtain ⟨e2, -⟩ := rTake_t h1
    rw [e1, e2] at hr ⊢
    have hr' : (rThen (rForm b n j (a + 1 + 1)) (rTake b n 41)).1 = true := hr
    show ErAt b n a (rThen (rForm b n j (a + 1 + 1)) (rTake b n 41)).2 p
    rw [show a + 1 + 1 = a + 2 by omega] at hr' ⊢
    obtain ⟨h3, e3⟩ := rThen_true hr'
    rw [e3] at hr' ⊢
    rw [(rTake_t hr').1]
    have hlt := rForm_lt h3
    obtain ⟨q1, q2, q3⟩ := rForm_t h3
    have hl2 := rTerm_lt j _ q1
    show ErAt b n a ((rForm b n j (a + 2)).2 + 1) p
    rcases h with (h | h) | ⟨-, -, h⟩
    · have hle := rMore_le (pT := rTerm b n j) (fun a => rTerm_lt j a) 5 _ q2
      rw [q3]
      exact (erT_at j _ _ q1 h).wide (by omega) (by omega)
    · rw [q3]
      exact (erM_at (erT_at j) 5 _ _ _ q2 h).wide (by omega) (by omega)
    · exact ⟨a, ⟨Int.le_refl _, by omega⟩, h, by omega, by omega⟩
theorem erF_at {b : Int → Int} {n : Int} {R : Int → Int} {j : Nat} {a p : Int} (hr : (rForm b n j a).1 = true) (h : erF b n R j a p) : ErAt b n a (rForm b n j a).2 p := by
  obtain ⟨q1, q2, q3⟩ := rForm_t hr
  have hl2 := rTerm_lt j _ q1
  have hle := rMore_le (pT := rTerm b n j) (fun a => rTerm_lt j a) 5 _ q2
  rw [q3]
  rcases h with h | h
  · exact (erT_at j _ _ q1 h).wide (Int.le_refl _) hle
  · exact (erM_at (erT_at j) 5 _ _ _ q2 h).wide (by omega) (Int.le_refl _)
theorem emA_split (b : Int → Int) (n : Int) : ∀ (C f : Nat), f < C → ∃ R, emA b n C = emA b n f ++ (emF b n 3 (qN b n 3 f + 2) ++ R)
  | 0, f, h => absurd h (by omega)
  | C + 1, f, h => by
    by_cases hf : f = C
    · subst hf
      exact ⟨[], by rw [List.append_nil]; rfl⟩
    · obtain ⟨R, e⟩ := emA_split b n C f (by omega)
      refine ⟨R ++ emF b n 3 (qN b n 3 C + 2), ?_⟩
      show emA b n C ++ _ = _
      rw [e, List.append_assoc, List.append_assoc]
theorem off_mono (b : Int → Int) (n : Int) {f C : Nat} (h : f < C) : off b n f + ((emF b n 3 (qN b n 3 f + 2)).length : Int) ≤ off b n C := by
  obtain ⟨R, e⟩ := emA_split b n C f h
  unfold off
  rw [e, List.length_append, List.length_append]
  omega
theorem rs_lim {U : Int → Int} {q : Int × Int} (hU : ∀ k, U k = 0 ∨ (1000 ≤ U k ∧ U k < 1128)) (h : (0 ≤ q.1 ∧ q.1 < 1000) ∨ 2000 ≤ q.1) : ((rs U q).1 = 0 ∨ (0 ≤ (rs U q).1 ∧ (rs U q).1 < 1128)) ∧ (1000 ≤ (rs U q).1 → (rs U q).1 < 1128 → ∃ k, (rs U q).1 = U k) := by
  unfold rs
  by_cases h2 : 2000 ≤ q.1
  · rw [if_pos h2]
    have := hU (q.1 - 2000)
    exact ⟨by show U (q.1 - 2000) = 0 ∨ _; omega, fun _ _ => ⟨_, rfl⟩⟩
  · rw [if_neg h2]
    exact ⟨by omega, fun h3 _ => by omega⟩
set_option maxHeartbeats 1000000 in
theorem DPt_sel {b : Int → Int} {n : Int} {C : Nat} {w : Int} {U : Int → Int} {V : VV} (hX : TX b n) (hU : okU (V 38) U) (hτ : ∀ j, 0 ≤ j → j < 128 → okT (V 38 j)) (hC : C ≤ 6) (hq : ∀ c : Nat, c < C → 0 ≤ qN b n 3 c + 2 ∧ (rForm b n 3 (qN b n 3 c + 2)).1 = true) (h0 : 0 ≤ w) (hw : tK b n w = 265 → (rForm b n 3 (w + 1)).1 = true ∧ (tK b n (rForm b n 3 (w + 1)).2 = 60 ∨ tK b n (rForm b n 3 (w + 1)).2 = 61) ∧ (rForm b n 3 ((rForm b n 3 (w + 1)).2 + 1)).1 = true)
    (h1 : ∀ k : Nat, k < C → V 26 k = off b n k ∧ V 27 k = off b n (k + 1)) (h2 : ∀ f : Int, (C : Int) ≤ f → f < 6 → V 26 f = 0 ∧ V 27 f = 0) (h3 : (¬ tK b n w = 265 → V 26 6 = 0 ∧ V 27 6 = 0) ∧ (tK b n w = 265 → V 26 6 = off b n C ∧ V 27 6 = off b n C + ((emW b n w).length : Int))) (h4 : V 28 1 = (Ls b n C w).length ∧ V 30 1 = (Ls b n C w).length) (hA : AtL V 29 31 0 ((Ls b n C w).map (rs U))) : DPt V (LLs b n C w U) := by
  have hUk : ∀ k, U k = 0 ∨ (1000 ≤ U k ∧ U k < 1128) := fun k => (hU k).1
  have o0 : 0 ≤ off b n C := by unfold off; omega
  have hLl : ((Ls b n C w).length : Int) = off b n C + ((if tK b n w = 265 then emW b n w else []).length : Int) := by
    unfold Ls off; rw [List.length_append]; omega
  have hLC : off b n C ≤ (Ls b n C w).length := by omega
  -- the limits of a list of items
  have lim : ∀ (K : List (Int × Int)), (∀ q ∈ K, (0 ≤ q.1 ∧ q.1 < 1000) ∨ 2000 ≤ q.1) → (∀ q ∈ K.map (rs U), 1000 ≤ q.1 → q.1 < 1128 → okT (V 38 (q.1 - 1000))) ∧ (∀ q ∈ K.map (rs U), -1 ≤ q.1 ∧ q.1 ≤ 1000000) := fun K hK => by
    refine ⟨fun q hq2 g1 g2 => hτ _ (by omega) (by omega), fun q hq2 => ?_⟩
    obtain ⟨q0, m1, rfl⟩ := List.mem_map.mp hq2
    have := (rs_lim hUk (hK q0 m1)).1
    omega
  have em : ∀ a, 0 ≤ a → (rForm b n 3 a).1 = true → ∀ q ∈ emF b n 3 a, (0 ≤ q.1 ∧ q.1 < 1000) ∨ 2000 ≤ q.1 := fun a a0 hr q m => ((EmS_F a0 hr).1 q m).imp id (fun z => z.1)
  have empty_ : ∀ f, V 26 f = 0 → V 27 f = 0 → LLs b n C w U f = [] → PartR V 26 27 28 29 30 31 f (LLs b n C w U f) ∧ (∀ q ∈ LLs b n C w U f, 1000 ≤ q.1 → q.1 < 1128 → okT (V 38 (q.1 - 1000))) ∧ (∀ q ∈ LLs b n C w U f, -1 ≤ q.1 ∧ q.1 ≤ 1000000) ∧ (bdOf (V 38) (LLs b n C w U f) = -1 ∨ 0 ≤ bdOf (V 38) (LLs b n C w U f)) := fun f z1 z2 z3 => by
    rw [z3]
    refine ⟨⟨by omega, by rw [z1, z2]; rfl, by omega, by omega, trivial⟩, fun q m => absurd m List.not_mem_nil, fun q m => absurd m List.not_mem_nil, Or.inl rfl⟩
  intro f f0 f6
  by_cases hf : f < C
  · have ef : f = ((f.toNat : Nat) : Int) := by omega
    have hfN : f.toNat < C := by omega
    have eL : LLs b n C w U f = (emF b n 3 (qN b n 3 f.toNat + 2)).map (rs U) := by unfold LLs; rw [if_pos hf]
    obtain ⟨a1, a2⟩ := h1 f.toNat hfN
    rw [← ef] at a1 a2
    obtain ⟨q0, q1⟩ := hq f.toNat hfN
    obtain ⟨-, mp⟩ := ty_part (τ := V 38) hX hU q0 q1
    obtain ⟨R, eA⟩ := emA_split b n C f.toNat hfN
    have hmono := off_mono b n hfN
    have of0 : 0 ≤ off b n f.toNat := by unfold off; omega
    rw [eL]
    refine ⟨⟨by omega, ?_, ?_, ?_, ?_⟩, (lim _ (em _ q0 q1)).1, (lim _ (em _ q0 q1)).2, ?_⟩
    · rw [a2, a1, off_s, List.length_map]
    · rw [a2, off_s]; omega
    · rw [a2, off_s]; omega
    · have hA2 := hA
      unfold Ls at hA2
      rw [eA, List.append_assoc, List.map_append] at hA2
      have z := ((AtL.app _ _ _).mp hA2).2
      rw [List.append_assoc, List.map_append] at z
      have z2 := ((AtL.app _ _ _).mp z).1
      rw [List.length_map] at z2
      rw [a1]
      rw [show (0 : Int) + ((emA b n f.toNat).length : Int) = off b n f.toNat by unfold off; omega] at z2
      exact z2
    · by_cases hb : bdOf (V 38) ((emF b n 3 (qN b n 3 f.toNat + 2)).map (rs U)) = -1
      · exact Or.inl hb
      · obtain ⟨x, -, e, -⟩ := erF_at q1 (mp.get.1 hb)
        right; rw [e]; exact (tS_bd b hX.1.1 x).1
  · by_cases h6 : f = 6
    · subst h6
      by_cases hk : tK b n w = 265
      · obtain ⟨b1, b2⟩ := h3.2 hk
        obtain ⟨w1, w2, w3⟩ := hw hk
        have eL : LLs b n C w U 6 = (emW b n w).map (rs U) := by unfold LLs; rw [if_neg hf, if_pos ⟨rfl, hk⟩]
        have hlt := rForm_lt w1
        have mp := ty_where (τ := V 38) hX hU h0 w1 w2 w3
        have emw : ∀ q ∈ emW b n w, (0 ≤ q.1 ∧ q.1 < 1000) ∨ 2000 ≤ q.1 := fun q m => by
          unfold emW at m
          rcases List.mem_append.mp m with m | m
          · exact em _ (by omega) w1 q m
          · rcases List.mem_append.mp m with m | m
            · exact em _ (by omega) w3 q m
            · rw [List.mem_singleton.mp m]; left
              show 0 ≤ tK b n _ ∧ tK b n _ < 1000
              omega
        have hll : ((Ls b n C w).length : Int) = off b n C + ((emW b n w).length : Int) := by rw [hLl, if_pos hk]
        rw [eL]
        refine ⟨⟨by omega, by rw [b2, b1, List.length_map], by omega, by omega, ?_⟩, (lim _ emw).1, (lim _ emw).2, ?_⟩
        · have hA2 := hA
          unfold Ls at hA2
          rw [if_pos hk, List.map_append] at hA2
          have z := ((AtL.app _ _ _).mp hA2).2
          rw [List.length_map, show (0 : Int) + ((emA b n C).length : Int) = off b n C by unfold off; omega] at z
          rw [b1]; exact z
        · by_cases hb : bdOf (V 38) ((emW b n w).map (rs U)) = -1
          · exact Or.inl hb
          · right
            rcases mp.get.1 hb with (z | z) | ⟨-, z⟩
            · obtain ⟨x, -, e, -⟩ := erF_at w1 z
              rw [e]; exact (tS_bd b hX.1.1 x).1
            · obtain ⟨x, -, e, -⟩ := erF_at w3 z
              rw [e]; exact (tS_bd b hX.1.1 x).1
            · rw [z]; exact (tS_bd b hX.1.1 _).1
      · obtain ⟨b1, b2⟩ := h3.1 hk
        exact empty_ 6 b1 b2 (by unfold LLs; rw [if_neg hf, if_neg (fun z => hk z.2)])
    · obtain ⟨b1, b2⟩ := h2 f (by omega) (by omega)
      exact empty_ f b1 b2 (by unfold LLs; rw [if_neg hf, if_neg (fun z => h6 z.1)])
