/-! ===== the notes of either side, a select ===== -/
def rfL (b : Int → Int) (n : Int) (C : Nat) (w r : Int) : Prop := (∃ c : Nat, c < C ∧ rfF b n 3 (qN b n 3 c + 2) r) ∨ (tK b n w = 265 ∧ (rfF b n 3 (w + 1) r ∨ rfF b n 3 ((rForm b n 3 (w + 1)).2 + 1) r))
def FmSel (b : Int → Int) (n : Int) (C : Nat) (w : Int) : Prop := (∀ c : Nat, c < C → 0 ≤ qN b n 3 c + 2 ∧ (rForm b n 3 (qN b n 3 c + 2)).1 = true) ∧ 0 ≤ w ∧ (tK b n w = 265 → (rForm b n 3 (w + 1)).1 = true ∧ (tK b n (rForm b n 3 (w + 1)).2 = 60 ∨ tK b n (rForm b n 3 (w + 1)).2 = 61) ∧ (rForm b n 3 ((rForm b n 3 (w + 1)).2 + 1)).1 = true)
theorem EmS.nil : EmS (fun _ => False) [] := ⟨fun q h => absurd h List.not_mem_nil, fun _ h => h.elim⟩
theorem EmS_A {b : Int → Int} {n : Int} : ∀ C : Nat, (∀ c : Nat, c < C → 0 ≤ qN b n 3 c + 2 ∧ (rForm b n 3 (qN b n 3 c + 2)).1 = true) → EmS (fun r => ∃ c : Nat, c < C ∧ rfF b n 3 (qN b n 3 c + 2) r) (emA b n C)
  | 0, _ => EmS.nil.cg (fun k => ⟨False.elim, fun ⟨c, h, _⟩ => absurd h (by omega)⟩)
  | C + 1, h => by
    obtain ⟨h1, h2⟩ := h C (by omega)
    refine (EmS_A C (fun c hc => h c (by omega))).app (EmS_F h1 h2) (fun k => ?_)
    constructor
    · rintro ⟨c, c1, c2⟩
      by_cases hc : c = C
      · subst hc; exact Or.inr c2
      · exact Or.inl ⟨c, by omega, c2⟩
    · rintro (⟨c, c1, c2⟩ | h3)
      · exact ⟨c, by omega, c2⟩
      · exact ⟨C, by omega, h3⟩
theorem EmS_L' {b : Int → Int} {n w : Int} {C : Nat} (h : FmSel b n C w) : EmS (rfL b n C w) (Ls b n C w) := by
  obtain ⟨h1, h2, h3⟩ := h
  unfold Ls
  by_cases hk : tK b n w = 265
  · rw [if_pos hk]
    obtain ⟨w1, w2, w3⟩ := h3 hk
    have hlt := rForm_lt w1
    have hs : EmS (fun r => rfF b n 3 (w + 1) r ∨ rfF b n 3 ((rForm b n 3 (w + 1)).2 + 1) r) (emW b n w) := by
      unfold emW
      refine (EmS_F (by omega) w1).app ((EmS_F (by omega) w3).app (EmS.one (by omega)) (h := rfF b n 3 ((rForm b n 3 (w + 1)).2 + 1)) (fun k => ⟨Or.inl, fun z => z.elim id False.elim⟩)) (fun k => Iff.rfl)
    refine (EmS_A C h1).app hs (fun k => ?_)
    unfold rfL
    exact or_congr Iff.rfl ⟨fun z => z.2, fun z => ⟨hk, z⟩⟩
  · rw [if_neg hk, List.append_nil]
    refine (EmS_A C h1).cg (fun k => ?_)
    unfold rfL
    exact ⟨Or.inl, fun z => z.elim id (fun y => absurd y.1 hk)⟩
theorem rfL_ok {b : Int → Int} {n w r : Int} {C : Nat} (hX : TX b n) (h : FmSel b n C w) (hr : rfL b n C w r) : RefOK b n r := by
  have key : rOK b n r := by
    rcases hr with ⟨c, c1, c2⟩ | ⟨hk, h2 | h2⟩
    · exact (rfF_ok (h.1 c c1).2 c2).1
    · exact (rfF_ok (h.2.2 hk).1 h2).1
    · exact (rfF_ok (h.2.2 hk).2.2 h2).1
  obtain ⟨k1, k2, -, k3, k4⟩ := key
  exact ⟨(WR_tok hX k1 k2).1, (WR_tok hX k3 k4).1⟩
/-- what the reference's state holds of a select that is read -/
def MdS (b : Int → Int) (n T : Int) (C B : Nat) (ct cb : Int → Int) (w : Int) (vm : VV) : Prop := (vm 49 T = tW b n 1 ∧ WR (tW b n 1) (nm32 b n 1) ∧ vm 62 (400 * T + 1) = tS b n 1) ∧ (∀ c : Int, 0 ≤ c → c < C → vm 52 (8 * T + c) = tW b n (ct c) ∧ WR (tW b n (ct c)) (nm32 b n (ct c))) ∧ (∀ k : Int, 0 ≤ k → k < B → vm 70 k = tW b n (cb k) ∧ vm 71 k = tS b n (cb k) ∧ WR (tW b n (cb k)) (nm32 b n (cb k))) ∧ 0 < vm 50 T ∧ (0 < vm 66 (8 * T + 7) ↔ tK b n w = 265)
theorem notes_sel {X : XX} {vc vm vM : VV} {cC : Int → Nat} {b : Int → Int} {n T w : Int} {C B : Nat} {ct cb : Int → Int} (hX : TX b n) (hl : LkR X vc vm cC) (hl2 : LkR X vc vM cC) (hTC : TCol X cC) (hτ : ∀ j, 0 ≤ j → j < 128 → okT (vc 38 j)) (hS : FmSel b n C w) (hC : C ≤ 6) (hM : MdS b n T C B ct cb w vm) (hB : BhR b n T B cb vM) (h52 : ¬ vM 47 52 = 0) (h42 : tK b n w = 265 → vM 47 42 = tS b n (rForm b n 3 (w + 1)).2) (h46 : ¬ vc 4 6 = 0) :
    (∀ k p, NCk X vc cC b n C B ct cb (Ls b n C w) (LLs b n C w (refC X vc cC b n cb B)) k p → NAct b n vm vM T C B ct (fun c => qN b n 3 c.toNat + 2) (w + 1) ((rForm b n 3 (w + 1)).2 + 1) k p) ∧ (∀ k p, NAct b n vm vM T C B ct (fun c => qN b n 3 c.toNat + 2) (w + 1) ((rForm b n 3 (w + 1)).2 + 1) k p → ∃ k' p', NCk X vc cC b n C B ct cb (Ls b n C w) (LLs b n C w (refC X vc cC b n cb B)) k' p' ∧ p' ≤ p) := by
  obtain ⟨⟨m1, m2, m3⟩, m4, m5, m6, m7⟩ := hM
  have hU : okU (vc 38) (refC X vc cC b n cb B) := refC_okU hTC hτ
  have hR : ∀ r, rfL b n C w r → tyU (vc 38) (refC X vc cC b n cb B) r = RT b n vM T r := fun r hr => tyU_RT hl2 hTC hB h52 (rfL_ok hX hS hr)
  have hem := EmS_L' hS
  -- the parts that are the same
  have e1 : ∀ k p, NNm X vc b n k p ↔ NTn vm T k p := fun k p => by
    unfold NNm NTn
    rw [tC_tN hl m2, m1, m3]
  have e2 : ∀ k p, NRi b n ct C 0 k p ↔ NCo vm T ct (tS b n) C 0 k p := fun k p => by
    unfold NRi NCo
    refine and_congr Iff.rfl ⟨fun ⟨c', i', q0, q1, q2, q3, q4⟩ => ⟨c', i', q0, q1, q2, ?_, q4⟩, fun ⟨c', i', q0, q1, q2, q3, q4⟩ => ⟨c', i', q0, q1, q2, ?_, q4⟩⟩
    · obtain ⟨a1, a2⟩ := m4 i' q0 (by omega)
      obtain ⟨a3, a4⟩ := m4 c' (by omega) (by omega)
      rw [a1, a3]; exact (a2.eq a4).mpr q3
    · obtain ⟨a1, a2⟩ := m4 i' q0 (by omega)
      obtain ⟨a3, a4⟩ := m4 c' (by omega) (by omega)
      rw [a1, a3] at q3; exact (a2.eq a4).mp q3
  have e3 : ∀ k p, NRi b n cb B 0 k p ↔ NB4 vm B 0 k p := fun k p => by
    unfold NRi NB4
    refine and_congr Iff.rfl ⟨fun ⟨c', i', q0, q1, q2, q3, q4⟩ => ⟨c', i', q0, q1, q2, ?_, ?_⟩, fun ⟨c', i', q0, q1, q2, q3, q4⟩ => ⟨c', i', q0, q1, q2, ?_, ?_⟩⟩
    · obtain ⟨a1, -, a2⟩ := m5 i' q0 (by omega)
      obtain ⟨a3, -, a4⟩ := m5 c' (by omega) (by omega)
      rw [a1, a3]; exact (a2.eq a4).mpr q3
    · rw [(m5 c' (by omega) (by omega)).2.1]; exact q4
    · obtain ⟨a1, -, a2⟩ := m5 i' q0 (by omega)
      obtain ⟨a3, -, a4⟩ := m5 c' (by omega) (by omega)
      rw [a1, a3] at q3; exact (a2.eq a4).mp q3
    · rw [(m5 c' (by omega) (by omega)).2.1] at q4; exact q4
  have e4 : ∀ k p, NM2 X vc b n cb B k p ↔ NB2 vm B k p := fun k p => by
    unfold NM2 NB2
    refine and_congr Iff.rfl ⟨fun ⟨i, q0, q1, q2, q3⟩ => ⟨i, q0, q1, ?_, ?_⟩, fun ⟨i, q0, q1, q2, q3⟩ => ⟨i, q0, q1, ?_, ?_⟩⟩
    · obtain ⟨a1, -, a2⟩ := m5 i q0 q1
      rw [a1, ← tC_tN hl a2]; exact q2
    · rw [(m5 i q0 q1).2.1]; exact q3
    · obtain ⟨a1, -, a2⟩ := m5 i q0 q1
      rw [a1, ← tC_tN hl a2] at q2; exact q2
    · rw [(m5 i q0 q1).2.1] at q3; exact q3
  -- the items
  have e5 : ∀ k p, NIt X vc cC b n cb B (Ls b n C w) k p ↔ (k = 2 ∧ ∃ r, rfL b n C w r ∧ miss b n vM T r p) := fun k p => by
    unfold NIt
    constructor
    · rintro ⟨q, h1, h2, h3⟩
      rcases hem.1 q h1 with z | ⟨-, z⟩
      · omega
      · obtain ⟨y1, y2⟩ := (NRf_miss hl2 hB (rfL_ok hX hS z) k p).mp h3
        exact ⟨y1, _, z, y2⟩
    · rintro ⟨h1, r, h2, h3⟩
      obtain ⟨p', hp'⟩ := hem.2 r h2
      refine ⟨_, hp', ?_, ?_⟩
      · have hok := hem.1 _ hp'
        show 2000 ≤ 2000 + r
        have : 0 ≤ r := by
          rcases h2 with ⟨c, c1, c2⟩ | ⟨hk, h4 | h4⟩
          · have := (rfF_ok (hS.1 c c1).2 c2).2.1
            have := (hS.1 c c1).1
            omega
          · have := (rfF_ok (hS.2.2 hk).1 h4).2.1
            have := hS.2.1
            omega
          · have := (rfF_ok (hS.2.2 hk).2.2 h4).2.1
            have := rForm_lt (hS.2.2 hk).1
            have := hS.2.1
            omega
        omega
      · show NRf X vc cC b n cb B (2000 + r - 2000) k p
        rw [show 2000 + r - 2000 = r by omega]
        exact (NRf_miss hl2 hB (rfL_ok hX hS h2) k p).mpr ⟨h1, h3⟩
  have hcg : ∀ a, (∀ r, rfF b n 3 a r → rfL b n C w r) → (∀ p, erF b n (tyU (vc 38) (refC X vc cC b n cb B)) 3 a p ↔ erF b n (RT b n vM T) 3 a p) ∧ tyF b n (tyU (vc 38) (refC X vc cC b n cb B)) 3 a = tyF b n (RT b n vM T) 3 a := fun a h => ⟨fun p => erF_cg (fun k hk => hR k (h k hk)), tyF_cg (fun k hk => hR k (h k hk))⟩
  obtain ⟨t1, t2⟩ := NTy_dom (τ := vc 38) hX hU hC hS.1 hS.2.1 hS.2.2
  have c1 : ∀ c : Nat, c < C → ∀ r, rfF b n 3 (qN b n 3 c + 2) r → rfL b n C w r := fun c hc r h => Or.inl ⟨c, hc, h⟩
  have eN : ∀ c : Nat, ((c : Nat) : Int).toNat = c := fun c => Int.toNat_natCast c
  constructor
  · rintro k p (((((h | h) | h) | h) | h) | ⟨-, h⟩)
    · exact Or.inl (Or.inl (Or.inl (Or.inl (Or.inl ((e1 k p).mp h)))))
    · exact Or.inl (Or.inl (Or.inl (Or.inl (Or.inr ((e2 k p).mp h)))))
    · exact Or.inl (Or.inl (Or.inr ((e3 k p).mp h)))
    · exact Or.inl (Or.inl (Or.inl (Or.inr ((e4 k p).mp h))))
    · obtain ⟨h1, r, h2, h3⟩ := (e5 k p).mp h
      rcases h2 with ⟨c, hc, h2⟩ | ⟨hk, h2⟩
      · exact Or.inl (Or.inr ⟨m6, c, by omega, by omega, Or.inr ⟨h1, r, h2, h3⟩⟩)
      · rcases h2 with h2 | h2
        · exact Or.inr ⟨m7.mpr hk, Or.inl (Or.inl (Or.inr ⟨h1, r, h2, h3⟩))⟩
        · exact Or.inr ⟨m7.mpr hk, Or.inl (Or.inr (Or.inr ⟨h1, r, h2, h3⟩))⟩
    · obtain ⟨h1, h2⟩ := t1 k p h
      rcases h2 with ⟨c, hc, h2⟩ | ⟨hk, (h2 | h2) | ⟨⟨z1, z2, z3⟩, z4⟩⟩
      · exact Or.inl (Or.inr ⟨m6, c, by omega, by omega, Or.inl ⟨h1, ((hcg _ (c1 c hc)).1 p).mp h2⟩⟩)
      · exact Or.inr ⟨m7.mpr hk, Or.inl (Or.inl (Or.inl ⟨h1, ((hcg _ (fun r z => Or.inr ⟨hk, Or.inl z⟩)).1 p).mp h2⟩))⟩
      · exact Or.inr ⟨m7.mpr hk, Or.inl (Or.inr (Or.inl ⟨h1, ((hcg _ (fun r z => Or.inr ⟨hk, Or.inr z⟩)).1 p).mp h2⟩))⟩
      · rw [(hcg _ (fun r z => Or.inr ⟨hk, Or.inl z⟩)).2] at z1 z3
        rw [(hcg _ (fun r z => Or.inr ⟨hk, Or.inr z⟩)).2] at z2 z3
        exact Or.inr ⟨m7.mpr hk, Or.inr ⟨h1, z1, z2, z3, by rw [h42 hk]; exact z4⟩⟩
  · have viaTy : ∀ p, _ → ∃ k' p', NCk X vc cC b n C B ct cb (Ls b n C w) (LLs b n C w (refC X vc cC b n cb B)) k' p' ∧ p' ≤ p := fun p h => by
      obtain ⟨p', q1, q2⟩ := t2 p h
      exact ⟨3, p', Or.inr ⟨h46, q1⟩, q2⟩
    rintro k p (((((h | h) | h) | h) | ⟨-, i, i0, i1, h⟩) | ⟨hw, h⟩)
    · exact ⟨k, p, Or.inl (Or.inl (Or.inl (Or.inl (Or.inl ((e1 k p).mpr h))))), Int.le_refl _⟩
    · exact ⟨k, p, Or.inl (Or.inl (Or.inl (Or.inl (Or.inr ((e2 k p).mpr h))))), Int.le_refl _⟩
    · exact ⟨k, p, Or.inl (Or.inl (Or.inr ((e4 k p).mpr h))), Int.le_refl _⟩
    · exact ⟨k, p, Or.inl (Or.inl (Or.inl (Or.inr ((e3 k p).mpr h)))), Int.le_refl _⟩
    · rcases h with ⟨h1, h2⟩ | ⟨h1, r, h2, h3⟩
      · exact viaTy p (Or.inl ⟨i.toNat, by omega, ((hcg _ (c1 i.toNat (by omega))).1 p).mpr h2⟩)
      · exact ⟨k, p, Or.inl (Or.inr ((e5 k p).mpr ⟨h1, r, Or.inl ⟨i.toNat, by omega, h2⟩, h3⟩)), Int.le_refl _⟩
    · have hk := m7.mp hw
      rcases h with ((⟨h1, h2⟩ | ⟨h1, r, h2, h3⟩) | (⟨h1, h2⟩ | ⟨h1, r, h2, h3⟩)) | ⟨h1, z1, z2, z3, z4⟩
      · exact viaTy p (Or.inr ⟨hk, Or.inl (Or.inl (((hcg _ (fun r z => Or.inr ⟨hk, Or.inl z⟩)).1 p).mpr h2))⟩)
      · exact ⟨k, p, Or.inl (Or.inr ((e5 k p).mpr ⟨h1, r, Or.inr ⟨hk, Or.inl h2⟩, h3⟩)), Int.le_refl _⟩
      · exact viaTy p (Or.inr ⟨hk, Or.inl (Or.inr (((hcg _ (fun r z => Or.inr ⟨hk, Or.inr z⟩)).1 p).mpr h2))⟩)
      · exact ⟨k, p, Or.inl (Or.inr ((e5 k p).mpr ⟨h1, r, Or.inr ⟨hk, Or.inr h2⟩, h3⟩)), Int.le_refl _⟩
      · rw [← (hcg _ (fun r z => Or.inr ⟨hk, Or.inl z⟩)).2] at z1 z3
        rw [← (hcg _ (fun r z => Or.inr ⟨hk, Or.inr z⟩)).2] at z2 z3
        exact viaTy p (Or.inr ⟨hk, Or.inr ⟨⟨z1, z2, z3⟩, by rw [← h42 hk]; exact z4⟩⟩)
