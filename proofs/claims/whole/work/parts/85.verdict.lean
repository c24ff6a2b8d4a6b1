/-! ===== one verdict on either side ===== -/
theorem least_same {N : Int → Int → Prop} {vc vm : VV} (h : FC N vc) (h' : FM N vm) (hk : ∀ k k' p, N k p → N k' p → (∀ k'' p'', N k'' p'' → p ≤ p'') → k = k') : vc 32 1 = vm 47 25 ∧ vc 32 2 = vm 47 26 := by
  rcases h with ⟨a, b, c⟩ | ⟨a, a0, b, c⟩
  · rcases h' with ⟨d, e, f⟩ | ⟨d, e, f⟩
    · omega
    · exact absurd e (c _ _)
  · rcases h' with ⟨d, e, f⟩ | ⟨d, e, f⟩
    · exact absurd b (f _ _)
    · have h1 := c _ _ e
      have h2 := f _ _ b
      have h3 : vc 32 2 = vm 47 26 := by omega
      refine ⟨hk _ _ _ b (by rw [h3]; exact e) c, h3⟩
theorem verdict_sel {X : XX} {vc vm vM v1 v2 : VV} {cC : Int → Nat} {b : Int → Int} {n T w : Int} {C B : Nat} {ct cb : Int → Int} (hX : TX b n) (hl : LkR X vc vm cC) (hl2 : LkR X vc vM cC) (hTC : TCol X cC) (hτ : ∀ j, 0 ≤ j → j < 128 → okT (vc 38 j)) (hS : FmSel b n C w) (hC : 1 ≤ C ∧ C ≤ 6) (hM : MdS b n T C B ct cb w vm) (hB : BhR b n T B cb vM) (h52 : ¬ vM 47 52 = 0) (h42 : tK b n w = 265 → vM 47 42 = tS b n (rForm b n 3 (w + 1)).2) (h46 : ¬ vc 4 6 = 0) (hct : ∀ c : Nat, c < C → ct c = qN b n 3 c) (hcb : ∀ i, cb i = qN b n 3 C + 2 * i) (hw : w = qN b n 3 C + 2 * B - 1) (hP : ResP b n 3 C) (hP2 : BehP b n (qN b n 3 C) B) (h1 : tK b n 1 = 256)
    (hc : FC (NCk X vc cC b n C B ct cb (Ls b n C w) (LLs b n C w (refC X vc cC b n cb B))) v1) (hm : FM (NAct b n vm vM T C B ct (fun c => qN b n 3 c.toNat + 2) (w + 1) ((rForm b n 3 (w + 1)).2 + 1)) v2) : v1 32 1 = v2 47 25 ∧ v1 32 2 = v2 47 26 := by
  obtain ⟨d1, d2⟩ := notes_sel hX hl hl2 hTC hτ hS hC.2 hM hB h52 h42 h46
  refine least_same (hc.dom d1 d2) hm (fun k k' p hk hk' hmin => ?_)
  obtain ⟨x, x0, x1, x2, x3⟩ := NAct_tok hX hS hC hM hct hcb hw hP hP2 h1 h42 hk
  obtain ⟨y, y0, y1, y2, y3⟩ := NAct_tok hX hS hC hM hct hcb hw hP hP2 h1 h42 hk'
  have e : x = y := tS_inj hX x0 y0 x2 y2 (by rw [← x1, ← y1])
  subst e
  refine TkK_one hC.1 (fun c hcc => (hS.1 c hcc).2) hcb hw (fun i hi hxi hbad j j0 j1 hbj => ?_) x3 y3
  have hj := hmin 2 (vm 71 j) (Or.inl (Or.inl (Or.inl (Or.inr ⟨rfl, j, j0, by omega, hbj, rfl⟩))))
  have e71 := (hM.2.2.1 j j0 (by omega)).2.1
  have hk256 := (hP2 j.toNat (by omega)).1
  rw [Int.toNat_of_nonneg j0, ← hcb] at hk256
  have hqC : 0 ≤ qN b n 3 C := by
    have := qN_up (fun c hcc => (hS.1 c hcc).2) C 0 (by omega)
    have q0 : qN b n 3 0 = 3 := rfl
    rw [Nat.zero_add] at this
    omega
  have hlt := tS_lt' (y := cb i) hX (show 0 ≤ cb j by rw [hcb]; omega) (by omega) (by rw [hcb, hcb]; omega)
  rw [e71] at hj
  rw [x1, hxi] at hj
  omega
