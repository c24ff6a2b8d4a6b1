/-! ===== retype ===== -/
set_option maxHeartbeats 1000000 in
theorem s_retype {G : GT} {cC : Int → Nat} {E : Int} {X : XX} {v : VV} (h : I2 G cC E X v (mp v)) (a1 a2 a3 : Int) : StpOK mX10_retype mX11_retype 5 4 [(0, a1), (0, a2), (0, a3)] E X v := by
  obtain ⟨h1, s1, ⟨s2, s3⟩, ⟨s4, s4', s4''⟩, ⟨z1, z2, z3, z4, z5, z6⟩, hd, hτ⟩ := id h
  obtain ⟨⟨hb, hM, hTT⟩, hMW, ⟨c1, c2, c3, c4⟩, hAK, hTX, ⟨hokN, hTy⟩, h7⟩ := id h1.2.1
  have h43 : 0 ≤ v 43 1 := by rw [s4]; exact hb.2.2.1.1
  refine StpOK.cx h.1.1 (k_retype h1 hτ h43 z6 a1 a2 a3) (fun o w hp => ?_)
  rcases hp with ⟨hn, rfl, ho⟩ | ⟨hRe, hf, h45, hp⟩
  · have hMv := h1.at rfl
    refine ⟨-1, ho, (c_retype h1.1 hMv.1 hMv.2.1 hMv.2.2.1.1 hMv.2.2.1.2.1 a1 a2 a3).mono (fun o' w' hq => ?_)⟩
    obtain ⟨-, -, hq⟩ := hq
    rcases hq with ⟨-, rfl, ho'⟩ | ⟨y, -⟩ | ⟨y, -⟩
    · exact ⟨ho', G, cC, h.mono (by omega)⟩
    · exact absurd y hn
    · exact absurd y hn
  have hf' : ∀ r j : Int, ¬ ((35 ≤ r ∧ r ≤ 36) ∨ r = 38 ∨ r = 39 ∨ (43 ≤ r ∧ r ≤ 46)) → w r j = v r j := fun r j q => hf r j (fun z => q (by unfold S39 at z; omega))
  have em : mp w = mp v := Emq.mp (fun r j r0 r1 => hf' r j (by omega))
  have hMw := h1.at em
  have hReW : reArg w a1 a2 a3 := by rw [← em] at hRe; exact hRe
  have h38 : ∀ s c, isC (mp v) s c → v 38 (8 * s + c) = mp v 53 (8 * s + c) := fun s c hc => by
    have hls := (h1.live s).mp hc.1
    obtain ⟨-, k2, k3⟩ := (h1.2.2.1.2 s hls.1 hls.2.1).2 hls.2.2
    exact (k3 c hc.2.1 (by rw [← k2]; exact hc.2.2)).2
  have hl : ∀ s c, isC (mp v) s c → tyc v a1 a2 a3 (8 * s + c) = ty1 (mp v) a1 a2 a3 (8 * s + c) := fun s c hc => by
    unfold tyc ty1
    rw [h38 s c hc]
  have etr : ∀ j, trb G (mp v) (tyc v a1 a2 a3) j ↔ trb G w (ty1 w a1 a2 a3) j := fun j => by
    rw [trb_live h1.2.1.1 hl j, ← em, trb_mp]
    exact Iff.rfl
  have e0 : w 47 0 = mp v 47 0 := by rw [← em]; rfl
  have w50 : w 47 50 = mp v 47 50 := by rw [← em]; rfl
  rcases hp with ⟨hc, ho, hFL, h128, h38w⟩ | ⟨hc, ho, h38w, h43w⟩
  · refine ⟨-2, ho, (c_retype h1.1 hMw.1 hMw.2.1 hMw.2.2.1.1 hMw.2.2.1.2.1 a1 a2 a3).mono (fun o' w' hq => ?_)⟩
    obtain ⟨hz, ⟨e65, e50⟩, hq⟩ := hq
    rcases hq with ⟨y, -⟩ | ⟨-, -, ho', hFL', h53⟩ | ⟨-, y, -⟩
    · exact absurd hReW y
    · refine ⟨ho', G, cC, ?_⟩
      have hFw : FLs (trb G w (ty1 w a1 a2 a3)) 136 (w 43 1) (w 44) := hFL.congr (fun i _ _ => etr i) (by decide) (fun i i0 i1 z => by
        have h2 := z.1.1.2.1
        have h3 := hb.1.2
        omega)
      obtain ⟨q1, q2⟩ := hFw.unique hFL'
      have hc0 := cnt_bd (trb G w (ty1 w a1 a2 a3)) 136
      have hcl : w 43 1 = cnt (trb G w (ty1 w a1 a2 a3)) 136 := hFw.1
      have u : ∀ r j : Int, ¬ ReZ r j → mp w' r j = mp v r j := fun r j q => (hz.mp r j q).trans (congrFun (congrFun em r) j)
      have u53 : ∀ j, mp w' 53 j = mp v 53 j := fun j => (h53 j).trans (congrFun (congrFun em 53) j)
      have m57 : mp w' 47 57 = w 43 1 := q1.symm
      have m50 : mp w' 47 50 = w' 47 50 := rfl
      refine I2.ecq ⟨(h1.c (fun r j q => ?_)).rs (v := mp v) (fun r j q => ?_) ⟨?_, ?_, ?_, ?_, ?_⟩ ⟨?_, e65, ?_, ?_⟩ ?_, ⟨?_, ⟨?_, fun i i0 i1 => ?_⟩, ⟨m57.symm, h128, fun i i0 i1 => ?_⟩, ⟨?_, ?_, ?_, ?_, ?_, h45⟩, ?_⟩⟩ (Ecq.fr hz (fun r j q => by unfold ReZ ReA at q; omega))
      · by_cases z : r = 38
        · rw [z]; exact h38w j
        · exact hf' r j (fun y => q (by unfold Scr; omega))
      · by_cases z : r = 53
        · rw [z]; exact u53 j
        · exact u r j (fun y => q (by unfold ReZ ReA at y; unfold RSc; omega))
      · rw [u 47 0 (by unfold ReZ ReA; omega)]; exact hb.1
      · rw [u 47 22 (by unfold ReZ ReA; omega)]; exact hb.2.1
      · rw [m57]; omega
      · rw [u 47 59 (by unfold ReZ ReA; omega)]; exact hb.2.2.2.1
      · rw [u 47 64 (by unfold ReZ ReA; omega)]; exact hb.2.2.2.2
      · rw [u 47 52 (by unfold ReZ ReA; omega)]; exact c1
      · rw [m50]; omega
      · rw [m50]; omega
      · have e68 : mp w' 68 = mp v 68 := funext fun j => u 68 j (by unfold ReZ ReA; omega)
        rw [e68, u 47 22 (by unfold ReZ ReA; omega)]; exact hTX
      · rw [hf' 0 11 (by omega), hf' 0 12 (by omega), hf' 0 13 (by omega), hf' 0 14 (by omega), hf' 0 15 (by omega), u 47 0 (by unfold ReZ ReA; omega), u 47 59 (by unfold ReZ ReA; omega), u 47 64 (by unfold ReZ ReA; omega), u 47 27 (by unfold ReZ ReA; omega), u 47 28 (by unfold ReZ ReA; omega)]; exact s1
      · rw [hf' 1 1 (by omega), u 47 22 (by unfold ReZ ReA; omega)]; exact s2
      · rw [u 47 22 (by unfold ReZ ReA; omega)] at i1
        rw [hf' 2 i (by omega), u 68 i (by unfold ReZ ReA; omega)]; exact s3 i i0 i1
      · rw [m57] at i1
        exact q2 i i0 i1
      · rw [hf' 6 1 (by omega)]; exact z1
      · rw [hf' 8 1 (by omega)]; exact z2
      · rw [hf' 10 1 (by omega)]; exact z3
      · rw [hf' 13 1 (by omega)]; exact z4
      · rw [hf' 15 1 (by omega)]; exact z5
      · refine Sc6.eq ⟨hd, hτ⟩ (fun r j hr => ?_)
        by_cases z : r = 38
        · rw [z]; exact h38w j
        · exact hf' r j (by omega)
    · exfalso
      obtain ⟨x, x1, x2, -⟩ := cnt_hit (trb G (mp v) (tyc v a1 a2 a3)) 128 0 (Int.le_refl _) hc
      exact y x (by omega) (by omega) ((etr x).mp x2)
  · have hno0 : ∀ j, 0 ≤ j → j < 128 → ¬ trb G (mp v) (tyc v a1 a2 a3) j := fun j j0 j1 z => by
      have k1 : cnt (trb G (mp v) (tyc v a1 a2 a3)) (j.toNat + 1) ≤ cnt (trb G (mp v) (tyc v a1 a2 a3)) 128 := cnt_mono _ (by omega)
      have k2 : cnt (trb G (mp v) (tyc v a1 a2 a3)) (j.toNat + 1) = cnt (trb G (mp v) (tyc v a1 a2 a3)) j.toNat + 1 := by
        show cnt _ j.toNat + bI (trb G (mp v) (tyc v a1 a2 a3) (j.toNat : Int)) = _
        rw [Int.toNat_of_nonneg j0, bI_t z]
      have k3 := cnt_bd (trb G (mp v) (tyc v a1 a2 a3)) j.toNat
      omega
    refine ⟨_, ho, (c_retype h1.1 hMw.1 hMw.2.1 hMw.2.2.1.1 hMw.2.2.1.2.1 a1 a2 a3).mono (fun o' w' hq => ?_)⟩
    obtain ⟨hz, ⟨e65, e50⟩, hq⟩ := hq
    rcases hq with ⟨y, -⟩ | ⟨-, ⟨j, j0, j1, y⟩, -⟩ | ⟨-, -, ho', h53, h57, h81⟩
    · exact absurd hReW y
    · exfalso
      have h2 := y.1.1.2.1
      have h3 := hb.1.2
      exact hno0 j j0 (by omega) ((etr j).mpr y)
    · have hoo : cnt (fun j => ¬ j = 8 * a1 + a2 ∧ ¬ tau G (mp v) (tyc v a1 a2 a3) 16 j = v 38 j) 128 = cnt (oth G w (ty1 w a1 a2 a3)) 136 := by
        rw [cnt_oth h1.2.1.1 hRe.1 hRe.2.1 h38]
        refine cnt_congr 136 (fun i _ _ => ?_)
        rw [← em, oth_mp]
        exact Iff.rfl
      refine ⟨by rw [ho', hoo], G, cC, ?_⟩
      have u : ∀ r j : Int, ¬ ReZ r j → mp w' r j = mp v r j := fun r j q => (hz.mp r j q).trans (congrFun (congrFun em r) j)
      have eF : ∀ j, tauF G w (ty1 w a1 a2 a3) j = tauF G (mp v) (ty1 (mp v) a1 a2 a3) j := fun j => by
        rw [← em, tauF_mp]; rfl
      have m53 : ∀ j : Int, 0 ≤ j → j < 136 → mp w' 53 j = tauF G (mp v) (ty1 (mp v) a1 a2 a3) j := fun j j0 j1 => (h53 j j0 j1).trans (eF j)
      have m57 : mp w' 47 57 = mp v 47 57 := h57.trans (congrFun (congrFun em 47) 57)
      have m81 : ∀ j, mp w' 81 j = mp v 81 j := fun j => (h81 j).trans (congrFun (congrFun em 81) j)
      have m50 : mp w' 47 50 = w' 47 50 := rfl
      have x0 : mp w' 47 0 = mp v 47 0 := u 47 0 (by unfold ReZ ReA; omega)
      have g : ∀ r j : Int, 48 ≤ r → r ≤ 67 → ¬ r = 53 → mp w' r j = mp v r j := fun r j r0 r1 r2 => u r j (by unfold ReZ ReA; omega)
      have hcb : ∀ s c, isC (mp v) s c → 0 ≤ s ∧ s < 16 ∧ 0 ≤ c ∧ c < 6 := fun s c hc => by
        obtain ⟨-, -, m3, -⟩ := hM s hc.1.1 hc.1.2.1
        have h1 := hc.1.1
        have h2 := hc.1.2.1
        have h4 := hc.2.1
        have h5 := hc.2.2
        have h6 := hb.1.2
        omega
      have htL : ∀ s c, isC (mp v) s c → tau G (mp v) (tyc v a1 a2 a3) 16 (8 * s + c) = tauF G (mp v) (ty1 (mp v) a1 a2 a3) (8 * s + c) := fun s c hc => by
        rw [tau_live h1.2.1.1 hl 16 s c hc, tau_16 hM hb.1]
      have h3 := hRe.2.2
      have hTc : ∀ j, 0 ≤ j → j < 128 → okT (tyc v a1 a2 a3 j) := fun j j0 j1 => by
        unfold tyc
        split
        · unfold okT; omega
        · exact hτ j j0 j1
      have hNc : ∀ s c, isC (mp v) s c → okN (tyc v a1 a2 a3 (8 * s + c)) := fun s c hc => by
        unfold tyc
        split
        · unfold okN; omega
        · rw [h38 s c hc]; exact hokN s c hc
      have hTtk := tau_ok h1.2.1.1 hTc hNc 16
      have hTt : ∀ t, isT (mp w') t ↔ isT (mp v) t := fun t => by unfold isT; rw [x0, g 48 t (by decide) (by decide) (by decide)]
      have hCt : ∀ t c, isC (mp w') t c ↔ isC (mp v) t c := fun t c => by unfold isC; rw [hTt, g 51 t (by decide) (by decide) (by decide)]
      have hSt : ∀ t, isS (mp w') t ↔ isS (mp v) t := fun t => by unfold isS; rw [hTt, g 50 t (by decide) (by decide) (by decide)]
      have hSm : SmT (mp v 47 0) (mp v) (mp w') := SmT.fr (S := ReZ) (fun r j q => u r j q) (fun r j q => by unfold ReZ ReA at q; omega)
      have hMV : MT (mp w') := fun t t0 t1 => by
        rw [x0] at t1
        have hm := hM t t0 t1
        unfold MTt at hm ⊢
        rw [g 48 t (by omega) (by omega) (by omega), g 50 t (by omega) (by omega) (by omega), g 51 t (by omega) (by omega) (by omega), g 54 t (by omega) (by omega) (by omega), g 56 t (by omega) (by omega) (by omega), g 57 t (by omega) (by omega) (by omega), g 58 t (by omega) (by omega) (by omega), g 59 t (by omega) (by omega) (by omega)]
        obtain ⟨m1, m2, m3, m4, m5, m6⟩ := hm
        refine ⟨m1, m2, m3, m4, fun k k0 k1 => ?_, m6⟩
        rw [g 55 _ (by omega) (by omega) (by omega), g 48 _ (by omega) (by omega) (by omega)]
        exact m5 k k0 k1
      have hbV : MB (mp w') := ⟨by rw [x0]; exact hb.1, by rw [u 47 22 (by unfold ReZ ReA; omega)]; exact hb.2.1, by rw [m57]; exact hb.2.2.1, by rw [u 47 59 (by unfold ReZ ReA; omega)]; exact hb.2.2.2.1, by rw [u 47 64 (by unfold ReZ ReA; omega)]; exact hb.2.2.2.2⟩
      have h51 : ∀ s, 0 ≤ s → s < mp v 47 0 → 0 ≤ mp v 51 s ∧ mp v 51 s ≤ 6 := fun s s0 s1 => by
        obtain ⟨-, -, m3, -⟩ := hM s s0 s1
        exact ⟨by omega, m3.2⟩
      have hno : ∀ j, 0 ≤ j → j < 128 → ¬ trb G (mp v) (ty1 (mp v) a1 a2 a3) j := fun j j0 j1 z => hno0 j j0 j1 ((trb_live h1.2.1.1 hl j).mpr z)
      -- the new picture's types
      have hTyN : ∀ t, isS (mp w') t → TyT G (mp w') t := fun t ht => by
        have hS := (hSt t).mp ht
        have hlt := hS.1.2.1
        have ht0 := hS.1.1
        have h5 := h51 t ht0 hlt
        have hb16 := hb.1.2
        have hU : TyT G (fun r j => if r = 53 then tauF G (mp v) (ty1 (mp v) a1 a2 a3) j else mp v r j) t := by
          refine ⟨fun c c0 c1 => ?_, fun y => ?_⟩
          · have c1' : c < mp v 51 t := c1
            have ed : (8 * t + c) / 8 = t ∧ (8 * t + c) % 8 = c := by omega
            have hE : ¬ ErC G (mp v) (tauF G (mp v) (ty1 (mp v) a1 a2 a3)) t c := fun y => hno (8 * t + c) (by omega) (by omega) ⟨by rw [ed.1]; exact hS, Or.inl (by rw [ed.1, ed.2]; exact ⟨c1', y⟩)⟩
            refine ⟨fun y => hE y, ?_⟩
            show TyC G (mp v) (tauF G (mp v) (ty1 (mp v) a1 a2 a3)) t c = tauF G (mp v) (ty1 (mp v) a1 a2 a3) (8 * t + c)
            have hp : PF (mp v) t c := Or.inl ⟨c0, c1'⟩
            have hlo : ∀ j, 0 ≤ j → j < 8 * t → tauF G (mp v) (ty1 (mp v) a1 a2 a3) j = tau G (mp v) (ty1 (mp v) a1 a2 a3) t.toNat j := fun j j0 j1 => tau_le hM (by omega) (by omega)
            have hcur : tauF G (mp v) (ty1 (mp v) a1 a2 a3) (8 * t + c) = tau G (mp v) (ty1 (mp v) a1 a2 a3) (t.toNat + 1) (8 * t + c) := tau_le hM (by omega) (by omega)
            rw [hcur, TyC_cg h1.2.1.1 hS hp hlo]
            show _ = @ite Int _ (Classical.propDecidable _) _ _
            rw [Int.toNat_of_nonneg ht0, show 8 * t + c - 8 * t = c by omega, if_pos ⟨⟨hS, by omega, by omega⟩, fun y => hE ((ErC_cg h1.2.1.1 hS hp hlo).mpr y)⟩]
          · have ed : (8 * t + 6) / 8 = t ∧ (8 * t + 6) % 8 = 6 := by omega
            exact hno (8 * t + 6) (by omega) (by omega) ⟨by rw [ed.1]; exact hS, Or.inr ⟨ed.2, by rw [ed.1]; exact y⟩⟩
        refine hU.to rfl h5 (g 51 t (by decide) (by decide) (by decide)) (fun c c0 c1 => ?_) (fun f _ _ => g 65 _ (by decide) (by decide) (by decide)) (g 66 _ (by decide) (by decide) (by decide)) (fun f k hp hk => ?_)
        · have c1' : c < mp v 51 t := c1
          exact m53 _ (by omega) (by omega)
        · obtain ⟨-, -, -, -, f5⟩ := (hTT t hS).2 f hp
          obtain ⟨⟨a1', a2', a3'⟩, a4', a5'⟩ := f5 k hk
          have h6 := h51 _ a1' (by omega)
          refine ⟨uAt_sm hSm ⟨ht0, hlt⟩ (g 54 t (by decide) (by decide) (by decide)) (hM t ht0 hlt).bh h51 _ _ k (by omega), ?_⟩
          exact m53 (uAt (G t).1 (G t).2 (mp v) t k) (by unfold uAt; omega) (by unfold uAt; omega)
      have hMI : MIn G (E + 10000) (mp w') := by
        refine ⟨h1.2.1.1.sm hbV hMV x0 hSm (fun t ht => ⟨(hSt t).mp ht, g 54 t (by decide) (by decide) (by decide)⟩), ?_, ⟨by rw [u 47 52 (by unfold ReZ ReA; omega)]; exact c1, e65, by rw [m50]; omega, by rw [m50]; omega⟩, hAK.sm x0 (u 47 59 (by unfold ReZ ReA; omega)) (fun r j hr => u r j (by unfold ReZ ReA; omega)), ?_, ⟨fun t c hc => ?_, hTyN⟩, fun t ht => ?_⟩
        · exact hMW.fr (S := ReZ) (fun r j q => u r j q) (fun j j0 j1 => by unfold ReZ ReA; omega)
        · have e68 : mp w' 68 = mp v 68 := funext fun j => u 68 j (by unfold ReZ ReA; omega)
          rw [e68, u 47 22 (by unfold ReZ ReA; omega)]; exact hTX
        · have hc' := (hCt t c).mp hc
          have := hcb t c hc'
          rw [m53 _ (by omega) (by omega), ← htL t c hc']
          exact hTtk.2 t c hc'
        · rw [g 67 t (by decide) (by decide) (by decide), g 60 t (by decide) (by decide) (by decide)]
          exact h7 t ((hSt t).mp ht)
      have hLk : LkR X w (mp w') cC := by
        obtain ⟨l1, l2⟩ := h1.2.2.1
        refine ⟨by rw [x0]; exact l1, fun t t0 t1 => ?_⟩
        rw [x0, g 48 t (by decide) (by decide) (by decide)]
        refine ⟨(l2 t t0 t1).1, fun hlv => ?_⟩
        obtain ⟨d1, d2, d3⟩ := (l2 t t0 t1).2 hlv
        obtain ⟨n1, n2⟩ := h1.nm (t := t) t0 t1 hlv
        rw [g 49 t (by decide) (by decide) (by decide), g 51 t (by decide) (by decide) (by decide), hf' _ _ (by omega)]
        refine ⟨d1, d2, fun c q0 q1 => ?_⟩
        obtain ⟨d4, d5⟩ := d3 c q0 q1
        have hc : isC (mp v) t c := ⟨(h1.live t).mpr ⟨t0, t1, hlv⟩, q0, by rw [d2]; exact q1⟩
        have := hcb t c hc
        rw [g 52 _ (by decide) (by decide) (by decide), n1, hf' _ _ (by omega), ← n1]
        refine ⟨d4, ?_⟩
        rw [h38w _ (by omega) (by omega), m53 _ (by omega) (by omega), htL t c hc]
      have hI1 : I1 G cC (E + 10000) X w (mp w') := by
        refine ⟨h1.1, hMI, hLk, ⟨fun t t0 t1 hlv => ?_, h1.2.2.2.1.2⟩, (h1.2.2.2.2.c (fun a j _ _ q _ => hf' _ j (by omega))).m (u 47 59 (by unfold ReZ ReA; omega)) (fun a _ _ => ⟨u 83 a (by unfold ReZ ReA; omega), u 84 a (by unfold ReZ ReA; omega), u 85 a (by unfold ReZ ReA; omega)⟩)⟩
        obtain ⟨n1, n2⟩ := h1.nm (t := t) t0 t1 hlv
        obtain ⟨k1, k2, k3⟩ := (h1.2.2.2.1.1 t t0 t1 hlv).c (w := w) (fun r j r0 r1 => hf' r j (by omega))
        have htv := (h1.2.2.1.2 t t0 t1).1.mpr hlv
        have ea := ag_sm (v := mp v) (V := mp w') (fun r j hr => g r j (by omega) (by omega) (by omega)) t
        exact ⟨k1.m hSm ⟨t0, htv.1⟩ (g 50 t (by decide) (by decide) (by decide)) (g 54 t (by decide) (by decide) (by decide)) (g 56 t (by decide) (by decide) (by decide)) (g 57 t (by decide) (by decide) (by decide)) (hM t t0 htv.1).bh h51, by rw [ea]; exact k2, by rw [ea]; exact k3⟩
      refine I2.ecq ⟨hI1, ?_, ⟨?_, fun i i0 i1 => ?_⟩, ⟨?_, ?_, fun i i0 i1 => ?_⟩, ⟨?_, ?_, ?_, ?_, ?_, h45⟩, ?_⟩ (Ecq.fr hz (fun r j q => by unfold ReZ ReA at q; omega))
      · rw [hf' 0 11 (by omega), hf' 0 12 (by omega), hf' 0 13 (by omega), hf' 0 14 (by omega), hf' 0 15 (by omega), u 47 0 (by unfold ReZ ReA; omega), u 47 59 (by unfold ReZ ReA; omega), u 47 64 (by unfold ReZ ReA; omega), u 47 27 (by unfold ReZ ReA; omega), u 47 28 (by unfold ReZ ReA; omega)]; exact s1
      · rw [hf' 1 1 (by omega), u 47 22 (by unfold ReZ ReA; omega)]; exact s2
      · rw [u 47 22 (by unfold ReZ ReA; omega)] at i1
        rw [hf' 2 i (by omega), u 68 i (by unfold ReZ ReA; omega)]; exact s3 i i0 i1
      · rw [h43w 43 1 (Or.inl rfl), m57]; exact s4
      · rw [h43w 43 1 (Or.inl rfl)]; exact s4'
      · rw [m57] at i1
        rw [h43w 44 i (Or.inr rfl), m81]; exact s4'' i i0 i1
      · rw [hf' 6 1 (by omega)]; exact z1
      · rw [hf' 8 1 (by omega)]; exact z2
      · rw [hf' 10 1 (by omega)]; exact z3
      · rw [hf' 13 1 (by omega)]; exact z4
      · rw [hf' 15 1 (by omega)]; exact z5
      · exact ⟨hd.of (fun r hr => Or.inl (hf' r 1 (by omega))), fun j j0 j1 => by rw [h38w j j0 j1]; exact hTtk.1 j j0 j1⟩
