/-! ===== named ===== -/
theorem s_named {G : GT} {cC : Int → Nat} {E : Int} {X : XX} {v : VV} (h : I2 G cC E X v (mp v)) : StpOK mX10_named mX11_named_ 11 2 [] E X v := by
  obtain ⟨h1, hs⟩ := id h
  obtain ⟨s1, ⟨s2, s3⟩, s4, ⟨s5, s5', s5'', s6, s7, s8⟩, s9⟩ := hs
  obtain ⟨⟨⟨b1, b2, b3, b4, b5⟩, -⟩, -, ⟨c1, c2, c3, c4⟩, -, hT, -⟩ := id h1.2.1
  have hT' : TX (v 68) (v 47 22) := hT
  refine StpOK.cx h.1.1 (k_named h1.1 hT' (show v 1 1 = v 47 22 from s2) (fun i i0 i1 => s3 i i0 i1) ⟨s5, s5', s5'', s6⟩ h1.2.2.2.1.obj h1.2.2.1) (fun o w hp => ?_)
  obtain ⟨ho, hf, h11, N, hN⟩ := hp
  have hf' : Fr (fun r j => (6 ≤ r ∧ r ≤ 14) ∨ (r = 1 ∧ j = 1)) v w := hf.mono (fun r j hn q => hn (by unfold SLx SLt at q; omega))
  have em : mp w = mp v := hf'.emq (fun r j q => by omega)
  have hMw := h1.at em
  obtain ⟨⟨hbw, -⟩, hWw, -⟩ := id hMw
  have e68 : w 68 = v 68 := funext fun j => hf' 68 j (by omega)
  have e22 : w 47 22 = v 47 22 := hf' 47 22 (by omega)
  have hq := c_named h1.1 hbw hWw (b := v 68) (n := v 47 22) hT' e68.symm e22
  have eR : ndR (v 68) (v 47 22) w = ndR (v 68) (v 47 22) (mp v) := by
    rw [← em]; rfl
  refine ⟨_, ho, hq.mono (fun o' w' hq => ?_)⟩
  obtain ⟨ho', hg, h22⟩ := hq
  rw [eR] at ho'
  refine ⟨ho', G, cC, ?_⟩
  have u : ∀ r j : Int, ¬ NdS r j → mp w' r j = mp v r j := fun r j q => (hg.mp r j q).trans (congrFun (congrFun em r) j)
  have g : ∀ r j : Int, ¬ ((6 ≤ r ∧ r ≤ 14) ∨ (r = 1 ∧ j = 1)) → w r j = v r j := hf'
  have m22 : mp w' 47 22 = 0 := h22
  obtain ⟨t0, t1, -⟩ := hN.2
  obtain ⟨⟨n1, n2, n3⟩, -, -, n4, -⟩ := hN.2.2
  have tx := hN.1.1.1
  refine I2.ecq ⟨(h1.c (hf'.mono (fun r j q => fun z => q (by unfold Scr; omega)))).rs (v := mp v) (fun r j q => u r j (fun z => q (by unfold NdS at z; unfold RSc; omega))) ⟨?_, ?_, ?_, ?_, ?_⟩ ?_ ?_, ?_⟩ (Ecq.fr hg (fun r j q => by unfold NdS at q; omega))
  · rw [u 47 0 (by unfold NdS; omega)]; exact b1
  · rw [m22]; decide
  · rw [u 47 57 (by unfold NdS; omega)]; exact b3
  · rw [u 47 59 (by unfold NdS; omega)]; exact b4
  · rw [u 47 64 (by unfold NdS; omega)]; exact b5
  · rw [u 47 52 (by unfold NdS; omega), u 47 65 (by unfold NdS; omega), u 47 50 (by unfold NdS; omega)]
    exact ⟨c1, c2, c3, by omega⟩
  · rw [m22]
    exact ⟨⟨by decide, by decide⟩, fun i i0 i1 => by omega⟩
  · refine ⟨?_, ⟨by rw [h11, m22], fun i i0 i1 => by rw [m22] at i1; omega⟩, ?_, ⟨by omega, by omega, by omega, by omega, by rw [g 15 1 (by omega)]; exact s7, by rw [g 45 1 (by omega)]; exact s8⟩, ?_⟩
    · rw [g 0 11 (by omega), g 0 12 (by omega), g 0 13 (by omega), g 0 14 (by omega), g 0 15 (by omega), u 47 0 (by unfold NdS; omega), u 47 59 (by unfold NdS; omega), u 47 64 (by unfold NdS; omega), u 47 27 (by unfold NdS; omega), u 47 28 (by unfold NdS; omega)]; exact s1
    · rw [g 43 1 (by omega), u 47 57 (by unfold NdS; omega)]
      exact ⟨s4.1, s4.2.1, fun i i0 i1 => by rw [g 44 i (by omega), u 81 i (by unfold NdS; omega)]; exact s4.2.2 i i0 i1⟩
    · exact s9.eq (fun r j hr => g r j (by omega))
