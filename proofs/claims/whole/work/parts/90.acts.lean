/-! ===== act: refused by both or by none ===== -/
theorem act_refused {X : XX} {vc vm V : VV} {cC : Int → Nat} {b : Int → Int} {n T k p : Int} (hX : TX b n) (hTO : TObj X) (hTC : TCol X cC) (hl : LkR X vc vm cC) (hτ : ∀ j, 0 ≤ j → j < 128 → okT (vc 38 j)) (e0 : vm 47 0 = T) (h011 : vc 0 11 = T) (hT : T ≤ 16) (hV : ActV b n T vm V) (hR : RfC X vc cC b n k p) : V 47 25 = k ∧ V 47 26 = p ∧ ¬ k = 0 := by
  rcases hR with ⟨h1, h2, h3⟩ | ⟨h1, w, w1, fw, hCk, hfin⟩
  · rcases hV with ⟨-, z1, z2⟩ | ⟨z, -⟩
    · rw [h2, h3]; exact ⟨z1, z2, by decide⟩
    · rw [h1] at z; exact Bool.noConfusion z
  · rcases hV with ⟨z, -⟩ | ⟨-, W, V', A, fW, hRd, -, hK, hA, -, hMe, -, eV⟩
    · rw [h1] at z; exact Bool.noConfusion z
    · obtain ⟨s1, s2⟩ := same_sel hX hTO hTC hl hτ e0 h1 fw hCk fW hRd hK (by omega) hMe
      rcases hfin with ⟨g1, g2, g3⟩ | ⟨g1, g2, g3, g4⟩
      · have e : V = V' := by
          rw [eV]
          split
          · unfold mFull; rw [if_neg (by omega)]
          · rfl
        rw [e, g2, g3]
        exact ⟨s1.symm, s2.symm, g1⟩
      · have eT : T = 16 := by omega
        have e : V = mMeans V' 5 0 := by
          rw [eV, if_pos eT]; unfold mFull; rw [if_pos (by omega)]
        have e2 : V = upd2 (upd2 V' 47 25 5) 47 26 0 := by
          rw [e]; unfold mMeans; rw [if_neg (fun z => z.1 (by omega))]
        rw [e2, g3, g4]
        exact ⟨by rw [upd2_n _ (by omega), upd2_s], upd2_s _ _ _ _, by decide⟩
theorem act_taken {X : XX} {vc vm V w w1 : VV} {cC : Int → Nat} {b : Int → Int} {n T : Int} (hX : TX b n) (hTO : TObj X) (hTC : TCol X cC) (hl : LkR X vc vm cC) (hτ : ∀ j, 0 ≤ j → j < 128 → okT (vc 38 j)) (e0 : vm 47 0 = T) (hT : T < 16) (hV : ActV b n T vm V) (h1 : (rStmt b n).1 = true) (fw : Fr SAc vc w) (hCk : CkO X w cC b n w1) (h0 : w1 32 1 = 0) : V 47 25 = 0 ∧ V 47 26 = -1 ∧ ∃ (W : VV) (A : Int), Fr (AcS T) vm W ∧ RdK b n T W ∧ W 60 T = A ∧ TKt b n T A W ∧ (rStmt b n).2 = A ∧ MeM b n W T V ∧ Fr (MeS T) W V := by
  rcases hV with ⟨z, -⟩ | ⟨-, W, V', A, fW, hRd, hA0, hK, hA, hA2, hMe, fV, eV⟩
  · rw [h1] at z; exact Bool.noConfusion z
  · obtain ⟨s1, s2⟩ := same_sel hX hTO hTC hl hτ e0 h1 fw hCk fW hRd hK (by omega) hMe
    rw [if_neg (by omega)] at eV
    subst eV
    have hFC : w1 32 2 = -1 := by
      rcases hCk.2 with ⟨-, C, -, -, -, z⟩ | ⟨-, C, B, -, z⟩
      · rcases z.1 with ⟨-, y, -⟩ | ⟨y, -⟩
        · exact y
        · exact absurd h0 y
      · rcases z.1 with ⟨-, y, -⟩ | ⟨y, -⟩
        · exact y
        · exact absurd h0 y
    exact ⟨by omega, by omega, W, A, fW, hRd, hA0, hK, by omega, hMe, fV⟩
