/-! ===== the reference's new table, of either kind ===== -/
theorem rStmt_end {b : Int → Int} {n : Int} (h : (rStmt b n).1 = true) : tK b n (rStmt b n).2 = 260 := by
  rw [rStmt_hd] at h ⊢
  obtain ⟨h1, e1⟩ := rThen_true h
  rw [e1] at h ⊢
  have h' : (rThen (rBody b n (rHd b n).2) (rFin b n)).1 = true := h
  show tK b n (rThen (rBody b n (rHd b n).2) (rFin b n)).2 = 260
  obtain ⟨h3, e3⟩ := rThen_true h'
  rw [e3] at h' ⊢
  have h4 : (rThen (rTake b n 59 (rBody b n (rHd b n).2).2) (fun a => if tK b n a = 260 then (true, a) else (false, tS b n a))).1 = true := h'
  show tK b n (rThen (rTake b n 59 (rBody b n (rHd b n).2).2) (fun a => if tK b n a = 260 then (true, a) else (false, tS b n a))).2 = 260
  obtain ⟨h5, e5⟩ := rThen_true h4
  rw [e5] at h4 ⊢
  by_cases q : tK b n (rTake b n 59 (rBody b n (rHd b n).2).2).2 = 260
  · rw [if_pos q]; exact q
  · rw [if_neg q] at h4; exact Bool.noConfusion h4
theorem tok_N {b : Int → Int} {n N : Int} {v : VV} (hT : TOK b n N v) (hs : (rStmt b n).1 = true) (h0 : 0 ≤ (rStmt b n).2) : (rStmt b n).2 = N := by
  obtain ⟨-, -, h59, he⟩ := rStmt_t hs
  have hlt := tok_lt hT (x := (rBody b n 2).2) (by omega)
  have hend := rStmt_end hs
  obtain ⟨hN0, hN4, hNk, hNn⟩ := hT.2.1
  by_cases q : (rStmt b n).2 < N
  · exact absurd hend (hNn _ h0 q)
  · omega
theorem act_taken2 {X : XX} {vc vm V w w1 : VV} {cC : Int → Nat} {b : Int → Int} {n T : Int} (hX : TX b n) (hTO : TObj X) (hTC : TCol X cC) (hl : LkR X vc vm cC) (hτ : ∀ j, 0 ≤ j → j < 128 → okT (vc 38 j)) (e0 : vm 47 0 = T) (hT : T < 16) (hV : ActV2 b n T vm V) (h1 : (rStmt b n).1 = true) (fw : Fr SAc vc w) (hCk : CkO X w cC b n w1) (h0 : w1 32 1 = 0) : V 47 25 = 0 ∧ V 47 26 = -1 ∧ ∃ (W : VV) (A : Int), Fr (AcS T) vm W ∧ RdK b n T W ∧ W 60 T = A ∧ TKt b n T A W ∧ (rStmt b n).2 = A ∧ MeM b n W T V ∧ Fr (MeS T) W V ∧ (sK b n = 0 → ∀ j, V 53 j = W 53 j) := by
  rcases hV with ⟨z, -⟩ | ⟨-, W, V', A, fW, hRd, hA0, hK, hA, hA2, hMe, fV, eV⟩
  · rw [h1] at z; exact Bool.noConfusion z
  · obtain ⟨hM1, h53⟩ := hMe.one hRd.1
    obtain ⟨s1, s2⟩ := same_sel hX hTO hTC hl hτ e0 h1 fw hCk fW hRd hK (by omega) hM1
    rw [if_neg (by omega)] at eV
    subst eV
    have hFC : w1 32 2 = -1 := by
      rcases hCk.2 with ⟨-, C, -, -, -, z⟩ | ⟨-, C, B, -, z⟩
      · rcases z.1 with ⟨-, y, -⟩ | ⟨y, -⟩
        · exact y
        · exact absurd h0 y
      · rcases z.1 with ⟨-, y, -⟩ | ⟨y, -⟩
        · exact y
        · exact absurd h0 y
    exact ⟨by omega, by omega, W, A, fW, hRd, hA0, hK, by omega, hM1, fV, h53⟩
def NwT (b : Int → Int) (n N T A : Int) (ct : Int → Int) (C B I : Nat) (vm w1 V : VV) : Prop := DrU b n N ct C B I vm w1 ∧ (V 50 T = sK b n ∧ V 51 T = C ∧ V 54 T = B ∧ V 49 T = tW b n 1 ∧ V 60 T = A) ∧ (∀ c : Int, 0 ≤ c → c < C → WR (V 52 (8 * T + c)) (nm32 b n (ct c)) ∧ V 53 (8 * T + c) = w1 20 c ∧ okN (V 53 (8 * T + c))) ∧ (∀ k : Int, 0 ≤ k → k < B → V 55 (3 * T + k) = w1 24 k) ∧ (sK b n = 0 → ∀ f : Int, 0 ≤ f → f ≤ 6 → PartR w1 26 27 28 29 30 31 f []) ∧ (¬ sK b n = 0 → ∃ q, SelW b n V C T q ∧ ∀ f : Int, 0 ≤ f → f ≤ 6 → PartR w1 26 27 28 29 30 31 f (LLs b n C q (refU b n V T) f)) ∧ (¬ sK b n = 0 → V 67 T = 2 ∧ TKt b n T A V ∧ (∀ f, PF V T f → FmOK b n T V f) ∧ TyT (fun _ => (b, n)) V T)
theorem nw_all {G : GT} {cC : Int → Nat} {E : Int} {X : XX} {vc vm w w1 W V : VV} {b : Int → Int} {n N T A : Int} (h : I1 G cC E X vc vm) (hX : TX b n) (hτ : ∀ j, 0 ≤ j → j < 128 → okT (vc 38 j)) (e0 : vm 47 0 = T) (hs : (rStmt b n).1 = true) (fw : Fr SAc vc w) (hD : DrS b n N vm w w1 ∨ DrV X cC b n N vm w w1) (fW : Fr (AcS T) vm W) (hRd : RdK b n T W) (hA0 : W 60 T = A) (hK : TKt b n T A W) (hA : (rStmt b n).2 = A) (hMe : MeM b n W T V) (fV : Fr (MeS T) W V) (h53 : sK b n = 0 → ∀ j, V 53 j = W 53 j) (h25 : V 47 25 = 0) : ∃ (ct : Int → Int) (C B I : Nat), NwT b n N T A ct C B I vm w1 V := by
  have gV : ∀ r j, (r = 48 ∨ r = 49 ∨ r = 50 ∨ r = 51 ∨ r = 52 ∨ r = 54 ∨ (60 ≤ r ∧ r ≤ 67)) → V r j = W r j := fun r j q => fV r j (by unfold MeS MBs MTs FTs TYs; omega)
  rcases hD with hD | hD
  · obtain ⟨k0, C, hC, hS, hrs, hDU, h20, hpz⟩ := hD
    obtain ⟨r1, r2, r3⟩ := hRd
    rcases r3 with ⟨-, C2, q1, q2, q3, q4, q5, q6⟩ | ⟨z, -⟩
    · have e2 : C2 = C := by
        have := congrArg Prod.snd (q4.symm.trans hrs)
        simp only at this
        omega
      subst e2
      obtain ⟨s1, s2, s3⟩ := hS
      refine ⟨_, C, 0, 0, hDU, ⟨(gV 50 T (by omega)).trans r1, (gV 51 T (by omega)).trans q1, (gV 54 T (by omega)).trans q5, (gV 49 T (by omega)).trans r2, (gV 60 T (by omega)).trans hA0⟩, fun c c0 c1 => ?_, fun k k0 k1 => by omega, fun _ f f0 f6 => ?_, fun z => absurd k0 z, fun z => absurd k0 z⟩
      · obtain ⟨z1, z2, z3, z4⟩ := q3 c c0 c1
        have e53 : V 53 (8 * T + c) = typ (tW b n (3 + 3 * c + 1)) := (h53 k0 _).trans z2
        refine ⟨?_, ?_, ?_⟩
        · rw [gV 52 _ (by omega), z1]; exact (WR_tok hX z3 z4).1
        · rw [e53, (h20 c).2]; exact (s3 c c0 c1).2.1.symm
        · rw [e53]
          unfold typ okN
          (repeat' split) <;> omega
      · obtain ⟨y1, y2⟩ := hpz f f0 f6
        obtain ⟨-, -, -, -, -, ⟨i1, i2, -⟩, -⟩ := hDU
        exact ⟨by omega, by rw [y1, y2]; rfl, by omega, by omega, trivial⟩
    · exact absurd k0 z
  · have hk0 := hD.1
    obtain ⟨C, B, hP, hDU, ⟨o1, o2, o3, o4, o5, o6⟩, o7, o8, o9, o10, o11, o12⟩ := ref_sel h hX hτ e0 hs fw hD fW hRd hA0 hK hA hMe fV h25
    refine ⟨_, C, B, _, hDU, ⟨o1, o2, o3, o4, o5⟩, fun c c0 c1 => ?_, o8, fun z => absurd z hk0, fun _ => ⟨_, o9, o10⟩, fun _ => ⟨o6, o11, o12⟩⟩
    obtain ⟨z1, z2, z3⟩ := o7 c c0 c1
    obtain ⟨y1, y2, -⟩ := hP.2.1 c.toNat (by omega)
    exact ⟨by rw [z1]; exact (WR_tok hX y1 y2).1, z2, z3⟩
/-- two readings of the draft are one -/
theorem DrU.one {b : Int → Int} {n N : Int} {ct ct' : Int → Int} {C B I C' B' I' : Nat} {vm u : VV} (h : DrU b n N ct C B I vm u) (h' : DrU b n N ct' C' B' I' vm u) : (C' = C ∧ B' = B ∧ I' = I) ∧ ∀ c : Int, 0 ≤ c → c < C → ct' c = ct c := by
  obtain ⟨-, -, -, ⟨a1, -, a2, -⟩, ⟨a3, -⟩, ⟨a4, -⟩, -⟩ := h
  obtain ⟨-, -, -, ⟨b1, -, b2, -⟩, ⟨b3, -⟩, ⟨b4, -⟩, -⟩ := h'
  refine ⟨⟨by omega, by omega, by omega⟩, fun c c0 c1 => ?_⟩
  rw [← a2 c c0 c1, ← b2 c c0 (by omega)]
