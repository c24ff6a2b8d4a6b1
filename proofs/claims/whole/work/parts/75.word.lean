/-! ===== the class: which word it is ===== -/
def chI (j k : Nat) : Int := (chB j k).toInt
def sL (j : Nat) : Int := ((slens.getD j 0 : Nat) : Int)
theorem sL_all : ∀ j : Fin 7, Int32.ofNat (slens.getD j 0) = Int32.ofInt (sL j) ∧ (3 ≤ sL j ∧ sL j ≤ 5) ∧ ∀ k : Fin 5, 97 ≤ chI j k ∧ chI j k ≤ 122 ∨ slens.getD j 0 ≤ (k : Nat) := by decide +kernel
theorem k5_all : ∀ k : Fin 5, Int32.ofInt ((k : Nat) : Int) = Int32.ofNat (k : Nat) := by decide +kernel
/-- the text from s on, len long, is word j -/
def isW (b : Int → Int) (s len : Int) (j : Nat) : Prop := len = sL j ∧ ∀ k : Nat, k < slens.getD j 0 → b (s + k) = chI j k
set_option maxRecDepth 100000 in
set_option maxHeartbeats 4000000 in
theorem k_isWord {X : XX} {v : VV} {b : Int → Int} {n s len : Int} {j : Nat} (hW : SW X) (hB : BY b n v) (hj : j < 7) (h0 : 0 ≤ s) (hl : 0 ≤ len ∧ s + len ≤ n) : CX mX8_isWord 6 [(2, 5), (2, -3 - (j : Int)), (0, s), (0, len)] X v (fun o v1 => v1 = v ∧ o = some (0, bI (isW b s len j))) := by
  obtain ⟨e1, e2, e3⟩ := sL_all ⟨j, hj⟩
  simp only [] at e1 e2 e3
  have hn4 := hB.1.1
  have hlen : ∀ G : GG, JMet mSlen 1 G X v (.ref (gK G j) :: ([] : List AV).map (conc G)) (some (.int (Int32.ofInt (sL j)))) := fun G => by
    rw [← e1]; exact jm_length hj
  have eL : sL j = ((slens.getD j 0 : Nat) : Int) := rfl
  have key : len = sL j → ∀ i : Int, (0 ≤ i ∧ i ≤ sL j) → (∀ k : Nat, (k : Int) < i → b (s + k) = chI j k) → Ex mX8_isWord 6 13 [(2, 5), (2, -3 - (j : Int)), (0, s), (0, len), (0, i)] [] X v 0 0 (fun o X1 v1 => X1 = X ∧ v1 = v ∧ o = some (0, bI (isW b s len j))) := fun hlen2 => by
    refine loop1 (fun i : Int => (sL j - i).toNat) (fun i : Int => (0 ≤ i ∧ i ≤ sL j) → (∀ k : Nat, (k : Int) < i → b (s + k) = chI j k) → Ex mX8_isWord 6 13 [(2, 5), (2, -3 - (j : Int)), (0, s), (0, len), (0, i)] [] X v 0 0 (fun o X1 v1 => X1 = X ∧ v1 = v ∧ o = some (0, bI (isW b s len j)))) (fun i ih => ?_)
    intro hi hp
    refine x_iload dX8_isWord_13 rfl ?_
    refine x_aload_n dX8_isWord_15 rfl ?_
    refine x_str j dX8_isWord_16 jv106 hj hlen ⟨by omega, by omega⟩ (rest := [(0, i)]) rfl rfl (by decide) (Nat.le_of_ble_eq_true rfl) ?_
    refine x_icmp_ge 50 dX8_isWord_19 rfl (fun hc => ?_) (fun hc => ?_)
    · refine x_iconst dX8_isWord_50 rfl (i32_of rfl) ?_
      refine x_ret (some (0, 1)) rfl ⟨dX8_isWord_51, Or.inr ⟨rfl, Or.inr rfl⟩⟩ ⟨rfl, rfl, ?_⟩
      rw [bI_t ⟨hlen2, fun k hk => hp k (by omega)⟩]
    · have hk5 : i.toNat < 5 := by omega
      have hks : i.toNat < slens.getD j 0 := by omega
      have ek : ((i.toNat : Nat) : Int) = i := Int.toNat_of_nonneg hi.1
      have hci : 97 ≤ chI j i.toNat ∧ chI j i.toNat ≤ 122 := by
        rcases e3 ⟨i.toNat, hk5⟩ with q | q
        · exact q
        · simp only [] at q; omega
      have hch : ∀ G : GG, JMet mSchr 3 G X v (.ref (gK G j) :: [((0, i) : AV)].map (conc G)) (some (.int (Int32.ofInt (chI j i.toNat)))) := fun G => by
        have h1 := jm_charAt (G := G) (X := X) (v := v) hj hks
        have h2 := k5_all ⟨i.toNat, hk5⟩
        simp only [] at h2
        rw [← h2, ek] at h1
        have h3 : Int32.ofInt (chI j i.toNat) = chB j i.toNat := Int32.ofInt_toInt _
        rw [h3]
        exact h1
      refine x_aload_n dX8_isWord_22 rfl ?_
      refine x_iload dX8_isWord_23 rfl ?_
      refine x_str (avs := [(0, i)]) j dX8_isWord_25 jv111 hj hch ⟨by omega, by omega⟩ (rest := []) rfl rfl (by decide) (by decide) ?_
      refine x_aload_n dX8_isWord_28 rfl ?_
      refine x_getr (r' := 13) flX8_30 dX8_isWord_29 (sW5 hW) (gW5 hW) (rW5_4 hW) rfl (Nat.le_of_ble_eq_true rfl) ?_
      refine x_iload_n dX8_isWord_32 rfl ?_
      refine x_iload dX8_isWord_33 rfl ?_
      refine x_iadd dX8_isWord_35 ⟨by omega, by omega⟩ ?_
      refine x_inv dX8_isWord_36 mlX8_47 (k_byte hW hB (s + i)) (sW13 hW) (Nat.le_of_ble_eq_true rfl) (gW13 hW) rfl rfl (by omega) (Nat.zero_le _) (Nat.zero_le _) (Nat.le_of_ble_eq_true rfl) (fun o1 Y4 w3 ht hP => ?_)
      obtain ⟨hX, rfl, rfl⟩ := hP
      have hX := Eq.symm hX
      subst hX
      refine x_icmp_eq 44 dX8_isWord_39 rfl (fun hc2 => ?_) (fun hc2 => ?_)
      · rw [gB_in ⟨by omega, by omega⟩] at hc2
        refine x_iinc [(2, 5), (2, -3 - (j : Int)), (0, s), (0, len), (0, i + 1)] dX8_isWord_44 rfl rfl (Nat.le_of_ble_eq_true rfl) ⟨by omega, by omega⟩ ?_
        refine x_goto 13 dX8_isWord_47 rfl ?_
        refine ih (i + 1) (by omega) ⟨by omega, by omega⟩ (fun k hk => ?_)
        by_cases h : (k : Int) = i
        · have h5 : k = i.toNat := by omega
          subst h5
          rw [ek]; exact hc2.symm
        · exact hp k (by omega)
      · rw [gB_in ⟨by omega, by omega⟩] at hc2
        refine x_iconst dX8_isWord_42 rfl (i32_of rfl) ?_
        refine x_ret (some (0, 0)) rfl ⟨dX8_isWord_43, Or.inr ⟨rfl, Or.inl rfl⟩⟩ ⟨rfl, rfl, ?_⟩
        rw [bI_f (fun z => hc2 (by have := z.2 i.toNat hks; rw [ek] at this; exact this.symm))]
  refine CX.of (ls := [(2, 5), (2, -3 - (j : Int)), (0, s), (0, len), (3, 0)]) (by decide +kernel) rfl rfl rfl ?_
  refine x_aload_n dX8_isWord_0 rfl ?_
  refine x_str j dX8_isWord_1 jv106 hj hlen ⟨by omega, by omega⟩ (rest := []) rfl rfl (by decide) (by decide) ?_
  refine x_iload_n dX8_isWord_4 rfl ?_
  refine x_icmp_eq 10 dX8_isWord_5 rfl (fun hc => ?_) (fun hc => ?_)
  · refine x_iconst dX8_isWord_10 rfl (i32_of rfl) ?_
    refine x_istore [(2, 5), (2, -3 - (j : Int)), (0, s), (0, len), (0, 0)] dX8_isWord_11 rfl (Nat.le_of_ble_eq_true rfl) ?_
    exact key hc.symm 0 ⟨Int.le_refl _, by omega⟩ (fun k hk => by omega)
  · refine x_iconst dX8_isWord_8 rfl (i32_of rfl) ?_
    refine x_ret (some (0, 0)) rfl ⟨dX8_isWord_9, Or.inr ⟨rfl, Or.inl rfl⟩⟩ ⟨rfl, rfl, ?_⟩
    rw [bI_f (fun z => hc z.1.symm)]
def cds : List Int := [10650290, 439745, 70441, 131638, 12384743, 8897, 14409]
theorem cds_all : ∀ j : Fin 7, cdm 27 (fun i => chI j i.toNat) (slens.getD j 0) = cds.getD j 0 := by decide +kernel
theorem isW_iff {b : Int → Int} {s e : Int} {j : Nat} (hj : j < 7) (hlt : s < e) (hl : ∀ i, s ≤ i → i < e → 97 ≤ b i ∧ b i ≤ 122) : isW b s (e - s) j ↔ (e - s ≤ 8 ∧ cdm 27 (fun i => b (s + i)) (e - s).toNat = cds.getD j 0) := by
  obtain ⟨-, e2, e3⟩ := sL_all ⟨j, hj⟩
  simp only [] at e2 e3
  have ec := cds_all ⟨j, hj⟩
  simp only [] at ec
  have eL : sL j = ((slens.getD j 0 : Nat) : Int) := rfl
  constructor
  · rintro ⟨h1, h2⟩
    refine ⟨by omega, ?_⟩
    rw [← ec, show (e - s).toNat = slens.getD j 0 by omega]
    refine cdm_congr _ (fun i i0 i1 => ?_)
    have := h2 i.toNat (by omega)
    rw [Int.toNat_of_nonneg i0] at this
    exact this
  · rintro ⟨h1, h2⟩
    rw [← ec] at h2
    obtain ⟨h3, h4⟩ := cdm_inj (m := 27) (by decide) _ _ (fun i i0 i1 => hl _ (by omega) (by omega)) (fun i i0 i1 => by
      rcases e3 ⟨i.toNat, by omega⟩ with q | q
      · exact q
      · simp only [] at q; omega) h2
    refine ⟨by omega, fun k hk => ?_⟩
    have := h4 k (by omega) (by omega)
    exact this
set_option maxRecDepth 100000 in
set_option maxHeartbeats 4000000 in
theorem k_KW {X : XX} (hW : SW X) : KWc X := by
  intro b n v s e hB hs0 hlt hen hl
  have hn4 := hB.1.1
  have hT : (e - s ≤ 8 ∧ (if e - s ≤ 8 then wKind (cdm 27 (fun i => b (s + i)) (e - s).toNat) else 256) = wKind (cdm 27 (fun i => b (s + i)) (e - s).toNat)) ∨ (8 < e - s ∧ (if e - s ≤ 8 then wKind (cdm 27 (fun i => b (s + i)) (e - s).toNat) else 256) = 256) := by
    by_cases h : e - s ≤ 8
    · exact Or.inl ⟨h, if_pos h⟩
    · exact Or.inr ⟨by omega, if_neg h⟩
  generalize (if e - s ≤ 8 then wKind (cdm 27 (fun i => b (s + i)) (e - s).toNat) else 256) = T at *
  have hw := fun (j : Nat) (hj : j < 7) => isW_iff (b := b) hj hlt hl
  generalize cdm 27 (fun i => b (s + i)) (e - s).toNat = w at *
  have c0 : cds.getD 0 0 = 10650290 := rfl
  have c1 : cds.getD 1 0 = 439745 := rfl
  have c2 : cds.getD 2 0 = 70441 := rfl
  have c3 : cds.getD 3 0 = 131638 := rfl
  have c4 : cds.getD 4 0 = 12384743 := rfl
  have c5 : cds.getD 5 0 = 8897 := rfl
  have c6 : cds.getD 6 0 = 14409 := rfl
  refine CX.of (by decide +kernel) rfl rfl rfl ?_
  refine x_aload_n dX8_kindOfWord_0 rfl ?_
  refine x_ldcS 0 dX8_kindOfWord_1 rfl rfl ?_
  refine x_iload_n dX8_kindOfWord_3 rfl ?_
  refine x_iload_n dX8_kindOfWord_4 rfl ?_
  refine x_inv dX8_kindOfWord_5 mlX8_90 (k_isWord (j := 0) hW hB (by decide) hs0 ⟨by omega, by omega⟩) (sW5 hW) (Nat.le_of_ble_eq_true rfl) (gW5 hW) rfl rfl (by omega) (Nat.zero_le _) (Nat.zero_le _) (Nat.le_of_ble_eq_true rfl) (fun o1 Y0 w0 ht hP => ?_)
  obtain ⟨hX, rfl, rfl⟩ := hP
  have hX := Eq.symm hX
  subst hX
  have h0 := hw 0 (by decide)
  rw [c0] at h0
  refine x_if_eq 15 dX8_kindOfWord_8 rfl (fun hc => ?_) (fun hc => ?_)
  case refine_2 =>
    rw [bI_n0] at hc
    have q := h0.mp hc
    refine x_sipush dX8_kindOfWord_11 (show (Int16.ofInt 261).toInt32 = Int32.ofInt 261 by decide) (i32_of rfl) ?_
    refine x_ret (some (0, 261)) rfl ⟨dX8_kindOfWord_14, Or.inl rfl⟩ ⟨rfl, rfl, ?_⟩
    have : T = 261 := by
      rcases hT with ⟨-, t⟩ | ⟨t, -⟩
      · rw [t, q.2]; rfl
      · exact absurd q.1 (by omega)
    rw [this]
  rw [bI_0, h0] at hc
  have n0 := hc
  refine x_aload_n dX8_kindOfWord_15 rfl ?_
  refine x_ldcS 1 dX8_kindOfWord_16 rfl rfl ?_
  refine x_iload_n dX8_kindOfWord_18 rfl ?_
  refine x_iload_n dX8_kindOfWord_19 rfl ?_
  refine x_inv dX8_kindOfWord_20 mlX8_90 (k_isWord (j := 1) hW hB (by decide) hs0 ⟨by omega, by omega⟩) (sW5 hW) (Nat.le_of_ble_eq_true rfl) (gW5 hW) rfl rfl (by omega) (Nat.zero_le _) (Nat.zero_le _) (Nat.le_of_ble_eq_true rfl) (fun o1 Y1 w1 ht hP => ?_)
  obtain ⟨hX, rfl, rfl⟩ := hP
  have hX := Eq.symm hX
  subst hX
  have h1 := hw 1 (by decide)
  rw [c1] at h1
  refine x_if_eq 30 dX8_kindOfWord_23 rfl (fun hc => ?_) (fun hc => ?_)
  case refine_2 =>
    rw [bI_n0] at hc
    have q := h1.mp hc
    refine x_sipush dX8_kindOfWord_26 (show (Int16.ofInt 262).toInt32 = Int32.ofInt 262 by decide) (i32_of rfl) ?_
    refine x_ret (some (0, 262)) rfl ⟨dX8_kindOfWord_29, Or.inl rfl⟩ ⟨rfl, rfl, ?_⟩
    have : T = 262 := by
      rcases hT with ⟨-, t⟩ | ⟨t, -⟩
      · rw [t, q.2]; rfl
      · exact absurd q.1 (by omega)
    rw [this]
  rw [bI_0, h1] at hc
  have n1 := hc
  refine x_aload_n dX8_kindOfWord_30 rfl ?_
  refine x_ldcS 2 dX8_kindOfWord_31 rfl rfl ?_
  refine x_iload_n dX8_kindOfWord_33 rfl ?_
  refine x_iload_n dX8_kindOfWord_34 rfl ?_
  refine x_inv dX8_kindOfWord_35 mlX8_90 (k_isWord (j := 2) hW hB (by decide) hs0 ⟨by omega, by omega⟩) (sW5 hW) (Nat.le_of_ble_eq_true rfl) (gW5 hW) rfl rfl (by omega) (Nat.zero_le _) (Nat.zero_le _) (Nat.le_of_ble_eq_true rfl) (fun o1 Y2 w2 ht hP => ?_)
  obtain ⟨hX, rfl, rfl⟩ := hP
  have hX := Eq.symm hX
  subst hX
  have h2 := hw 2 (by decide)
  rw [c2] at h2
  refine x_if_eq 45 dX8_kindOfWord_38 rfl (fun hc => ?_) (fun hc => ?_)
  case refine_2 =>
    rw [bI_n0] at hc
    have q := h2.mp hc
    refine x_sipush dX8_kindOfWord_41 (show (Int16.ofInt 263).toInt32 = Int32.ofInt 263 by decide) (i32_of rfl) ?_
    refine x_ret (some (0, 263)) rfl ⟨dX8_kindOfWord_44, Or.inl rfl⟩ ⟨rfl, rfl, ?_⟩
    have : T = 263 := by
      rcases hT with ⟨-, t⟩ | ⟨t, -⟩
      · rw [t, q.2]; rfl
      · exact absurd q.1 (by omega)
    rw [this]
  rw [bI_0, h2] at hc
  have n2 := hc
  refine x_aload_n dX8_kindOfWord_45 rfl ?_
  refine x_ldcS 3 dX8_kindOfWord_46 rfl rfl ?_
  refine x_iload_n dX8_kindOfWord_48 rfl ?_
  refine x_iload_n dX8_kindOfWord_49 rfl ?_
  refine x_inv dX8_kindOfWord_50 mlX8_90 (k_isWord (j := 3) hW hB (by decide) hs0 ⟨by omega, by omega⟩) (sW5 hW) (Nat.le_of_ble_eq_true rfl) (gW5 hW) rfl rfl (by omega) (Nat.zero_le _) (Nat.zero_le _) (Nat.le_of_ble_eq_true rfl) (fun o1 Y3 w3 ht hP => ?_)
  obtain ⟨hX, rfl, rfl⟩ := hP
  have hX := Eq.symm hX
  subst hX
  have h3 := hw 3 (by decide)
  rw [c3] at h3
  refine x_if_eq 60 dX8_kindOfWord_53 rfl (fun hc => ?_) (fun hc => ?_)
  case refine_2 =>
    rw [bI_n0] at hc
    have q := h3.mp hc
    refine x_sipush dX8_kindOfWord_56 (show (Int16.ofInt 264).toInt32 = Int32.ofInt 264 by decide) (i32_of rfl) ?_
    refine x_ret (some (0, 264)) rfl ⟨dX8_kindOfWord_59, Or.inl rfl⟩ ⟨rfl, rfl, ?_⟩
    have : T = 264 := by
      rcases hT with ⟨-, t⟩ | ⟨t, -⟩
      · rw [t, q.2]; rfl
      · exact absurd q.1 (by omega)
    rw [this]
  rw [bI_0, h3] at hc
  have n3 := hc
  refine x_aload_n dX8_kindOfWord_60 rfl ?_
  refine x_ldcS 4 dX8_kindOfWord_61 rfl rfl ?_
  refine x_iload_n dX8_kindOfWord_63 rfl ?_
  refine x_iload_n dX8_kindOfWord_64 rfl ?_
  refine x_inv dX8_kindOfWord_65 mlX8_90 (k_isWord (j := 4) hW hB (by decide) hs0 ⟨by omega, by omega⟩) (sW5 hW) (Nat.le_of_ble_eq_true rfl) (gW5 hW) rfl rfl (by omega) (Nat.zero_le _) (Nat.zero_le _) (Nat.le_of_ble_eq_true rfl) (fun o1 Y4 w4 ht hP => ?_)
  obtain ⟨hX, rfl, rfl⟩ := hP
  have hX := Eq.symm hX
  subst hX
  have h4 := hw 4 (by decide)
  rw [c4] at h4
  refine x_if_eq 75 dX8_kindOfWord_68 rfl (fun hc => ?_) (fun hc => ?_)
  case refine_2 =>
    rw [bI_n0] at hc
    have q := h4.mp hc
    refine x_sipush dX8_kindOfWord_71 (show (Int16.ofInt 265).toInt32 = Int32.ofInt 265 by decide) (i32_of rfl) ?_
    refine x_ret (some (0, 265)) rfl ⟨dX8_kindOfWord_74, Or.inl rfl⟩ ⟨rfl, rfl, ?_⟩
    have : T = 265 := by
      rcases hT with ⟨-, t⟩ | ⟨t, -⟩
      · rw [t, q.2]; rfl
      · exact absurd q.1 (by omega)
    rw [this]
  rw [bI_0, h4] at hc
  have n4 := hc
  refine x_aload_n dX8_kindOfWord_75 rfl ?_
  refine x_ldcS 5 dX8_kindOfWord_76 rfl rfl ?_
  refine x_iload_n dX8_kindOfWord_78 rfl ?_
  refine x_iload_n dX8_kindOfWord_79 rfl ?_
  refine x_inv dX8_kindOfWord_80 mlX8_90 (k_isWord (j := 5) hW hB (by decide) hs0 ⟨by omega, by omega⟩) (sW5 hW) (Nat.le_of_ble_eq_true rfl) (gW5 hW) rfl rfl (by omega) (Nat.zero_le _) (Nat.zero_le _) (Nat.le_of_ble_eq_true rfl) (fun o1 Y5 w5 ht hP => ?_)
  obtain ⟨hX, rfl, rfl⟩ := hP
  have hX := Eq.symm hX
  subst hX
  have h5 := hw 5 (by decide)
  rw [c5] at h5
  refine x_if_eq 90 dX8_kindOfWord_83 rfl (fun hc => ?_) (fun hc => ?_)
  case refine_2 =>
    rw [bI_n0] at hc
    have q := h5.mp hc
    refine x_sipush dX8_kindOfWord_86 (show (Int16.ofInt 266).toInt32 = Int32.ofInt 266 by decide) (i32_of rfl) ?_
    refine x_ret (some (0, 266)) rfl ⟨dX8_kindOfWord_89, Or.inl rfl⟩ ⟨rfl, rfl, ?_⟩
    have : T = 266 := by
      rcases hT with ⟨-, t⟩ | ⟨t, -⟩
      · rw [t, q.2]; rfl
      · exact absurd q.1 (by omega)
    rw [this]
  rw [bI_0, h5] at hc
  have n5 := hc
  refine x_aload_n dX8_kindOfWord_90 rfl ?_
  refine x_ldcS 6 dX8_kindOfWord_91 rfl rfl ?_
  refine x_iload_n dX8_kindOfWord_93 rfl ?_
  refine x_iload_n dX8_kindOfWord_94 rfl ?_
  refine x_inv dX8_kindOfWord_95 mlX8_90 (k_isWord (j := 6) hW hB (by decide) hs0 ⟨by omega, by omega⟩) (sW5 hW) (Nat.le_of_ble_eq_true rfl) (gW5 hW) rfl rfl (by omega) (Nat.zero_le _) (Nat.zero_le _) (Nat.le_of_ble_eq_true rfl) (fun o1 Y6 w6 ht hP => ?_)
  obtain ⟨hX, rfl, rfl⟩ := hP
  have hX := Eq.symm hX
  subst hX
  have h6 := hw 6 (by decide)
  rw [c6] at h6
  refine x_if_eq 107 dX8_kindOfWord_98 rfl (fun hc => ?_) (fun hc => ?_)
  case refine_2 =>
    rw [bI_n0] at hc
    have q := h6.mp hc
    refine x_sipush dX8_kindOfWord_101 (show (Int16.ofInt 267).toInt32 = Int32.ofInt 267 by decide) (i32_of rfl) ?_
    refine x_goto 110 dX8_kindOfWord_104 rfl ?_
    refine x_ret (some (0, 267)) rfl ⟨dX8_kindOfWord_110, Or.inl rfl⟩ ⟨rfl, rfl, ?_⟩
    have : T = 267 := by
      rcases hT with ⟨-, t⟩ | ⟨t, -⟩
      · rw [t, q.2]; rfl
      · exact absurd q.1 (by omega)
    rw [this]
  rw [bI_0, h6] at hc
  have n6 := hc
  refine x_sipush dX8_kindOfWord_107 (show (Int16.ofInt 256).toInt32 = Int32.ofInt 256 by decide) (i32_of rfl) ?_
  refine x_ret (some (0, 256)) rfl ⟨dX8_kindOfWord_110, Or.inl rfl⟩ ⟨rfl, rfl, ?_⟩
  have : T = 256 := by
    rcases hT with ⟨t8, t⟩ | ⟨-, t⟩
    · rw [t]
      unfold wKind
      rw [if_neg (fun z => n0 ⟨t8, z⟩), if_neg (fun z => n1 ⟨t8, z⟩), if_neg (fun z => n2 ⟨t8, z⟩), if_neg (fun z => n3 ⟨t8, z⟩), if_neg (fun z => n4 ⟨t8, z⟩), if_neg (fun z => n5 ⟨t8, z⟩), if_neg (fun z => n6 ⟨t8, z⟩)]
    · exact t
  rw [this]
