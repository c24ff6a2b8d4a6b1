/-! ===== feed ===== -/
/-- byte k of a number, the topmost first -/
noncomputable def byt (a k : Int) : Int := (((Int32.ofInt a).toBitVec >>> (24 - 8 * k).toNat) &&& 255#32).toNat
theorem byt_bd (a k : Int) : 0 ≤ byt a k ∧ byt a k ≤ 255 := by
  have h : (((Int32.ofInt a).toBitVec >>> (24 - 8 * k).toNat) &&& 255#32).toNat ≤ 255 := by
    rw [BitVec.toNat_and]; exact Nat.and_le_right
  unfold byt
  omega
theorem of_bv {z : Int} {b : BitVec 32} (h : i32 z) (e : (Int32.ofInt z).toBitVec = b) (hb : b.toNat ≤ 255) : z = (b.toNat : Int) := by
  refine (i32_eq h ⟨by omega, by omega⟩).mp ?_
  refine Int32.toBitVec.inj ?_
  rw [e]
  show b = BitVec.ofInt 32 (b.toNat : Int)
  rw [BitVec.ofInt_natCast, BitVec.ofNat_toNat, BitVec.setWidth_eq]
theorem bytC {a k z1 z2 : Int} (hk : 0 ≤ k ∧ k ≤ 3) (e1 : ((Int32.ofInt a).toUInt32 >>> ((Int32.ofInt (24 - 8 * k)).toUInt32 &&& Int32.toUInt32 31)).toInt32 = Int32.ofInt z1) (e2 : Int32.ofInt z1 &&& Int32.ofInt 255 = Int32.ofInt z2) (h2 : i32 z2) : z2 = byt a k := by
  have es := ushr_bv (Int32.ofInt a) (24 - 8 * k).toNat (by omega)
  rw [Int.toNat_of_nonneg (by omega), e1] at es
  have ea : (Int32.ofInt z2).toBitVec = (Int32.ofInt z1).toBitVec &&& 255#32 := by rw [← e2]; rfl
  rw [es] at ea
  exact of_bv h2 ea (by rw [BitVec.toNat_and]; exact Nat.and_le_right)
theorem bytR {a k z1 z2 : Int} (hk : 0 ≤ k ∧ k ≤ 3) (e1 : Int32.ofInt a >>> (Int32.ofInt (8 * (3 - k)) &&& 31) = Int32.ofInt z1) (e2 : Int32.ofInt z1 &&& Int32.ofInt 255 = Int32.ofInt z2) (h2 : i32 z2) : z2 = byt a k := by
  have es := shr_bv (Int32.ofInt a) (24 - 8 * k).toNat (by omega)
  rw [Int.toNat_of_nonneg (by omega), show 24 - 8 * k = 8 * (3 - k) by omega, e1] at es
  have ea : (Int32.ofInt z2).toBitVec = (Int32.ofInt z1).toBitVec &&& 255#32 := by rw [← e2]; rfl
  have h255 : ∀ i : Nat, i < 32 → (255#32).getLsbD i = decide (i < 8) := by decide +kernel
  have eb : (Int32.ofInt z2).toBitVec = (Int32.ofInt a).toBitVec >>> (24 - 8 * k).toNat &&& 255#32 := by
    rw [ea, es]
    refine BitVec.eq_of_getLsbD_eq (fun i hi => ?_)
    rw [BitVec.getLsbD_and, BitVec.getLsbD_and, h255 i hi]
    by_cases y : i < 8
    · rw [BitVec.getLsbD_sshiftRight, BitVec.getLsbD_ushiftRight]
      have hs : (8 * (3 - k)).toNat + i < 32 := by omega
      have e : (8 * (3 - k)).toNat = (24 - 8 * k).toNat := by omega
      rw [e] at hs ⊢
      simp [hs, show ¬ 32 ≤ i by omega]
    · simp [y]
  exact of_bv h2 eb (by rw [BitVec.toNat_and]; exact Nat.and_le_right)
