set_option maxRecDepth 100000 in
set_option maxHeartbeats 4000000 in
theorem bX11_isTable_0 {d mc ms : Nat} {X : XX} {v : VV} {Q : QQ} (a1 : Int) (hd : 0 ≤ d) (hW : SW X) (F : i32 a1 → (((a1 < 0) → Q (some (0, 0)) X v) ∧ ((0 ≤ a1) → ((((v 47 0) ≤ a1) → Q (some (0, 0)) X v) ∧ ((a1 < (v 47 0)) → (0 ≤ a1 ∧ a1 < 17) ∧ ((((v 48 a1) = 0) → Q (some (0, 0)) X v) ∧ ((¬ (v 48 a1) = 0) → Q (some (0, 1)) X v))))))) : Ex mX11_isTable d 0 [(2, 47), (0, a1)] [] X v mc ms Q := by
  refine x_li32 (i := 1) rfl (fun ha1 => ?_)
  have F := F ha1
  refine x_iload_n dX11_isTable_0 rfl ?_
  refine x_if_lt 25 dX11_isTable_1 rfl (fun hc => ?_) (fun hc => ?_)
  · have F := F.1 hc
    refine x_iconst dX11_isTable_25 rfl (i32_of rfl) ?_
    exact x_ret (some (0, 0)) rfl ⟨dX11_isTable_26, Or.inr ⟨rfl, Or.inl rfl⟩⟩ F
  · have F := F.2 hc
    refine x_iload_n dX11_isTable_4 rfl ?_
    refine x_aload_n dX11_isTable_5 rfl ?_
    refine x_geti (e := (v 47 0)) 0 flX11_159 dX11_isTable_6 (sW47 hW) (gW47 hW) rfl rfl (Nat.le_of_ble_eq_true rfl) (tagn2 rfl) ?_
    refine x_icmp_ge 25 dX11_isTable_9 rfl (fun hc => ?_) (fun hc => ?_)
    · have F := F.1 hc
      refine x_iconst dX11_isTable_25 rfl (i32_of rfl) ?_
      exact x_ret (some (0, 0)) rfl ⟨dX11_isTable_26, Or.inr ⟨rfl, Or.inl rfl⟩⟩ F
    · have F := F.2 hc
      refine x_aload_n dX11_isTable_12 rfl ?_
      refine x_getr (r' := 48) flX11_7 dX11_isTable_13 (sW47 hW) (gW47 hW) (rW47_1 hW) rfl (Nat.le_of_ble_eq_true rfl) ?_
      refine x_iload_n dX11_isTable_16 rfl ?_
      obtain ⟨hi, F⟩ := F
      refine x_zald (e := (v 48 a1)) dX11_isTable_17 (sW48 hW) (gW48 hW) hi rfl ?_
      refine x_if_eq 25 dX11_isTable_18 rfl (fun hc => ?_) (fun hc => ?_)
      · have F := F.1 hc
        refine x_iconst dX11_isTable_25 rfl (i32_of rfl) ?_
        exact x_ret (some (0, 0)) rfl ⟨dX11_isTable_26, Or.inr ⟨rfl, Or.inl rfl⟩⟩ F
      · have F := F.2 hc
        refine x_iconst dX11_isTable_21 rfl (i32_of rfl) ?_
        refine x_goto 26 dX11_isTable_22 rfl ?_
        exact x_ret (some (0, 1)) rfl ⟨dX11_isTable_26, Or.inr ⟨rfl, Or.inr rfl⟩⟩ F

set_option maxRecDepth 100000 in
set_option maxHeartbeats 4000000 in
theorem bX11_isColumn_0 {d mc ms : Nat} {X : XX} {v : VV} {Q : QQ} (a1 : Int) (a2 : Int) (hd : 1 ≤ d) (hW : SW X) (F : i32 a1 → i32 a2 → ∃ P1 : Option AV → VV → Prop, Con mX11_isTable 0 0 0 [(2, 47), (0, a1)] X v (fun o X1 v1 => X1 = X ∧ P1 o v1) ∧ ∀ (r2 : Int) (w3 : VV), P1 (some (0, r2)) w3 → (((r2 = 0) → Q (some (0, 0)) X w3) ∧ ((¬ r2 = 0) → (((a2 < 0) → Q (some (0, 0)) X w3) ∧ ((0 ≤ a2) → (0 ≤ a1 ∧ a1 < 17) ∧ ((((w3 51 a1) ≤ a2) → Q (some (0, 0)) X w3) ∧ ((a2 < (w3 51 a1)) → Q (some (0, 1)) X w3))))))) : Ex mX11_isColumn d 0 [(2, 47), (0, a1), (0, a2)] [] X v mc ms Q := by
  refine x_li32 (i := 1) rfl (fun ha1 => ?_)
  have F := F ha1
  refine x_li32 (i := 2) rfl (fun ha2 => ?_)
  have F := F ha2
  refine x_aload_n dX11_isColumn_0 rfl ?_
  refine x_iload_n dX11_isColumn_1 rfl ?_
  obtain ⟨P1, hC, F⟩ := F
  refine x_inv dY41_isColumn_2 mlY41_162 hC (sW47 hW) (Nat.le_of_ble_eq_true rfl) (gW47 hW) rfl rfl (by omega) (Nat.zero_le _) (Nat.zero_le _) (Nat.le_of_ble_eq_true rfl) (fun o1 Y4 w3 ht hP => ?_)
  obtain ⟨r2, rfl⟩ : ∃ i, o1 = some (0, i) := ht
  obtain ⟨rfl, hP⟩ := hP
  have F := F r2 w3 hP
  refine x_if_eq 26 dX11_isColumn_5 rfl (fun hc => ?_) (fun hc => ?_)
  · have F := F.1 hc
    refine x_iconst dX11_isColumn_26 rfl (i32_of rfl) ?_
    exact x_ret (some (0, 0)) rfl ⟨dX11_isColumn_27, Or.inr ⟨rfl, Or.inl rfl⟩⟩ F
  · have F := F.2 hc
    refine x_iload_n dX11_isColumn_8 rfl ?_
    refine x_if_lt 26 dX11_isColumn_9 rfl (fun hc => ?_) (fun hc => ?_)
    · have F := F.1 hc
      refine x_iconst dX11_isColumn_26 rfl (i32_of rfl) ?_
      exact x_ret (some (0, 0)) rfl ⟨dX11_isColumn_27, Or.inr ⟨rfl, Or.inl rfl⟩⟩ F
    · have F := F.2 hc
      refine x_iload_n dX11_isColumn_12 rfl ?_
      refine x_aload_n dX11_isColumn_13 rfl ?_
      refine x_getr (r' := 51) flX11_21 dX11_isColumn_14 (sW47 hW) (gW47 hW) (rW47_4 hW) rfl (Nat.le_of_ble_eq_true rfl) ?_
      refine x_iload_n dX11_isColumn_17 rfl ?_
      obtain ⟨hi, F⟩ := F
      refine x_iald (e := (w3 51 a1)) dX11_isColumn_18 (sW51 hW) (gW51 hW) hi rfl ?_
      refine x_icmp_ge 26 dX11_isColumn_19 rfl (fun hc => ?_) (fun hc => ?_)
      · have F := F.1 hc
        refine x_iconst dX11_isColumn_26 rfl (i32_of rfl) ?_
        exact x_ret (some (0, 0)) rfl ⟨dX11_isColumn_27, Or.inr ⟨rfl, Or.inl rfl⟩⟩ F
      · have F := F.2 hc
        refine x_iconst dX11_isColumn_22 rfl (i32_of rfl) ?_
        refine x_goto 27 dX11_isColumn_23 rfl ?_
        exact x_ret (some (0, 1)) rfl ⟨dX11_isColumn_27, Or.inr ⟨rfl, Or.inr rfl⟩⟩ F

set_option maxRecDepth 100000 in
set_option maxHeartbeats 4000000 in
theorem bX11_feed_0 {d mc ms : Nat} {X : XX} {v : VV} {Q : QQ} (a1 : Int) (a2 : Int) (a3 : Int) (a4 : Int) (a5 : Int) (hd : 0 ≤ d) (hW : SW X) (F : i32 a1 → i32 a2 → i32 a3 → i32 a4 → i32 a5 → (i32 (v 47 22) → i32 ((v 47 22) + 20)) ∧ (((((v 47 22) + 20) ≤ 400) → Ex mX11_feed d 18 [(2, 47), (0, a1), (0, a2), (0, a3), (0, a4), (0, a5), (0, 0), (3, 0)] [] X v mc ms Q) ∧ ((400 < ((v 47 22) + 20)) → Q (some (0, (-1))) X v))) : Ex mX11_feed d 0 [(2, 47), (0, a1), (0, a2), (0, a3), (0, a4), (0, a5), (3, 0), (3, 0)] [] X v mc ms Q := by
  refine x_li32 (i := 1) rfl (fun ha1 => ?_)
  have F := F ha1
  refine x_li32 (i := 2) rfl (fun ha2 => ?_)
  have F := F ha2
  refine x_li32 (i := 3) rfl (fun ha3 => ?_)
  have F := F ha3
  refine x_li32 (i := 4) rfl (fun ha4 => ?_)
  have F := F ha4
  refine x_li32 (i := 5) rfl (fun ha5 => ?_)
  have F := F ha5
  refine x_aload_n dX11_feed_0 rfl ?_
  refine x_geti (e := (v 47 22)) 0 flX11_166 dX11_feed_1 (sW47 hW) (gW47 hW) rfl rfl (Nat.le_of_ble_eq_true rfl) (tagn2 rfl) ?_
  refine x_bipush dX11_feed_4 kb_20 (i32_of rfl) ?_
  refine x_si32 (i := 1) rfl (fun hk1 => ?_)
  obtain ⟨hz, F⟩ := F
  have hz := hz hk1
  refine x_iadd dX11_feed_6 hz ?_
  refine x_sipush dX11_feed_7 ks_400 (i32_of rfl) ?_
  refine x_icmp_le 15 dX11_feed_10 rfl (fun hc => ?_) (fun hc => ?_)
  · have F := F.1 hc
    refine x_iconst dX11_feed_15 rfl (i32_of rfl) ?_
    refine x_istore [(2, 47), (0, a1), (0, a2), (0, a3), (0, a4), (0, a5), (0, 0), (3, 0)] dX11_feed_16 rfl (Nat.le_of_ble_eq_true rfl) ?_
    exact F
  · have F := F.2 hc
    refine x_iconst dX11_feed_13 rfl (i32_of rfl) ?_
    exact x_ret (some (0, (-1))) rfl ⟨dX11_feed_14, Or.inl rfl⟩ F

set_option maxRecDepth 100000 in
set_option maxHeartbeats 4000000 in
theorem bX11_feed_18 {d mc ms : Nat} {X : XX} {v : VV} {Q : QQ} (a1 : Int) (a2 : Int) (a3 : Int) (a4 : Int) (a5 : Int) (x6 : Int) (hd : 0 ≤ d) (hW : SW X) (F : i32 a1 → i32 a2 → i32 a3 → i32 a4 → i32 a5 → i32 x6 → (((20 ≤ x6) → Q (some (0, (v 47 22))) X v) ∧ ((x6 < 20) → (((4 ≤ x6) → (((8 ≤ x6) → (((12 ≤ x6) → (((16 ≤ x6) → (0 ≤ x6 ∧ 0 < 4) ∧ (i32 (x6 % 4) → i32 (3 - (x6 % 4))) ∧ (i32 (3 - (x6 % 4)) → i32 (8 * (3 - (x6 % 4)))) ∧ ∀ z1 : Int, Int32.ofInt a5 >>> (Int32.ofInt (8 * (3 - (x6 % 4))) &&& 31) = Int32.ofInt z1 → i32 z1 → ∀ z2 : Int, Int32.ofInt z1 &&& Int32.ofInt 255 = Int32.ofInt z2 → i32 z2 → (0 ≤ (v 47 22) ∧ (v 47 22) < 400) ∧ (i32 (v 47 22) → i32 ((v 47 22) + 1)) ∧ i32 (x6 + 1) ∧ Ex mX11_feed d 18 [(2, 47), (0, a1), (0, a2), (0, a3), (0, a4), (0, a5), (0, (x6 + 1)), (3, 0)] [] X (upd2 (upd2 v 68 (v 47 22) z2) 47 22 ((v 47 22) + 1)) mc ms Q) ∧ ((x6 < 16) → (0 ≤ x6 ∧ 0 < 4) ∧ (i32 (x6 % 4) → i32 (3 - (x6 % 4))) ∧ (i32 (3 - (x6 % 4)) → i32 (8 * (3 - (x6 % 4)))) ∧ ∀ z3 : Int, Int32.ofInt a4 >>> (Int32.ofInt (8 * (3 - (x6 % 4))) &&& 31) = Int32.ofInt z3 → i32 z3 → ∀ z4 : Int, Int32.ofInt z3 &&& Int32.ofInt 255 = Int32.ofInt z4 → i32 z4 → (0 ≤ (v 47 22) ∧ (v 47 22) < 400) ∧ (i32 (v 47 22) → i32 ((v 47 22) + 1)) ∧ i32 (x6 + 1) ∧ Ex mX11_feed d 18 [(2, 47), (0, a1), (0, a2), (0, a3), (0, a4), (0, a5), (0, (x6 + 1)), (3, 0)] [] X (upd2 (upd2 v 68 (v 47 22) z4) 47 22 ((v 47 22) + 1)) mc ms Q))) ∧ ((x6 < 12) → (0 ≤ x6 ∧ 0 < 4) ∧ (i32 (x6 % 4) → i32 (3 - (x6 % 4))) ∧ (i32 (3 - (x6 % 4)) → i32 (8 * (3 - (x6 % 4)))) ∧ ∀ z5 : Int, Int32.ofInt a3 >>> (Int32.ofInt (8 * (3 - (x6 % 4))) &&& 31) = Int32.ofInt z5 → i32 z5 → ∀ z6 : Int, Int32.ofInt z5 &&& Int32.ofInt 255 = Int32.ofInt z6 → i32 z6 → (0 ≤ (v 47 22) ∧ (v 47 22) < 400) ∧ (i32 (v 47 22) → i32 ((v 47 22) + 1)) ∧ i32 (x6 + 1) ∧ Ex mX11_feed d 18 [(2, 47), (0, a1), (0, a2), (0, a3), (0, a4), (0, a5), (0, (x6 + 1)), (3, 0)] [] X (upd2 (upd2 v 68 (v 47 22) z6) 47 22 ((v 47 22) + 1)) mc ms Q))) ∧ ((x6 < 8) → (0 ≤ x6 ∧ 0 < 4) ∧ (i32 (x6 % 4) → i32 (3 - (x6 % 4))) ∧ (i32 (3 - (x6 % 4)) → i32 (8 * (3 - (x6 % 4)))) ∧ ∀ z7 : Int, Int32.ofInt a2 >>> (Int32.ofInt (8 * (3 - (x6 % 4))) &&& 31) = Int32.ofInt z7 → i32 z7 → ∀ z8 : Int, Int32.ofInt z7 &&& Int32.ofInt 255 = Int32.ofInt z8 → i32 z8 → (0 ≤ (v 47 22) ∧ (v 47 22) < 400) ∧ (i32 (v 47 22) → i32 ((v 47 22) + 1)) ∧ i32 (x6 + 1) ∧ Ex mX11_feed d 18 [(2, 47), (0, a1), (0, a2), (0, a3), (0, a4), (0, a5), (0, (x6 + 1)), (3, 0)] [] X (upd2 (upd2 v 68 (v 47 22) z8) 47 22 ((v 47 22) + 1)) mc ms Q))) ∧ ((x6 < 4) → (0 ≤ x6 ∧ 0 < 4) ∧ (i32 (x6 % 4) → i32 (3 - (x6 % 4))) ∧ (i32 (3 - (x6 % 4)) → i32 (8 * (3 - (x6 % 4)))) ∧ ∀ z9 : Int, Int32.ofInt a1 >>> (Int32.ofInt (8 * (3 - (x6 % 4))) &&& 31) = Int32.ofInt z9 → i32 z9 → ∀ z10 : Int, Int32.ofInt z9 &&& Int32.ofInt 255 = Int32.ofInt z10 → i32 z10 → (0 ≤ (v 47 22) ∧ (v 47 22) < 400) ∧ (i32 (v 47 22) → i32 ((v 47 22) + 1)) ∧ i32 (x6 + 1) ∧ Ex mX11_feed d 18 [(2, 47), (0, a1), (0, a2), (0, a3), (0, a4), (0, a5), (0, (x6 + 1)), (3, 0)] [] X (upd2 (upd2 v 68 (v 47 22) z10) 47 22 ((v 47 22) + 1)) mc ms Q))))) : Ex mX11_feed d 18 [(2, 47), (0, a1), (0, a2), (0, a3), (0, a4), (0, a5), (0, x6), (3, 0)] [] X v mc ms Q := by
  refine x_li32 (i := 1) rfl (fun ha1 => ?_)
  have F := F ha1
  refine x_li32 (i := 2) rfl (fun ha2 => ?_)
  have F := F ha2
  refine x_li32 (i := 3) rfl (fun ha3 => ?_)
  have F := F ha3
  refine x_li32 (i := 4) rfl (fun ha4 => ?_)
  have F := F ha4
  refine x_li32 (i := 5) rfl (fun ha5 => ?_)
  have F := F ha5
  refine x_li32 (i := 6) rfl (fun hx6 => ?_)
  have F := F hx6
  refine x_iload dX11_feed_18 rfl ?_
  refine x_bipush dX11_feed_20 kb_20 (i32_of rfl) ?_
  refine x_icmp_ge 114 dX11_feed_22 rfl (fun hc => ?_) (fun hc => ?_)
  · have F := F.1 hc
    refine x_aload_n dX11_feed_114 rfl ?_
    refine x_geti (e := (v 47 22)) 0 flX11_166 dX11_feed_115 (sW47 hW) (gW47 hW) rfl rfl (Nat.le_of_ble_eq_true rfl) (tagn2 rfl) ?_
    exact x_ret (some (0, (v 47 22))) rfl ⟨dX11_feed_118, Or.inl rfl⟩ F
  · have F := F.2 hc
    refine x_iload dX11_feed_25 rfl ?_
    refine x_iconst dX11_feed_27 rfl (i32_of rfl) ?_
    refine x_icmp_ge 35 dX11_feed_28 rfl (fun hc => ?_) (fun hc => ?_)
    · have F := F.1 hc
      refine x_iload dX11_feed_35 rfl ?_
      refine x_bipush dX11_feed_37 kb_8 (i32_of rfl) ?_
      refine x_icmp_ge 46 dX11_feed_39 rfl (fun hc => ?_) (fun hc => ?_)
      · have F := F.1 hc
        refine x_iload dX11_feed_46 rfl ?_
        refine x_bipush dX11_feed_48 kb_12 (i32_of rfl) ?_
        refine x_icmp_ge 57 dX11_feed_50 rfl (fun hc => ?_) (fun hc => ?_)
        · have F := F.1 hc
          refine x_iload dX11_feed_57 rfl ?_
          refine x_bipush dX11_feed_59 kb_16 (i32_of rfl) ?_
          refine x_icmp_ge 69 dX11_feed_61 rfl (fun hc => ?_) (fun hc => ?_)
          · have F := F.1 hc
            refine x_iload dX11_feed_69 rfl ?_
            refine x_istore [(2, 47), (0, a1), (0, a2), (0, a3), (0, a4), (0, a5), (0, x6), (0, a5)] dX11_feed_71 rfl (Nat.le_of_ble_eq_true rfl) ?_
            refine x_aload_n dX11_feed_73 rfl ?_
            refine x_getr (r' := 68) flX11_72 dX11_feed_74 (sW47 hW) (gW47 hW) (rW47_21 hW) rfl (Nat.le_of_ble_eq_true rfl) ?_
            refine x_aload_n dX11_feed_77 rfl ?_
            refine x_geti (e := (v 47 22)) 0 flX11_166 dX11_feed_78 (sW47 hW) (gW47 hW) rfl rfl (Nat.le_of_ble_eq_true rfl) (tagn2 rfl) ?_
            refine x_iload dX11_feed_81 rfl ?_
            refine x_bipush dX11_feed_83 kb_8 (i32_of rfl) ?_
            refine x_iconst dX11_feed_85 rfl (i32_of rfl) ?_
            refine x_iload dX11_feed_86 rfl ?_
            refine x_iconst dX11_feed_88 rfl (i32_of rfl) ?_
            obtain ⟨hz, F⟩ := F
            refine x_si32 (i := 0) rfl (fun hk0 => ?_)
            refine x_si32 (i := 1) rfl (fun hk1 => ?_)
            refine x_irem (z := (x6 % 4)) dX11_feed_89 (irem_ne hk0 hz.2) (irem_nn hk1 hk0 hz.1 hz.2) (irem_ok hk1 hk0 hz.1 hz.2) ?_
            refine x_si32 (i := 0) rfl (fun hk0 => ?_)
            obtain ⟨hz, F⟩ := F
            have hz := hz hk0
            refine x_isub dX11_feed_90 hz ?_
            refine x_si32 (i := 0) rfl (fun hk0 => ?_)
            obtain ⟨hz, F⟩ := F
            have hz := hz hk0
            refine x_imul dX11_feed_91 hz ?_
            obtain ⟨z1, ez1, hz1⟩ := i32_ex (Int32.ofInt a5 >>> (Int32.ofInt (8 * (3 - (x6 % 4))) &&& 31))
            have F := F z1 ez1 hz1
            refine x_ishr (z := z1) dX11_feed_92 ez1 hz1 ?_
            refine x_sipush dX11_feed_93 ks_255 (i32_of rfl) ?_
            obtain ⟨z2, ez2, hz2⟩ := i32_ex (Int32.ofInt z1 &&& Int32.ofInt 255)
            have F := F z2 ez2 hz2
            refine x_iand (z := z2) dX11_feed_96 ez2 hz2 ?_
            obtain ⟨hi, F⟩ := F
            refine x_iast dX11_feed_97 (sW68 hW) (gW68 hW) hi ?_
            refine x_aload_n dX11_feed_98 rfl ?_
            refine x_dup dX11_feed_99 (tag1 rfl) ?_
            refine x_geti (e := (v 47 22)) 0 flX11_166 dX11_feed_100 (sW47 hW) (gW47 hW) rfl rfl (Nat.le_of_ble_eq_true rfl) (tagn2 rfl) ?_
            refine x_iconst dX11_feed_103 rfl (i32_of rfl) ?_
            refine x_si32 (i := 1) rfl (fun hk1 => ?_)
            obtain ⟨hz, F⟩ := F
            have hz := hz hk1
            refine x_iadd dX11_feed_104 hz ?_
            refine x_puti 0 fwX11_166 dX11_feed_105 (sW47 hW) (gW47 hW) (fun h => Bool.noConfusion h) (Nat.le_of_ble_eq_true rfl) rfl (Or.inl ⟨rfl, Or.inl rfl⟩) ?_
            obtain ⟨hz, F⟩ := F
            refine x_iinc [(2, 47), (0, a1), (0, a2), (0, a3), (0, a4), (0, a5), (0, (x6 + 1)), (0, a5)] dX11_feed_108 rfl rfl (Nat.le_of_ble_eq_true rfl) hz ?_
            refine x_goto 18 dX11_feed_111 rfl ?_
            exact x_less [(2, 47), (0, a1), (0, a2), (0, a3), (0, a4), (0, a5), (0, (x6 + 1)), (3, 0)] ⟨Or.inr rfl, ⟨Or.inr rfl, ⟨Or.inr rfl, ⟨Or.inr rfl, ⟨Or.inr rfl, ⟨Or.inr rfl, ⟨Or.inr rfl, ⟨Or.inl rfl, trivial⟩⟩⟩⟩⟩⟩⟩⟩ F
          · have F := F.2 hc
            refine x_iload dX11_feed_64 rfl ?_
            refine x_goto 71 dX11_feed_66 rfl ?_
            refine x_istore [(2, 47), (0, a1), (0, a2), (0, a3), (0, a4), (0, a5), (0, x6), (0, a4)] dX11_feed_71 rfl (Nat.le_of_ble_eq_true rfl) ?_
            refine x_aload_n dX11_feed_73 rfl ?_
            refine x_getr (r' := 68) flX11_72 dX11_feed_74 (sW47 hW) (gW47 hW) (rW47_21 hW) rfl (Nat.le_of_ble_eq_true rfl) ?_
            refine x_aload_n dX11_feed_77 rfl ?_
            refine x_geti (e := (v 47 22)) 0 flX11_166 dX11_feed_78 (sW47 hW) (gW47 hW) rfl rfl (Nat.le_of_ble_eq_true rfl) (tagn2 rfl) ?_
            refine x_iload dX11_feed_81 rfl ?_
            refine x_bipush dX11_feed_83 kb_8 (i32_of rfl) ?_
            refine x_iconst dX11_feed_85 rfl (i32_of rfl) ?_
            refine x_iload dX11_feed_86 rfl ?_
            refine x_iconst dX11_feed_88 rfl (i32_of rfl) ?_
            obtain ⟨hz, F⟩ := F
            refine x_si32 (i := 0) rfl (fun hk0 => ?_)
            refine x_si32 (i := 1) rfl (fun hk1 => ?_)
            refine x_irem (z := (x6 % 4)) dX11_feed_89 (irem_ne hk0 hz.2) (irem_nn hk1 hk0 hz.1 hz.2) (irem_ok hk1 hk0 hz.1 hz.2) ?_
            refine x_si32 (i := 0) rfl (fun hk0 => ?_)
            obtain ⟨hz, F⟩ := F
            have hz := hz hk0
            refine x_isub dX11_feed_90 hz ?_
            refine x_si32 (i := 0) rfl (fun hk0 => ?_)
            obtain ⟨hz, F⟩ := F
            have hz := hz hk0
            refine x_imul dX11_feed_91 hz ?_
            obtain ⟨z3, ez3, hz3⟩ := i32_ex (Int32.ofInt a4 >>> (Int32.ofInt (8 * (3 - (x6 % 4))) &&& 31))
            have F := F z3 ez3 hz3
            refine x_ishr (z := z3) dX11_feed_92 ez3 hz3 ?_
            refine x_sipush dX11_feed_93 ks_255 (i32_of rfl) ?_
            obtain ⟨z4, ez4, hz4⟩ := i32_ex (Int32.ofInt z3 &&& Int32.ofInt 255)
            have F := F z4 ez4 hz4
            refine x_iand (z := z4) dX11_feed_96 ez4 hz4 ?_
            obtain ⟨hi, F⟩ := F
            refine x_iast dX11_feed_97 (sW68 hW) (gW68 hW) hi ?_
            refine x_aload_n dX11_feed_98 rfl ?_
            refine x_dup dX11_feed_99 (tag1 rfl) ?_
            refine x_geti (e := (v 47 22)) 0 flX11_166 dX11_feed_100 (sW47 hW) (gW47 hW) rfl rfl (Nat.le_of_ble_eq_true rfl) (tagn2 rfl) ?_
            refine x_iconst dX11_feed_103 rfl (i32_of rfl) ?_
            refine x_si32 (i := 1) rfl (fun hk1 => ?_)
            obtain ⟨hz, F⟩ := F
            have hz := hz hk1
            refine x_iadd dX11_feed_104 hz ?_
            refine x_puti 0 fwX11_166 dX11_feed_105 (sW47 hW) (gW47 hW) (fun h => Bool.noConfusion h) (Nat.le_of_ble_eq_true rfl) rfl (Or.inl ⟨rfl, Or.inl rfl⟩) ?_
            obtain ⟨hz, F⟩ := F
            refine x_iinc [(2, 47), (0, a1), (0, a2), (0, a3), (0, a4), (0, a5), (0, (x6 + 1)), (0, a4)] dX11_feed_108 rfl rfl (Nat.le_of_ble_eq_true rfl) hz ?_
            refine x_goto 18 dX11_feed_111 rfl ?_
            exact x_less [(2, 47), (0, a1), (0, a2), (0, a3), (0, a4), (0, a5), (0, (x6 + 1)), (3, 0)] ⟨Or.inr rfl, ⟨Or.inr rfl, ⟨Or.inr rfl, ⟨Or.inr rfl, ⟨Or.inr rfl, ⟨Or.inr rfl, ⟨Or.inr rfl, ⟨Or.inl rfl, trivial⟩⟩⟩⟩⟩⟩⟩⟩ F
        · have F := F.2 hc
          refine x_iload_n dX11_feed_53 rfl ?_
          refine x_goto 71 dX11_feed_54 rfl ?_
          refine x_istore [(2, 47), (0, a1), (0, a2), (0, a3), (0, a4), (0, a5), (0, x6), (0, a3)] dX11_feed_71 rfl (Nat.le_of_ble_eq_true rfl) ?_
          refine x_aload_n dX11_feed_73 rfl ?_
          refine x_getr (r' := 68) flX11_72 dX11_feed_74 (sW47 hW) (gW47 hW) (rW47_21 hW) rfl (Nat.le_of_ble_eq_true rfl) ?_
          refine x_aload_n dX11_feed_77 rfl ?_
          refine x_geti (e := (v 47 22)) 0 flX11_166 dX11_feed_78 (sW47 hW) (gW47 hW) rfl rfl (Nat.le_of_ble_eq_true rfl) (tagn2 rfl) ?_
          refine x_iload dX11_feed_81 rfl ?_
          refine x_bipush dX11_feed_83 kb_8 (i32_of rfl) ?_
          refine x_iconst dX11_feed_85 rfl (i32_of rfl) ?_
          refine x_iload dX11_feed_86 rfl ?_
          refine x_iconst dX11_feed_88 rfl (i32_of rfl) ?_
          obtain ⟨hz, F⟩ := F
          refine x_si32 (i := 0) rfl (fun hk0 => ?_)
          refine x_si32 (i := 1) rfl (fun hk1 => ?_)
          refine x_irem (z := (x6 % 4)) dX11_feed_89 (irem_ne hk0 hz.2) (irem_nn hk1 hk0 hz.1 hz.2) (irem_ok hk1 hk0 hz.1 hz.2) ?_
          refine x_si32 (i := 0) rfl (fun hk0 => ?_)
          obtain ⟨hz, F⟩ := F
          have hz := hz hk0
          refine x_isub dX11_feed_90 hz ?_
          refine x_si32 (i := 0) rfl (fun hk0 => ?_)
          obtain ⟨hz, F⟩ := F
          have hz := hz hk0
          refine x_imul dX11_feed_91 hz ?_
          obtain ⟨z5, ez5, hz5⟩ := i32_ex (Int32.ofInt a3 >>> (Int32.ofInt (8 * (3 - (x6 % 4))) &&& 31))
          have F := F z5 ez5 hz5
          refine x_ishr (z := z5) dX11_feed_92 ez5 hz5 ?_
          refine x_sipush dX11_feed_93 ks_255 (i32_of rfl) ?_
          obtain ⟨z6, ez6, hz6⟩ := i32_ex (Int32.ofInt z5 &&& Int32.ofInt 255)
          have F := F z6 ez6 hz6
          refine x_iand (z := z6) dX11_feed_96 ez6 hz6 ?_
          obtain ⟨hi, F⟩ := F
          refine x_iast dX11_feed_97 (sW68 hW) (gW68 hW) hi ?_
          refine x_aload_n dX11_feed_98 rfl ?_
          refine x_dup dX11_feed_99 (tag1 rfl) ?_
          refine x_geti (e := (v 47 22)) 0 flX11_166 dX11_feed_100 (sW47 hW) (gW47 hW) rfl rfl (Nat.le_of_ble_eq_true rfl) (tagn2 rfl) ?_
          refine x_iconst dX11_feed_103 rfl (i32_of rfl) ?_
          refine x_si32 (i := 1) rfl (fun hk1 => ?_)
          obtain ⟨hz, F⟩ := F
          have hz := hz hk1
          refine x_iadd dX11_feed_104 hz ?_
          refine x_puti 0 fwX11_166 dX11_feed_105 (sW47 hW) (gW47 hW) (fun h => Bool.noConfusion h) (Nat.le_of_ble_eq_true rfl) rfl (Or.inl ⟨rfl, Or.inl rfl⟩) ?_
          obtain ⟨hz, F⟩ := F
          refine x_iinc [(2, 47), (0, a1), (0, a2), (0, a3), (0, a4), (0, a5), (0, (x6 + 1)), (0, a3)] dX11_feed_108 rfl rfl (Nat.le_of_ble_eq_true rfl) hz ?_
          refine x_goto 18 dX11_feed_111 rfl ?_
          exact x_less [(2, 47), (0, a1), (0, a2), (0, a3), (0, a4), (0, a5), (0, (x6 + 1)), (3, 0)] ⟨Or.inr rfl, ⟨Or.inr rfl, ⟨Or.inr rfl, ⟨Or.inr rfl, ⟨Or.inr rfl, ⟨Or.inr rfl, ⟨Or.inr rfl, ⟨Or.inl rfl, trivial⟩⟩⟩⟩⟩⟩⟩⟩ F
      · have F := F.2 hc
        refine x_iload_n dX11_feed_42 rfl ?_
        refine x_goto 71 dX11_feed_43 rfl ?_
        refine x_istore [(2, 47), (0, a1), (0, a2), (0, a3), (0, a4), (0, a5), (0, x6), (0, a2)] dX11_feed_71 rfl (Nat.le_of_ble_eq_true rfl) ?_
        refine x_aload_n dX11_feed_73 rfl ?_
        refine x_getr (r' := 68) flX11_72 dX11_feed_74 (sW47 hW) (gW47 hW) (rW47_21 hW) rfl (Nat.le_of_ble_eq_true rfl) ?_
        refine x_aload_n dX11_feed_77 rfl ?_
        refine x_geti (e := (v 47 22)) 0 flX11_166 dX11_feed_78 (sW47 hW) (gW47 hW) rfl rfl (Nat.le_of_ble_eq_true rfl) (tagn2 rfl) ?_
        refine x_iload dX11_feed_81 rfl ?_
        refine x_bipush dX11_feed_83 kb_8 (i32_of rfl) ?_
        refine x_iconst dX11_feed_85 rfl (i32_of rfl) ?_
        refine x_iload dX11_feed_86 rfl ?_
        refine x_iconst dX11_feed_88 rfl (i32_of rfl) ?_
        obtain ⟨hz, F⟩ := F
        refine x_si32 (i := 0) rfl (fun hk0 => ?_)
        refine x_si32 (i := 1) rfl (fun hk1 => ?_)
        refine x_irem (z := (x6 % 4)) dX11_feed_89 (irem_ne hk0 hz.2) (irem_nn hk1 hk0 hz.1 hz.2) (irem_ok hk1 hk0 hz.1 hz.2) ?_
        refine x_si32 (i := 0) rfl (fun hk0 => ?_)
        obtain ⟨hz, F⟩ := F
        have hz := hz hk0
        refine x_isub dX11_feed_90 hz ?_
        refine x_si32 (i := 0) rfl (fun hk0 => ?_)
        obtain ⟨hz, F⟩ := F
        have hz := hz hk0
        refine x_imul dX11_feed_91 hz ?_
        obtain ⟨z7, ez7, hz7⟩ := i32_ex (Int32.ofInt a2 >>> (Int32.ofInt (8 * (3 - (x6 % 4))) &&& 31))
        have F := F z7 ez7 hz7
        refine x_ishr (z := z7) dX11_feed_92 ez7 hz7 ?_
        refine x_sipush dX11_feed_93 ks_255 (i32_of rfl) ?_
        obtain ⟨z8, ez8, hz8⟩ := i32_ex (Int32.ofInt z7 &&& Int32.ofInt 255)
        have F := F z8 ez8 hz8
        refine x_iand (z := z8) dX11_feed_96 ez8 hz8 ?_
        obtain ⟨hi, F⟩ := F
        refine x_iast dX11_feed_97 (sW68 hW) (gW68 hW) hi ?_
        refine x_aload_n dX11_feed_98 rfl ?_
        refine x_dup dX11_feed_99 (tag1 rfl) ?_
        refine x_geti (e := (v 47 22)) 0 flX11_166 dX11_feed_100 (sW47 hW) (gW47 hW) rfl rfl (Nat.le_of_ble_eq_true rfl) (tagn2 rfl) ?_
        refine x_iconst dX11_feed_103 rfl (i32_of rfl) ?_
        refine x_si32 (i := 1) rfl (fun hk1 => ?_)
        obtain ⟨hz, F⟩ := F
        have hz := hz hk1
        refine x_iadd dX11_feed_104 hz ?_
        refine x_puti 0 fwX11_166 dX11_feed_105 (sW47 hW) (gW47 hW) (fun h => Bool.noConfusion h) (Nat.le_of_ble_eq_true rfl) rfl (Or.inl ⟨rfl, Or.inl rfl⟩) ?_
        obtain ⟨hz, F⟩ := F
        refine x_iinc [(2, 47), (0, a1), (0, a2), (0, a3), (0, a4), (0, a5), (0, (x6 + 1)), (0, a2)] dX11_feed_108 rfl rfl (Nat.le_of_ble_eq_true rfl) hz ?_
        refine x_goto 18 dX11_feed_111 rfl ?_
        exact x_less [(2, 47), (0, a1), (0, a2), (0, a3), (0, a4), (0, a5), (0, (x6 + 1)), (3, 0)] ⟨Or.inr rfl, ⟨Or.inr rfl, ⟨Or.inr rfl, ⟨Or.inr rfl, ⟨Or.inr rfl, ⟨Or.inr rfl, ⟨Or.inr rfl, ⟨Or.inl rfl, trivial⟩⟩⟩⟩⟩⟩⟩⟩ F
    · have F := F.2 hc
      refine x_iload_n dX11_feed_31 rfl ?_
      refine x_goto 71 dX11_feed_32 rfl ?_
      refine x_istore [(2, 47), (0, a1), (0, a2), (0, a3), (0, a4), (0, a5), (0, x6), (0, a1)] dX11_feed_71 rfl (Nat.le_of_ble_eq_true rfl) ?_
      refine x_aload_n dX11_feed_73 rfl ?_
      refine x_getr (r' := 68) flX11_72 dX11_feed_74 (sW47 hW) (gW47 hW) (rW47_21 hW) rfl (Nat.le_of_ble_eq_true rfl) ?_
      refine x_aload_n dX11_feed_77 rfl ?_
      refine x_geti (e := (v 47 22)) 0 flX11_166 dX11_feed_78 (sW47 hW) (gW47 hW) rfl rfl (Nat.le_of_ble_eq_true rfl) (tagn2 rfl) ?_
      refine x_iload dX11_feed_81 rfl ?_
      refine x_bipush dX11_feed_83 kb_8 (i32_of rfl) ?_
      refine x_iconst dX11_feed_85 rfl (i32_of rfl) ?_
      refine x_iload dX11_feed_86 rfl ?_
      refine x_iconst dX11_feed_88 rfl (i32_of rfl) ?_
      obtain ⟨hz, F⟩ := F
      refine x_si32 (i := 0) rfl (fun hk0 => ?_)
      refine x_si32 (i := 1) rfl (fun hk1 => ?_)
      refine x_irem (z := (x6 % 4)) dX11_feed_89 (irem_ne hk0 hz.2) (irem_nn hk1 hk0 hz.1 hz.2) (irem_ok hk1 hk0 hz.1 hz.2) ?_
      refine x_si32 (i := 0) rfl (fun hk0 => ?_)
      obtain ⟨hz, F⟩ := F
      have hz := hz hk0
      refine x_isub dX11_feed_90 hz ?_
      refine x_si32 (i := 0) rfl (fun hk0 => ?_)
      obtain ⟨hz, F⟩ := F
      have hz := hz hk0
      refine x_imul dX11_feed_91 hz ?_
      obtain ⟨z9, ez9, hz9⟩ := i32_ex (Int32.ofInt a1 >>> (Int32.ofInt (8 * (3 - (x6 % 4))) &&& 31))
      have F := F z9 ez9 hz9
      refine x_ishr (z := z9) dX11_feed_92 ez9 hz9 ?_
      refine x_sipush dX11_feed_93 ks_255 (i32_of rfl) ?_
      obtain ⟨z10, ez10, hz10⟩ := i32_ex (Int32.ofInt z9 &&& Int32.ofInt 255)
      have F := F z10 ez10 hz10
      refine x_iand (z := z10) dX11_feed_96 ez10 hz10 ?_
      obtain ⟨hi, F⟩ := F
      refine x_iast dX11_feed_97 (sW68 hW) (gW68 hW) hi ?_
      refine x_aload_n dX11_feed_98 rfl ?_
      refine x_dup dX11_feed_99 (tag1 rfl) ?_
      refine x_geti (e := (v 47 22)) 0 flX11_166 dX11_feed_100 (sW47 hW) (gW47 hW) rfl rfl (Nat.le_of_ble_eq_true rfl) (tagn2 rfl) ?_
      refine x_iconst dX11_feed_103 rfl (i32_of rfl) ?_
      refine x_si32 (i := 1) rfl (fun hk1 => ?_)
      obtain ⟨hz, F⟩ := F
      have hz := hz hk1
      refine x_iadd dX11_feed_104 hz ?_
      refine x_puti 0 fwX11_166 dX11_feed_105 (sW47 hW) (gW47 hW) (fun h => Bool.noConfusion h) (Nat.le_of_ble_eq_true rfl) rfl (Or.inl ⟨rfl, Or.inl rfl⟩) ?_
      obtain ⟨hz, F⟩ := F
      refine x_iinc [(2, 47), (0, a1), (0, a2), (0, a3), (0, a4), (0, a5), (0, (x6 + 1)), (0, a1)] dX11_feed_108 rfl rfl (Nat.le_of_ble_eq_true rfl) hz ?_
      refine x_goto 18 dX11_feed_111 rfl ?_
      exact x_less [(2, 47), (0, a1), (0, a2), (0, a3), (0, a4), (0, a5), (0, (x6 + 1)), (3, 0)] ⟨Or.inr rfl, ⟨Or.inr rfl, ⟨Or.inr rfl, ⟨Or.inr rfl, ⟨Or.inr rfl, ⟨Or.inr rfl, ⟨Or.inr rfl, ⟨Or.inl rfl, trivial⟩⟩⟩⟩⟩⟩⟩⟩ F

set_option maxRecDepth 100000 in
set_option maxHeartbeats 4000000 in
theorem bX11_end_0 {d mc ms : Nat} {X : XX} {v : VV} {Q : QQ} (a1 : Int) (hd : 0 ≤ d) (hW : SW X) (F : i32 a1 → (((a1 < 0) → Q (some (0, 0)) X v) ∧ ((0 ≤ a1) → (((a1 ≤ (v 47 22)) → Q (some (0, 1)) X (upd2 v 47 22 a1)) ∧ (((v 47 22) < a1) → Q (some (0, 0)) X v))))) : Ex mX11_end d 0 [(2, 47), (0, a1)] [] X v mc ms Q := by
  refine x_li32 (i := 1) rfl (fun ha1 => ?_)
  have F := F ha1
  refine x_iload_n dX11_end_0 rfl ?_
  refine x_if_lt 12 dX11_end_1 rfl (fun hc => ?_) (fun hc => ?_)
  · have F := F.1 hc
    refine x_iconst dX11_end_12 rfl (i32_of rfl) ?_
    exact x_ret (some (0, 0)) rfl ⟨dX11_end_13, Or.inr ⟨rfl, Or.inl rfl⟩⟩ F
  · have F := F.2 hc
    refine x_iload_n dX11_end_4 rfl ?_
    refine x_aload_n dX11_end_5 rfl ?_
    refine x_geti (e := (v 47 22)) 0 flX11_166 dX11_end_6 (sW47 hW) (gW47 hW) rfl rfl (Nat.le_of_ble_eq_true rfl) (tagn2 rfl) ?_
    refine x_icmp_le 14 dX11_end_9 rfl (fun hc => ?_) (fun hc => ?_)
    · have F := F.1 hc
      refine x_aload_n dX11_end_14 rfl ?_
      refine x_iload_n dX11_end_15 rfl ?_
      refine x_puti 0 fwX11_166 dX11_end_16 (sW47 hW) (gW47 hW) (fun h => Bool.noConfusion h) (Nat.le_of_ble_eq_true rfl) rfl (Or.inl ⟨rfl, Or.inl rfl⟩) ?_
      refine x_iconst dX11_end_19 rfl (i32_of rfl) ?_
      exact x_ret (some (0, 1)) rfl ⟨dX11_end_20, Or.inr ⟨rfl, Or.inr rfl⟩⟩ F
    · have F := F.2 hc
      refine x_iconst dX11_end_12 rfl (i32_of rfl) ?_
      exact x_ret (some (0, 0)) rfl ⟨dX11_end_13, Or.inr ⟨rfl, Or.inl rfl⟩⟩ F

set_option maxRecDepth 100000 in
set_option maxHeartbeats 4000000 in
theorem bX11_isLetter_0 {d mc ms : Nat} {X : XX} {v : VV} {Q : QQ} (a1 : Int) (hd : 0 ≤ d) (hW : SW X) (F : i32 a1 → (((a1 < 97) → Q (some (0, 0)) X v) ∧ ((97 ≤ a1) → (((122 < a1) → Q (some (0, 0)) X v) ∧ ((a1 ≤ 122) → Q (some (0, 1)) X v))))) : Ex mX11_isLetter d 0 [(0, a1)] [] X v mc ms Q := by
  refine x_li32 (i := 0) rfl (fun ha1 => ?_)
  have F := F ha1
  refine x_iload_n dX11_isLetter_0 rfl ?_
  refine x_bipush dX11_isLetter_1 kb_97 (i32_of rfl) ?_
  refine x_icmp_lt 16 dX11_isLetter_3 rfl (fun hc => ?_) (fun hc => ?_)
  · have F := F.1 hc
    refine x_iconst dX11_isLetter_16 rfl (i32_of rfl) ?_
    exact x_ret (some (0, 0)) rfl ⟨dX11_isLetter_17, Or.inr ⟨rfl, Or.inl rfl⟩⟩ F
  · have F := F.2 hc
    refine x_iload_n dX11_isLetter_6 rfl ?_
    refine x_bipush dX11_isLetter_7 kb_122 (i32_of rfl) ?_
    refine x_icmp_gt 16 dX11_isLetter_9 rfl (fun hc => ?_) (fun hc => ?_)
    · have F := F.1 hc
      refine x_iconst dX11_isLetter_16 rfl (i32_of rfl) ?_
      exact x_ret (some (0, 0)) rfl ⟨dX11_isLetter_17, Or.inr ⟨rfl, Or.inl rfl⟩⟩ F
    · have F := F.2 hc
      refine x_iconst dX11_isLetter_12 rfl (i32_of rfl) ?_
      refine x_goto 17 dX11_isLetter_13 rfl ?_
      exact x_ret (some (0, 1)) rfl ⟨dX11_isLetter_17, Or.inr ⟨rfl, Or.inr rfl⟩⟩ F

set_option maxRecDepth 100000 in
set_option maxHeartbeats 4000000 in
theorem bX11_isDigit_0 {d mc ms : Nat} {X : XX} {v : VV} {Q : QQ} (a1 : Int) (hd : 0 ≤ d) (hW : SW X) (F : i32 a1 → (((a1 < 48) → Q (some (0, 0)) X v) ∧ ((48 ≤ a1) → (((57 < a1) → Q (some (0, 0)) X v) ∧ ((a1 ≤ 57) → Q (some (0, 1)) X v))))) : Ex mX11_isDigit d 0 [(0, a1)] [] X v mc ms Q := by
  refine x_li32 (i := 0) rfl (fun ha1 => ?_)
  have F := F ha1
  refine x_iload_n dX11_isDigit_0 rfl ?_
  refine x_bipush dX11_isDigit_1 kb_48 (i32_of rfl) ?_
  refine x_icmp_lt 16 dX11_isDigit_3 rfl (fun hc => ?_) (fun hc => ?_)
  · have F := F.1 hc
    refine x_iconst dX11_isDigit_16 rfl (i32_of rfl) ?_
    exact x_ret (some (0, 0)) rfl ⟨dX11_isDigit_17, Or.inr ⟨rfl, Or.inl rfl⟩⟩ F
  · have F := F.2 hc
    refine x_iload_n dX11_isDigit_6 rfl ?_
    refine x_bipush dX11_isDigit_7 kb_57 (i32_of rfl) ?_
    refine x_icmp_gt 16 dX11_isDigit_9 rfl (fun hc => ?_) (fun hc => ?_)
    · have F := F.1 hc
      refine x_iconst dX11_isDigit_16 rfl (i32_of rfl) ?_
      exact x_ret (some (0, 0)) rfl ⟨dX11_isDigit_17, Or.inr ⟨rfl, Or.inl rfl⟩⟩ F
    · have F := F.2 hc
      refine x_iconst dX11_isDigit_12 rfl (i32_of rfl) ?_
      refine x_goto 17 dX11_isDigit_13 rfl ?_
      exact x_ret (some (0, 1)) rfl ⟨dX11_isDigit_17, Or.inr ⟨rfl, Or.inr rfl⟩⟩ F

set_option maxRecDepth 100000 in
set_option maxHeartbeats 4000000 in
theorem bX11_isBlank_0 {d mc ms : Nat} {X : XX} {v : VV} {Q : QQ} (a1 : Int) (hd : 0 ≤ d) (hW : SW X) (F : i32 a1 → (((a1 = 10) → Q (some (0, 1)) X v) ∧ ((¬ a1 = 10) → (((¬ a1 = 32) → Q (some (0, 0)) X v) ∧ ((a1 = 32) → Q (some (0, 1)) X v))))) : Ex mX11_isBlank d 0 [(0, a1)] [] X v mc ms Q := by
  refine x_li32 (i := 0) rfl (fun ha1 => ?_)
  have F := F ha1
  refine x_iload_n dX11_isBlank_0 rfl ?_
  refine x_bipush dX11_isBlank_1 kb_10 (i32_of rfl) ?_
  refine x_icmp_eq 12 dX11_isBlank_3 rfl (fun hc => ?_) (fun hc => ?_)
  · have F := F.1 hc
    refine x_iconst dX11_isBlank_12 rfl (i32_of rfl) ?_
    refine x_goto 17 dX11_isBlank_13 rfl ?_
    exact x_ret (some (0, 1)) rfl ⟨dX11_isBlank_17, Or.inr ⟨rfl, Or.inr rfl⟩⟩ F
  · have F := F.2 hc
    refine x_iload_n dX11_isBlank_6 rfl ?_
    refine x_bipush dX11_isBlank_7 kb_32 (i32_of rfl) ?_
    refine x_icmp_ne 16 dX11_isBlank_9 rfl (fun hc => ?_) (fun hc => ?_)
    · have F := F.1 hc
      refine x_iconst dX11_isBlank_16 rfl (i32_of rfl) ?_
      exact x_ret (some (0, 0)) rfl ⟨dX11_isBlank_17, Or.inr ⟨rfl, Or.inl rfl⟩⟩ F
    · have F := F.2 hc
      refine x_iconst dX11_isBlank_12 rfl (i32_of rfl) ?_
      refine x_goto 17 dX11_isBlank_13 rfl ?_
      exact x_ret (some (0, 1)) rfl ⟨dX11_isBlank_17, Or.inr ⟨rfl, Or.inr rfl⟩⟩ F

set_option maxRecDepth 100000 in
set_option maxHeartbeats 4000000 in
theorem bX11_fail_0 {d mc ms : Nat} {X : XX} {v : VV} {Q : QQ} (a1 : Int) (a2 : Int) (hd : 0 ≤ d) (hW : SW X) (F : i32 a1 → i32 a2 → ((((v 47 25) = 0) → Q none X (upd2 (upd2 v 47 25 a1) 47 26 a2)) ∧ ((¬ (v 47 25) = 0) → Q none X v))) : Ex mX11_fail d 0 [(2, 47), (0, a1), (0, a2)] [] X v mc ms Q := by
  refine x_li32 (i := 1) rfl (fun ha1 => ?_)
  have F := F ha1
  refine x_li32 (i := 2) rfl (fun ha2 => ?_)
  have F := F ha2
  refine x_aload_n dX11_fail_0 rfl ?_
  refine x_geti (e := (v 47 25)) 0 flX11_169 dX11_fail_1 (sW47 hW) (gW47 hW) rfl rfl (Nat.le_of_ble_eq_true rfl) (tagn2 rfl) ?_
  refine x_if_eq 8 dX11_fail_4 rfl (fun hc => ?_) (fun hc => ?_)
  · have F := F.1 hc
    refine x_aload_n dX11_fail_8 rfl ?_
    refine x_iload_n dX11_fail_9 rfl ?_
    refine x_puti 0 fwX11_169 dX11_fail_10 (sW47 hW) (gW47 hW) (fun h => Bool.noConfusion h) (Nat.le_of_ble_eq_true rfl) rfl (Or.inl ⟨rfl, Or.inl rfl⟩) ?_
    refine x_aload_n dX11_fail_13 rfl ?_
    refine x_iload_n dX11_fail_14 rfl ?_
    refine x_puti 0 fwX11_172 dX11_fail_15 (sW47 hW) (gW47 hW) (fun h => Bool.noConfusion h) (Nat.le_of_ble_eq_true rfl) rfl (Or.inl ⟨rfl, Or.inl rfl⟩) ?_
    exact x_ret none rfl ⟨dX11_fail_18, rfl⟩ F
  · have F := F.2 hc
    exact x_ret none rfl ⟨dX11_fail_7, rfl⟩ F

set_option maxRecDepth 100000 in
set_option maxHeartbeats 4000000 in
theorem bX11_wordFrom_0 {d mc ms : Nat} {X : XX} {v : VV} {Q : QQ} (a1 : Int) (a2 : Int) (hd : 0 ≤ d) (hW : SW X) (F : i32 a1 → i32 a2 → Ex mX11_wordFrom d 5 [(2, 47), (0, a1), (0, a2), (1, 0), (3, 0), (0, a1)] [] X v mc ms Q) : Ex mX11_wordFrom d 0 [(2, 47), (0, a1), (0, a2), (3, 0), (3, 0), (3, 0)] [] X v mc ms Q := by
  refine x_li32 (i := 1) rfl (fun ha1 => ?_)
  have F := F ha1
  refine x_li32 (i := 2) rfl (fun ha2 => ?_)
  have F := F ha2
  refine x_lconst (i := 0) dX11_wordFrom_0 rfl (i64_of rfl) ?_
  refine x_lstore_n [(2, 47), (0, a1), (0, a2), (1, 0), (3, 0), (3, 0)] dX11_wordFrom_1 rfl (Nat.le_of_ble_eq_true rfl) ?_
  refine x_iload_n dX11_wordFrom_2 rfl ?_
  refine x_istore [(2, 47), (0, a1), (0, a2), (1, 0), (3, 0), (0, a1)] dX11_wordFrom_3 rfl (Nat.le_of_ble_eq_true rfl) ?_
  exact F

set_option maxRecDepth 100000 in
set_option maxHeartbeats 4000000 in
theorem bX11_wordFrom_5 {d mc ms : Nat} {X : XX} {v : VV} {Q : QQ} (a1 : Int) (a2 : Int) (x3 : Int) (x5 : Int) (hd : 0 ≤ d) (hW : SW X) (F : i32 a1 → i32 a2 → i32 x5 → (((a2 ≤ x5) → Q (some (1, x3)) X v) ∧ ((x5 < a2) → i32 (a1 + 8) ∧ ((((a1 + 8) ≤ x5) → Q (some (1, x3)) X v) ∧ ((x5 < (a1 + 8)) → i64 (27 * x3) ∧ (0 ≤ x5 ∧ x5 < 400) ∧ i64 ((27 * x3) + (v 68 x5)) ∧ i64 (((27 * x3) + (v 68 x5)) - 97) ∧ i64 ((((27 * x3) + (v 68 x5)) - 97) + 1) ∧ i32 (x5 + 1) ∧ Ex mX11_wordFrom d 5 [(2, 47), (0, a1), (0, a2), (1, ((((27 * x3) + (v 68 x5)) - 97) + 1)), (3, 0), (0, (x5 + 1))] [] X v mc ms Q))))) : Ex mX11_wordFrom d 5 [(2, 47), (0, a1), (0, a2), (1, x3), (3, 0), (0, x5)] [] X v mc ms Q := by
  refine x_li32 (i := 1) rfl (fun ha1 => ?_)
  have F := F ha1
  refine x_li32 (i := 2) rfl (fun ha2 => ?_)
  have F := F ha2
  refine x_li32 (i := 5) rfl (fun hx5 => ?_)
  have F := F hx5
  refine x_iload dX11_wordFrom_5 rfl ?_
  refine x_iload_n dX11_wordFrom_7 rfl ?_
  refine x_icmp_ge 47 dX11_wordFrom_8 rfl (fun hc => ?_) (fun hc => ?_)
  · have F := F.1 hc
    refine x_lload_n dX11_wordFrom_47 rfl ?_
    exact x_ret (some (1, x3)) rfl ⟨dX11_wordFrom_48, rfl⟩ F
  · have F := F.2 hc
    refine x_iload dX11_wordFrom_11 rfl ?_
    refine x_iload_n dX11_wordFrom_13 rfl ?_
    refine x_bipush dX11_wordFrom_14 kb_8 (i32_of rfl) ?_
    obtain ⟨hz, F⟩ := F
    refine x_iadd dX11_wordFrom_16 hz ?_
    refine x_icmp_ge 47 dX11_wordFrom_17 rfl (fun hc => ?_) (fun hc => ?_)
    · have F := F.1 hc
      refine x_lload_n dX11_wordFrom_47 rfl ?_
      exact x_ret (some (1, x3)) rfl ⟨dX11_wordFrom_48, rfl⟩ F
    · have F := F.2 hc
      refine x_ldc2 (i := 27) 27 dX11_wordFrom_20 lcX11_175 rfl (i64_of rfl) ?_
      refine x_lload_n dX11_wordFrom_23 rfl ?_
      obtain ⟨hz, F⟩ := F
      refine x_lmul dX11_wordFrom_24 hz ?_
      refine x_aload_n dX11_wordFrom_25 rfl ?_
      refine x_getr (r' := 68) flX11_72 dX11_wordFrom_26 (sW47 hW) (gW47 hW) (rW47_21 hW) rfl (Nat.le_of_ble_eq_true rfl) ?_
      refine x_iload dX11_wordFrom_29 rfl ?_
      obtain ⟨hi, F⟩ := F
      refine x_iald (e := (v 68 x5)) dX11_wordFrom_31 (sW68 hW) (gW68 hW) hi rfl ?_
      refine x_i2l dX11_wordFrom_32 ?_
      obtain ⟨hz, F⟩ := F
      refine x_ladd dX11_wordFrom_33 hz ?_
      refine x_ldc2 (i := 97) 97 dX11_wordFrom_34 lcX11_177 rfl (i64_of rfl) ?_
      obtain ⟨hz, F⟩ := F
      refine x_lsub dX11_wordFrom_37 hz ?_
      refine x_lconst (i := 1) dX11_wordFrom_38 rfl (i64_of rfl) ?_
      obtain ⟨hz, F⟩ := F
      refine x_ladd dX11_wordFrom_39 hz ?_
      refine x_lstore_n [(2, 47), (0, a1), (0, a2), (1, ((((27 * x3) + (v 68 x5)) - 97) + 1)), (3, 0), (0, x5)] dX11_wordFrom_40 rfl (Nat.le_of_ble_eq_true rfl) ?_
      obtain ⟨hz, F⟩ := F
      refine x_iinc [(2, 47), (0, a1), (0, a2), (1, ((((27 * x3) + (v 68 x5)) - 97) + 1)), (3, 0), (0, (x5 + 1))] dX11_wordFrom_41 rfl rfl (Nat.le_of_ble_eq_true rfl) hz ?_
      refine x_goto 5 dX11_wordFrom_44 rfl ?_
      exact F

set_option maxRecDepth 100000 in
set_option maxHeartbeats 4000000 in
theorem bX11_next_0 {d mc ms : Nat} {X : XX} {v : VV} {Q : QQ} (hd : 1 ≤ d) (hW : SW X) (F : ((((v 47 24) ≤ (v 47 23)) → Ex mX11_next d 39 [(2, 47)] [] X v mc ms Q) ∧ (((v 47 23) < (v 47 24)) → (0 ≤ (v 47 23) ∧ (v 47 23) < 400) ∧ ∃ P1 : Option AV → VV → Prop, Con mX11_isBlank 0 0 0 [(0, (v 68 (v 47 23)))] X v (fun o X1 v1 => X1 = X ∧ P1 o v1) ∧ ∀ (r2 : Int) (w3 : VV), P1 (some (0, r2)) w3 → (((r2 = 0) → Ex mX11_next d 39 [(2, 47)] [] X w3 mc ms Q) ∧ ((¬ r2 = 0) → (i32 (w3 47 23) → i32 ((w3 47 23) + 1)) ∧ Ex mX11_next d 0 [(2, 47)] [] X (upd2 w3 47 23 ((w3 47 23) + 1)) mc ms Q))))) : Ex mX11_next d 0 [(2, 47)] [] X v mc ms Q := by
  refine x_aload_n dX11_next_0 rfl ?_
  refine x_geti (e := (v 47 23)) 0 flX11_179 dX11_next_1 (sW47 hW) (gW47 hW) rfl rfl (Nat.le_of_ble_eq_true rfl) (tagn2 rfl) ?_
  refine x_aload_n dX11_next_4 rfl ?_
  refine x_geti (e := (v 47 24)) 0 flX11_182 dX11_next_5 (sW47 hW) (gW47 hW) rfl rfl (Nat.le_of_ble_eq_true rfl) (tagn2 rfl) ?_
  refine x_icmp_ge 39 dX11_next_8 rfl (fun hc => ?_) (fun hc => ?_)
  · have F := F.1 hc
    exact F
  · have F := F.2 hc
    refine x_aload_n dX11_next_11 rfl ?_
    refine x_getr (r' := 68) flX11_72 dX11_next_12 (sW47 hW) (gW47 hW) (rW47_21 hW) rfl (Nat.le_of_ble_eq_true rfl) ?_
    refine x_aload_n dX11_next_15 rfl ?_
    refine x_geti (e := (v 47 23)) 0 flX11_179 dX11_next_16 (sW47 hW) (gW47 hW) rfl rfl (Nat.le_of_ble_eq_true rfl) (tagn2 rfl) ?_
    obtain ⟨hi, F⟩ := F
    refine x_iald (e := (v 68 (v 47 23))) dX11_next_19 (sW68 hW) (gW68 hW) hi rfl ?_
    obtain ⟨P1, hC, F⟩ := F
    refine x_static dY41_next_20 mlY41_185 hC rfl rfl (by omega) (Nat.zero_le _) (Nat.zero_le _) (Nat.le_of_ble_eq_true rfl) (fun o1 Y4 w3 ht hP => ?_)
    obtain ⟨r2, rfl⟩ : ∃ i, o1 = some (0, i) := ht
    obtain ⟨rfl, hP⟩ := hP
    have F := F r2 w3 hP
    refine x_if_eq 39 dX11_next_23 rfl (fun hc => ?_) (fun hc => ?_)
    · have F := F.1 hc
      exact F
    · have F := F.2 hc
      refine x_aload_n dX11_next_26 rfl ?_
      refine x_dup dX11_next_27 (tag1 rfl) ?_
      refine x_geti (e := (w3 47 23)) 0 flX11_179 dX11_next_28 (sW47 hW) (gW47 hW) rfl rfl (Nat.le_of_ble_eq_true rfl) (tagn2 rfl) ?_
      refine x_iconst dX11_next_31 rfl (i32_of rfl) ?_
      refine x_si32 (i := 1) rfl (fun hk1 => ?_)
      obtain ⟨hz, F⟩ := F
      have hz := hz hk1
      refine x_iadd dX11_next_32 hz ?_
      refine x_puti 0 fwX11_179 dX11_next_33 (sW47 hW) (gW47 hW) (fun h => Bool.noConfusion h) (Nat.le_of_ble_eq_true rfl) rfl (Or.inl ⟨rfl, Or.inl rfl⟩) ?_
      refine x_goto 0 dX11_next_36 rfl ?_
      exact F

set_option maxRecDepth 100000 in
set_option maxHeartbeats 4000000 in
theorem bX11_next_39 {d mc ms : Nat} {X : XX} {v : VV} {Q : QQ} (hd : 1 ≤ d) (hW : SW X) (F : (((¬ (v 47 23) = (v 47 24)) → (0 ≤ (v 47 23) ∧ (v 47 23) < 400) ∧ ∃ P5 : Option AV → VV → Prop, Con mX11_isLetter 0 0 0 [(0, (v 68 (v 47 23)))] X (upd2 (upd2 (upd2 v 47 30 (v 47 23)) 47 31 (-1)) 47 32 0) (fun o X1 v1 => X1 = X ∧ P5 o v1) ∧ ∀ (r6 : Int) (w7 : VV), P5 (some (0, r6)) w7 → (((r6 = 0) → (0 ≤ (w7 47 23) ∧ (w7 47 23) < 400) ∧ ∃ P9 : Option AV → VV → Prop, Con mX11_isDigit 0 0 0 [(0, (w7 68 (w7 47 23)))] X w7 (fun o X1 v1 => X1 = X ∧ P9 o v1) ∧ ∀ (r10 : Int) (w11 : VV), P9 (some (0, r10)) w11 → (((r10 = 0) → (0 ≤ (w11 47 23) ∧ (w11 47 23) < 400) ∧ (((¬ (w11 68 (w11 47 23)) = 39) → (0 ≤ (w11 47 23) ∧ (w11 47 23) < 400) ∧ (((32 ≤ (w11 68 (w11 47 23))) → (0 ≤ (w11 47 23) ∧ (w11 47 23) < 400) ∧ (i32 (w11 47 23) → i32 ((w11 47 23) + 1)) ∧ Q none X (upd2 (upd2 w11 47 29 (w11 68 (w11 47 23))) 47 23 ((w11 47 23) + 1))) ∧ (((w11 68 (w11 47 23)) < 32) → (i32 (w11 47 23) → i32 ((w11 47 23) + 1)) ∧ Q none X (upd2 (upd2 w11 47 29 (-1)) 47 23 ((w11 47 23) + 1))))) ∧ (((w11 68 (w11 47 23)) = 39) → (i32 (w11 47 23) → i32 ((w11 47 23) + 1)) ∧ Q none X (upd2 (upd2 w11 47 29 3) 47 23 ((w11 47 23) + 1))))) ∧ ((¬ r10 = 0) → Ex mX11_next d 202 [(2, 47)] [] X (upd2 w11 47 29 2) mc ms Q))) ∧ ((¬ r6 = 0) → Ex mX11_next d 96 [(2, 47)] [] X (upd2 w7 47 29 1) mc ms Q))) ∧ (((v 47 23) = (v 47 24)) → Q none X (upd2 (upd2 (upd2 (upd2 v 47 30 (v 47 23)) 47 31 (-1)) 47 32 0) 47 29 0)))) : Ex mX11_next d 39 [(2, 47)] [] X v mc ms Q := by
  refine x_aload_n dX11_next_39 rfl ?_
  refine x_aload_n dX11_next_40 rfl ?_
  refine x_geti (e := (v 47 23)) 0 flX11_179 dX11_next_41 (sW47 hW) (gW47 hW) rfl rfl (Nat.le_of_ble_eq_true rfl) (tagn2 rfl) ?_
  refine x_puti 0 fwX11_188 dX11_next_44 (sW47 hW) (gW47 hW) (fun h => Bool.noConfusion h) (Nat.le_of_ble_eq_true rfl) rfl (Or.inl ⟨rfl, Or.inl rfl⟩) ?_
  refine x_aload_n dX11_next_47 rfl ?_
  refine x_iconst dX11_next_48 rfl (i32_of rfl) ?_
  refine x_puti 0 fwX11_191 dX11_next_49 (sW47 hW) (gW47 hW) (fun h => Bool.noConfusion h) (Nat.le_of_ble_eq_true rfl) rfl (Or.inl ⟨rfl, Or.inl rfl⟩) ?_
  refine x_aload_n dX11_next_52 rfl ?_
  refine x_lconst (i := 0) dX11_next_53 rfl (i64_of rfl) ?_
  refine x_puti 1 fwX11_194 dX11_next_54 (sW47 hW) (gW47 hW) (fun h => Bool.noConfusion h) (Nat.le_of_ble_eq_true rfl) rfl (Or.inr ⟨rfl, rfl⟩) ?_
  refine x_aload_n dX11_next_57 rfl ?_
  refine x_geti (e := (v 47 23)) 0 flX11_179 dX11_next_58 (sW47 hW) (gW47 hW) rfl rfl (Nat.le_of_ble_eq_true rfl) (tagn2 rfl) ?_
  refine x_aload_n dX11_next_61 rfl ?_
  refine x_geti (e := (v 47 24)) 0 flX11_182 dX11_next_62 (sW47 hW) (gW47 hW) rfl rfl (Nat.le_of_ble_eq_true rfl) (tagn2 rfl) ?_
  refine x_icmp_ne 76 dX11_next_65 rfl (fun hc => ?_) (fun hc => ?_)
  · have F := F.1 hc
    refine x_aload_n dX11_next_76 rfl ?_
    refine x_getr (r' := 68) flX11_72 dX11_next_77 (sW47 hW) (gW47 hW) (rW47_21 hW) rfl (Nat.le_of_ble_eq_true rfl) ?_
    refine x_aload_n dX11_next_80 rfl ?_
    refine x_geti (e := (v 47 23)) 0 flX11_179 dX11_next_81 (sW47 hW) (gW47 hW) rfl rfl (Nat.le_of_ble_eq_true rfl) (tagn2 rfl) ?_
    obtain ⟨hi, F⟩ := F
    refine x_iald (e := (v 68 (v 47 23))) dX11_next_84 (sW68 hW) (gW68 hW) hi rfl ?_
    obtain ⟨P5, hC, F⟩ := F
    refine x_static dY81_next_85 mlY81_200 hC rfl rfl (by omega) (Nat.zero_le _) (Nat.zero_le _) (Nat.le_of_ble_eq_true rfl) (fun o1 Y8 w7 ht hP => ?_)
    obtain ⟨r6, rfl⟩ : ∃ i, o1 = some (0, i) := ht
    obtain ⟨rfl, hP⟩ := hP
    have F := F r6 w7 hP
    refine x_if_eq 182 dX11_next_88 rfl (fun hc => ?_) (fun hc => ?_)
    · have F := F.1 hc
      refine x_aload_n dX11_next_182 rfl ?_
      refine x_getr (r' := 68) flX11_72 dX11_next_183 (sW47 hW) (gW47 hW) (rW47_21 hW) rfl (Nat.le_of_ble_eq_true rfl) ?_
      refine x_aload_n dX11_next_186 rfl ?_
      refine x_geti (e := (w7 47 23)) 0 flX11_179 dX11_next_187 (sW47 hW) (gW47 hW) rfl rfl (Nat.le_of_ble_eq_true rfl) (tagn2 rfl) ?_
      obtain ⟨hi, F⟩ := F
      refine x_iald (e := (w7 68 (w7 47 23))) dX11_next_190 (sW68 hW) (gW68 hW) hi rfl ?_
      obtain ⟨P9, hC, F⟩ := F
      refine x_static dY121_next_191 mlY121_207 hC rfl rfl (by omega) (Nat.zero_le _) (Nat.zero_le _) (Nat.le_of_ble_eq_true rfl) (fun o1 Y12 w11 ht hP => ?_)
      obtain ⟨r10, rfl⟩ : ∃ i, o1 = some (0, i) := ht
      obtain ⟨rfl, hP⟩ := hP
      have F := F r10 w11 hP
      refine x_if_eq 267 dX11_next_194 rfl (fun hc => ?_) (fun hc => ?_)
      · have F := F.1 hc
        refine x_aload_n dX11_next_267 rfl ?_
        refine x_aload_n dX11_next_268 rfl ?_
        refine x_getr (r' := 68) flX11_72 dX11_next_269 (sW47 hW) (gW47 hW) (rW47_21 hW) rfl (Nat.le_of_ble_eq_true rfl) ?_
        refine x_aload_n dX11_next_272 rfl ?_
        refine x_geti (e := (w11 47 23)) 0 flX11_179 dX11_next_273 (sW47 hW) (gW47 hW) rfl rfl (Nat.le_of_ble_eq_true rfl) (tagn2 rfl) ?_
        obtain ⟨hi, F⟩ := F
        refine x_iald (e := (w11 68 (w11 47 23))) dX11_next_276 (sW68 hW) (gW68 hW) hi rfl ?_
        refine x_bipush dX11_next_277 kb_39 (i32_of rfl) ?_
        refine x_icmp_ne 286 dX11_next_279 rfl (fun hc => ?_) (fun hc => ?_)
        · have F := F.1 hc
          refine x_aload_n dX11_next_286 rfl ?_
          refine x_getr (r' := 68) flX11_72 dX11_next_287 (sW47 hW) (gW47 hW) (rW47_21 hW) rfl (Nat.le_of_ble_eq_true rfl) ?_
          refine x_aload_n dX11_next_290 rfl ?_
          refine x_geti (e := (w11 47 23)) 0 flX11_179 dX11_next_291 (sW47 hW) (gW47 hW) rfl rfl (Nat.le_of_ble_eq_true rfl) (tagn2 rfl) ?_
          obtain ⟨hi, F⟩ := F
          refine x_iald (e := (w11 68 (w11 47 23))) dX11_next_294 (sW68 hW) (gW68 hW) hi rfl ?_
          refine x_bipush dX11_next_295 kb_32 (i32_of rfl) ?_
          refine x_icmp_ge 304 dX11_next_297 rfl (fun hc => ?_) (fun hc => ?_)
          · have F := F.1 hc
            refine x_aload_n dX11_next_304 rfl ?_
            refine x_getr (r' := 68) flX11_72 dX11_next_305 (sW47 hW) (gW47 hW) (rW47_21 hW) rfl (Nat.le_of_ble_eq_true rfl) ?_
            refine x_aload_n dX11_next_308 rfl ?_
            refine x_geti (e := (w11 47 23)) 0 flX11_179 dX11_next_309 (sW47 hW) (gW47 hW) rfl rfl (Nat.le_of_ble_eq_true rfl) (tagn2 rfl) ?_
            obtain ⟨hi, F⟩ := F
            refine x_iald (e := (w11 68 (w11 47 23))) dX11_next_312 (sW68 hW) (gW68 hW) hi rfl ?_
            refine x_puti 0 fwX11_197 dX11_next_313 (sW47 hW) (gW47 hW) (fun h => Bool.noConfusion h) (Nat.le_of_ble_eq_true rfl) rfl (Or.inl ⟨rfl, Or.inl rfl⟩) ?_
            refine x_aload_n dX11_next_316 rfl ?_
            refine x_dup dX11_next_317 (tag1 rfl) ?_
            refine x_geti (e := (w11 47 23)) 0 flX11_179 dX11_next_318 (sW47 hW) (gW47 hW) rfl rfl (Nat.le_of_ble_eq_true rfl) (tagn2 rfl) ?_
            refine x_iconst dX11_next_321 rfl (i32_of rfl) ?_
            refine x_si32 (i := 1) rfl (fun hk1 => ?_)
            obtain ⟨hz, F⟩ := F
            have hz := hz hk1
            refine x_iadd dX11_next_322 hz ?_
            refine x_puti 0 fwX11_179 dX11_next_323 (sW47 hW) (gW47 hW) (fun h => Bool.noConfusion h) (Nat.le_of_ble_eq_true rfl) rfl (Or.inl ⟨rfl, Or.inl rfl⟩) ?_
            exact x_ret none rfl ⟨dX11_next_326, rfl⟩ F
          · have F := F.2 hc
            refine x_iconst dX11_next_300 rfl (i32_of rfl) ?_
            refine x_goto 313 dX11_next_301 rfl ?_
            refine x_puti 0 fwX11_197 dX11_next_313 (sW47 hW) (gW47 hW) (fun h => Bool.noConfusion h) (Nat.le_of_ble_eq_true rfl) rfl (Or.inl ⟨rfl, Or.inl rfl⟩) ?_
            refine x_aload_n dX11_next_316 rfl ?_
            refine x_dup dX11_next_317 (tag1 rfl) ?_
            refine x_geti (e := (w11 47 23)) 0 flX11_179 dX11_next_318 (sW47 hW) (gW47 hW) rfl rfl (Nat.le_of_ble_eq_true rfl) (tagn2 rfl) ?_
            refine x_iconst dX11_next_321 rfl (i32_of rfl) ?_
            refine x_si32 (i := 1) rfl (fun hk1 => ?_)
            obtain ⟨hz, F⟩ := F
            have hz := hz hk1
            refine x_iadd dX11_next_322 hz ?_
            refine x_puti 0 fwX11_179 dX11_next_323 (sW47 hW) (gW47 hW) (fun h => Bool.noConfusion h) (Nat.le_of_ble_eq_true rfl) rfl (Or.inl ⟨rfl, Or.inl rfl⟩) ?_
            exact x_ret none rfl ⟨dX11_next_326, rfl⟩ F
        · have F := F.2 hc
          refine x_iconst dX11_next_282 rfl (i32_of rfl) ?_
          refine x_goto 313 dX11_next_283 rfl ?_
          refine x_puti 0 fwX11_197 dX11_next_313 (sW47 hW) (gW47 hW) (fun h => Bool.noConfusion h) (Nat.le_of_ble_eq_true rfl) rfl (Or.inl ⟨rfl, Or.inl rfl⟩) ?_
          refine x_aload_n dX11_next_316 rfl ?_
          refine x_dup dX11_next_317 (tag1 rfl) ?_
          refine x_geti (e := (w11 47 23)) 0 flX11_179 dX11_next_318 (sW47 hW) (gW47 hW) rfl rfl (Nat.le_of_ble_eq_true rfl) (tagn2 rfl) ?_
          refine x_iconst dX11_next_321 rfl (i32_of rfl) ?_
          refine x_si32 (i := 1) rfl (fun hk1 => ?_)
          obtain ⟨hz, F⟩ := F
          have hz := hz hk1
          refine x_iadd dX11_next_322 hz ?_
          refine x_puti 0 fwX11_179 dX11_next_323 (sW47 hW) (gW47 hW) (fun h => Bool.noConfusion h) (Nat.le_of_ble_eq_true rfl) rfl (Or.inl ⟨rfl, Or.inl rfl⟩) ?_
          exact x_ret none rfl ⟨dX11_next_326, rfl⟩ F
      · have F := F.2 hc
        refine x_aload_n dX11_next_197 rfl ?_
        refine x_iconst dX11_next_198 rfl (i32_of rfl) ?_
        refine x_puti 0 fwX11_197 dX11_next_199 (sW47 hW) (gW47 hW) (fun h => Bool.noConfusion h) (Nat.le_of_ble_eq_true rfl) rfl (Or.inl ⟨rfl, Or.inl rfl⟩) ?_
        exact F
    · have F := F.2 hc
      refine x_aload_n dX11_next_91 rfl ?_
      refine x_iconst dX11_next_92 rfl (i32_of rfl) ?_
      refine x_puti 0 fwX11_197 dX11_next_93 (sW47 hW) (gW47 hW) (fun h => Bool.noConfusion h) (Nat.le_of_ble_eq_true rfl) rfl (Or.inl ⟨rfl, Or.inl rfl⟩) ?_
      exact F
  · have F := F.2 hc
    refine x_aload_n dX11_next_68 rfl ?_
    refine x_iconst dX11_next_69 rfl (i32_of rfl) ?_
    refine x_puti 0 fwX11_197 dX11_next_70 (sW47 hW) (gW47 hW) (fun h => Bool.noConfusion h) (Nat.le_of_ble_eq_true rfl) rfl (Or.inl ⟨rfl, Or.inl rfl⟩) ?_
    refine x_goto 326 dX11_next_73 rfl ?_
    exact x_ret none rfl ⟨dX11_next_326, rfl⟩ F

set_option maxRecDepth 100000 in
set_option maxHeartbeats 4000000 in
theorem bX11_next_96 {d mc ms : Nat} {X : XX} {v : VV} {Q : QQ} (hd : 1 ≤ d) (hW : SW X) (F : ((((v 47 24) ≤ (v 47 23)) → Ex mX11_next d 135 [(2, 47)] [] X v mc ms Q) ∧ (((v 47 23) < (v 47 24)) → (0 ≤ (v 47 23) ∧ (v 47 23) < 400) ∧ ∃ P13 : Option AV → VV → Prop, Con mX11_isLetter 0 0 0 [(0, (v 68 (v 47 23)))] X v (fun o X1 v1 => X1 = X ∧ P13 o v1) ∧ ∀ (r14 : Int) (w15 : VV), P13 (some (0, r14)) w15 → (((r14 = 0) → Ex mX11_next d 135 [(2, 47)] [] X w15 mc ms Q) ∧ ((¬ r14 = 0) → (i32 (w15 47 23) → i32 ((w15 47 23) + 1)) ∧ Ex mX11_next d 96 [(2, 47)] [] X (upd2 w15 47 23 ((w15 47 23) + 1)) mc ms Q))))) : Ex mX11_next d 96 [(2, 47)] [] X v mc ms Q := by
  refine x_aload_n dX11_next_96 rfl ?_
  refine x_geti (e := (v 47 23)) 0 flX11_179 dX11_next_97 (sW47 hW) (gW47 hW) rfl rfl (Nat.le_of_ble_eq_true rfl) (tagn2 rfl) ?_
  refine x_aload_n dX11_next_100 rfl ?_
  refine x_geti (e := (v 47 24)) 0 flX11_182 dX11_next_101 (sW47 hW) (gW47 hW) rfl rfl (Nat.le_of_ble_eq_true rfl) (tagn2 rfl) ?_
  refine x_icmp_ge 135 dX11_next_104 rfl (fun hc => ?_) (fun hc => ?_)
  · have F := F.1 hc
    exact F
  · have F := F.2 hc
    refine x_aload_n dX11_next_107 rfl ?_
    refine x_getr (r' := 68) flX11_72 dX11_next_108 (sW47 hW) (gW47 hW) (rW47_21 hW) rfl (Nat.le_of_ble_eq_true rfl) ?_
    refine x_aload_n dX11_next_111 rfl ?_
    refine x_geti (e := (v 47 23)) 0 flX11_179 dX11_next_112 (sW47 hW) (gW47 hW) rfl rfl (Nat.le_of_ble_eq_true rfl) (tagn2 rfl) ?_
    obtain ⟨hi, F⟩ := F
    refine x_iald (e := (v 68 (v 47 23))) dX11_next_115 (sW68 hW) (gW68 hW) hi rfl ?_
    obtain ⟨P13, hC, F⟩ := F
    refine x_static dY161_next_116 mlY161_200 hC rfl rfl (by omega) (Nat.zero_le _) (Nat.zero_le _) (Nat.le_of_ble_eq_true rfl) (fun o1 Y16 w15 ht hP => ?_)
    obtain ⟨r14, rfl⟩ : ∃ i, o1 = some (0, i) := ht
    obtain ⟨rfl, hP⟩ := hP
    have F := F r14 w15 hP
    refine x_if_eq 135 dX11_next_119 rfl (fun hc => ?_) (fun hc => ?_)
    · have F := F.1 hc
      exact F
    · have F := F.2 hc
      refine x_aload_n dX11_next_122 rfl ?_
      refine x_dup dX11_next_123 (tag1 rfl) ?_
      refine x_geti (e := (w15 47 23)) 0 flX11_179 dX11_next_124 (sW47 hW) (gW47 hW) rfl rfl (Nat.le_of_ble_eq_true rfl) (tagn2 rfl) ?_
      refine x_iconst dX11_next_127 rfl (i32_of rfl) ?_
      refine x_si32 (i := 1) rfl (fun hk1 => ?_)
      obtain ⟨hz, F⟩ := F
      have hz := hz hk1
      refine x_iadd dX11_next_128 hz ?_
      refine x_puti 0 fwX11_179 dX11_next_129 (sW47 hW) (gW47 hW) (fun h => Bool.noConfusion h) (Nat.le_of_ble_eq_true rfl) rfl (Or.inl ⟨rfl, Or.inl rfl⟩) ?_
      refine x_goto 96 dX11_next_132 rfl ?_
      exact F

set_option maxRecDepth 100000 in
set_option maxHeartbeats 4000000 in
theorem bX11_next_135 {d mc ms : Nat} {X : XX} {v : VV} {Q : QQ} (hd : 1 ≤ d) (hW : SW X) (F : (i32 (v 47 30) → i32 (v 47 23) → i32 ((v 47 23) - (v 47 30))) ∧ (((((v 47 23) - (v 47 30)) ≤ 8) → ∃ P17 : Option AV → VV → Prop, Con mX11_wordFrom 0 0 0 [(2, 47), (0, (v 47 30)), (0, (v 47 23))] X v (fun o X1 v1 => X1 = X ∧ P17 o v1) ∧ ∀ (r18 : Int) (w19 : VV), P17 (some (1, r18)) w19 → Q none X (upd2 w19 47 32 r18)) ∧ ((8 < ((v 47 23) - (v 47 30))) → (i32 (v 47 30) → i32 ((v 47 30) + 8)) ∧ Q none X (upd2 v 47 31 ((v 47 30) + 8))))) : Ex mX11_next d 135 [(2, 47)] [] X v mc ms Q := by
  refine x_aload_n dX11_next_135 rfl ?_
  refine x_geti (e := (v 47 23)) 0 flX11_179 dX11_next_136 (sW47 hW) (gW47 hW) rfl rfl (Nat.le_of_ble_eq_true rfl) (tagn2 rfl) ?_
  refine x_aload_n dX11_next_139 rfl ?_
  refine x_geti (e := (v 47 30)) 0 flX11_188 dX11_next_140 (sW47 hW) (gW47 hW) rfl rfl (Nat.le_of_ble_eq_true rfl) (tagn2 rfl) ?_
  refine x_si32 (i := 0) rfl (fun hk0 => ?_)
  refine x_si32 (i := 1) rfl (fun hk1 => ?_)
  obtain ⟨hz, F⟩ := F
  have hz := hz hk0 hk1
  refine x_isub dX11_next_143 hz ?_
  refine x_bipush dX11_next_144 kb_8 (i32_of rfl) ?_
  refine x_icmp_le 163 dX11_next_146 rfl (fun hc => ?_) (fun hc => ?_)
  · have F := F.1 hc
    refine x_aload_n dX11_next_163 rfl ?_
    refine x_aload_n dX11_next_164 rfl ?_
    refine x_aload_n dX11_next_165 rfl ?_
    refine x_geti (e := (v 47 30)) 0 flX11_188 dX11_next_166 (sW47 hW) (gW47 hW) rfl rfl (Nat.le_of_ble_eq_true rfl) (tagn2 rfl) ?_
    refine x_aload_n dX11_next_169 rfl ?_
    refine x_geti (e := (v 47 23)) 0 flX11_179 dX11_next_170 (sW47 hW) (gW47 hW) rfl rfl (Nat.le_of_ble_eq_true rfl) (tagn2 rfl) ?_
    obtain ⟨P17, hC, F⟩ := F
    refine x_inv dY201_next_173 mlY201_203 hC (sW47 hW) (Nat.le_of_ble_eq_true rfl) (gW47 hW) rfl rfl (by omega) (Nat.zero_le _) (Nat.zero_le _) (Nat.le_of_ble_eq_true rfl) (fun o1 Y20 w19 ht hP => ?_)
    obtain ⟨r18, rfl⟩ : ∃ i, o1 = some (1, i) := ht
    obtain ⟨rfl, hP⟩ := hP
    have F := F r18 w19 hP
    refine x_puti 1 fwX11_194 dX11_next_176 (sW47 hW) (gW47 hW) (fun h => Bool.noConfusion h) (Nat.le_of_ble_eq_true rfl) rfl (Or.inr ⟨rfl, rfl⟩) ?_
    refine x_goto 326 dX11_next_179 rfl ?_
    exact x_ret none rfl ⟨dX11_next_326, rfl⟩ F
  · have F := F.2 hc
    refine x_aload_n dX11_next_149 rfl ?_
    refine x_aload_n dX11_next_150 rfl ?_
    refine x_geti (e := (v 47 30)) 0 flX11_188 dX11_next_151 (sW47 hW) (gW47 hW) rfl rfl (Nat.le_of_ble_eq_true rfl) (tagn2 rfl) ?_
    refine x_bipush dX11_next_154 kb_8 (i32_of rfl) ?_
    refine x_si32 (i := 1) rfl (fun hk1 => ?_)
    obtain ⟨hz, F⟩ := F
    have hz := hz hk1
    refine x_iadd dX11_next_156 hz ?_
    refine x_puti 0 fwX11_191 dX11_next_157 (sW47 hW) (gW47 hW) (fun h => Bool.noConfusion h) (Nat.le_of_ble_eq_true rfl) rfl (Or.inl ⟨rfl, Or.inl rfl⟩) ?_
    refine x_goto 326 dX11_next_160 rfl ?_
    exact x_ret none rfl ⟨dX11_next_326, rfl⟩ F

set_option maxRecDepth 100000 in
set_option maxHeartbeats 4000000 in
theorem bX11_next_202 {d mc ms : Nat} {X : XX} {v : VV} {Q : QQ} (hd : 1 ≤ d) (hW : SW X) (F : ((((v 47 24) ≤ (v 47 23)) → Ex mX11_next d 241 [(2, 47)] [] X v mc ms Q) ∧ (((v 47 23) < (v 47 24)) → (0 ≤ (v 47 23) ∧ (v 47 23) < 400) ∧ ∃ P21 : Option AV → VV → Prop, Con mX11_isDigit 0 0 0 [(0, (v 68 (v 47 23)))] X v (fun o X1 v1 => X1 = X ∧ P21 o v1) ∧ ∀ (r22 : Int) (w23 : VV), P21 (some (0, r22)) w23 → (((r22 = 0) → Ex mX11_next d 241 [(2, 47)] [] X w23 mc ms Q) ∧ ((¬ r22 = 0) → (i32 (w23 47 23) → i32 ((w23 47 23) + 1)) ∧ Ex mX11_next d 202 [(2, 47)] [] X (upd2 w23 47 23 ((w23 47 23) + 1)) mc ms Q))))) : Ex mX11_next d 202 [(2, 47)] [] X v mc ms Q := by
  refine x_aload_n dX11_next_202 rfl ?_
  refine x_geti (e := (v 47 23)) 0 flX11_179 dX11_next_203 (sW47 hW) (gW47 hW) rfl rfl (Nat.le_of_ble_eq_true rfl) (tagn2 rfl) ?_
  refine x_aload_n dX11_next_206 rfl ?_
  refine x_geti (e := (v 47 24)) 0 flX11_182 dX11_next_207 (sW47 hW) (gW47 hW) rfl rfl (Nat.le_of_ble_eq_true rfl) (tagn2 rfl) ?_
  refine x_icmp_ge 241 dX11_next_210 rfl (fun hc => ?_) (fun hc => ?_)
  · have F := F.1 hc
    exact F
  · have F := F.2 hc
    refine x_aload_n dX11_next_213 rfl ?_
    refine x_getr (r' := 68) flX11_72 dX11_next_214 (sW47 hW) (gW47 hW) (rW47_21 hW) rfl (Nat.le_of_ble_eq_true rfl) ?_
    refine x_aload_n dX11_next_217 rfl ?_
    refine x_geti (e := (v 47 23)) 0 flX11_179 dX11_next_218 (sW47 hW) (gW47 hW) rfl rfl (Nat.le_of_ble_eq_true rfl) (tagn2 rfl) ?_
    obtain ⟨hi, F⟩ := F
    refine x_iald (e := (v 68 (v 47 23))) dX11_next_221 (sW68 hW) (gW68 hW) hi rfl ?_
    obtain ⟨P21, hC, F⟩ := F
    refine x_static dY241_next_222 mlY241_207 hC rfl rfl (by omega) (Nat.zero_le _) (Nat.zero_le _) (Nat.le_of_ble_eq_true rfl) (fun o1 Y24 w23 ht hP => ?_)
    obtain ⟨r22, rfl⟩ : ∃ i, o1 = some (0, i) := ht
    obtain ⟨rfl, hP⟩ := hP
    have F := F r22 w23 hP
    refine x_if_eq 241 dX11_next_225 rfl (fun hc => ?_) (fun hc => ?_)
    · have F := F.1 hc
      exact F
    · have F := F.2 hc
      refine x_aload_n dX11_next_228 rfl ?_
      refine x_dup dX11_next_229 (tag1 rfl) ?_
      refine x_geti (e := (w23 47 23)) 0 flX11_179 dX11_next_230 (sW47 hW) (gW47 hW) rfl rfl (Nat.le_of_ble_eq_true rfl) (tagn2 rfl) ?_
      refine x_iconst dX11_next_233 rfl (i32_of rfl) ?_
      refine x_si32 (i := 1) rfl (fun hk1 => ?_)
      obtain ⟨hz, F⟩ := F
      have hz := hz hk1
      refine x_iadd dX11_next_234 hz ?_
      refine x_puti 0 fwX11_179 dX11_next_235 (sW47 hW) (gW47 hW) (fun h => Bool.noConfusion h) (Nat.le_of_ble_eq_true rfl) rfl (Or.inl ⟨rfl, Or.inl rfl⟩) ?_
      refine x_goto 202 dX11_next_238 rfl ?_
      exact F

set_option maxRecDepth 100000 in
set_option maxHeartbeats 4000000 in
theorem bX11_next_241 {d mc ms : Nat} {X : XX} {v : VV} {Q : QQ} (hd : 1 ≤ d) (hW : SW X) (F : (i32 (v 47 30) → i32 (v 47 23) → i32 ((v 47 23) - (v 47 30))) ∧ (((((v 47 23) - (v 47 30)) ≤ 4) → Q none X v) ∧ ((4 < ((v 47 23) - (v 47 30))) → (i32 (v 47 30) → i32 ((v 47 30) + 4)) ∧ Q none X (upd2 v 47 31 ((v 47 30) + 4))))) : Ex mX11_next d 241 [(2, 47)] [] X v mc ms Q := by
  refine x_aload_n dX11_next_241 rfl ?_
  refine x_geti (e := (v 47 23)) 0 flX11_179 dX11_next_242 (sW47 hW) (gW47 hW) rfl rfl (Nat.le_of_ble_eq_true rfl) (tagn2 rfl) ?_
  refine x_aload_n dX11_next_245 rfl ?_
  refine x_geti (e := (v 47 30)) 0 flX11_188 dX11_next_246 (sW47 hW) (gW47 hW) rfl rfl (Nat.le_of_ble_eq_true rfl) (tagn2 rfl) ?_
  refine x_si32 (i := 0) rfl (fun hk0 => ?_)
  refine x_si32 (i := 1) rfl (fun hk1 => ?_)
  obtain ⟨hz, F⟩ := F
  have hz := hz hk0 hk1
  refine x_isub dX11_next_249 hz ?_
  refine x_iconst dX11_next_250 rfl (i32_of rfl) ?_
  refine x_icmp_le 326 dX11_next_251 rfl (fun hc => ?_) (fun hc => ?_)
  · have F := F.1 hc
    exact x_ret none rfl ⟨dX11_next_326, rfl⟩ F
  · have F := F.2 hc
    refine x_aload_n dX11_next_254 rfl ?_
    refine x_aload_n dX11_next_255 rfl ?_
    refine x_geti (e := (v 47 30)) 0 flX11_188 dX11_next_256 (sW47 hW) (gW47 hW) rfl rfl (Nat.le_of_ble_eq_true rfl) (tagn2 rfl) ?_
    refine x_iconst dX11_next_259 rfl (i32_of rfl) ?_
    refine x_si32 (i := 1) rfl (fun hk1 => ?_)
    obtain ⟨hz, F⟩ := F
    have hz := hz hk1
    refine x_iadd dX11_next_260 hz ?_
    refine x_puti 0 fwX11_191 dX11_next_261 (sW47 hW) (gW47 hW) (fun h => Bool.noConfusion h) (Nat.le_of_ble_eq_true rfl) rfl (Or.inl ⟨rfl, Or.inl rfl⟩) ?_
    refine x_goto 326 dX11_next_264 rfl ?_
    exact x_ret none rfl ⟨dX11_next_326, rfl⟩ F

set_option maxRecDepth 100000 in
set_option maxHeartbeats 4000000 in
theorem bX11_keeps_0 {d mc ms : Nat} {X : XX} {v : VV} {Q : QQ} (hd : 2 ≤ d) (hW : SW X) (F : (i32 (v 47 0) → i32 (400 * (v 47 0))) ∧ (0 ≤ (v 47 0) ∧ (v 47 0) < 17) ∧ (i32 (v 60 (v 47 0)) → i32 (400 * (v 47 0)) → i32 ((400 * (v 47 0)) + (v 60 (v 47 0)))) ∧ (0 ≤ ((400 * (v 47 0)) + (v 60 (v 47 0))) ∧ ((400 * (v 47 0)) + (v 60 (v 47 0))) < 6800) ∧ (0 ≤ ((400 * (v 47 0)) + (v 60 (v 47 0))) ∧ ((400 * (v 47 0)) + (v 60 (v 47 0))) < 6800) ∧ (i32 (v 47 30) → i32 (v 47 23) → i32 ((v 47 23) - (v 47 30))) ∧ (0 ≤ ((400 * (v 47 0)) + (v 60 (v 47 0))) ∧ ((400 * (v 47 0)) + (v 60 (v 47 0))) < 6800) ∧ (0 ≤ (v 47 0) ∧ (v 47 0) < 17) ∧ (i32 (v 60 (v 47 0)) → i32 ((v 60 (v 47 0)) + 1)) ∧ (0 ≤ (v 47 0) ∧ (v 47 0) < 17) ∧ ∃ P1 : Option AV → VV → Prop, Con mX11_next 1 0 0 [(2, 47)] X (upd2 (upd2 (upd2 (upd2 v 61 ((400 * (v 47 0)) + (v 60 (v 47 0))) (v 47 29)) 62 ((400 * (v 47 0)) + (v 60 (v 47 0))) (v 47 30)) 63 ((400 * (v 47 0)) + (v 60 (v 47 0))) ((v 47 23) - (v 47 30))) 60 (v 47 0) ((v 60 (v 47 0)) + 1)) (fun o X1 v1 => X1 = X ∧ P1 o v1) ∧ ∀ (w3 : VV), P1 none w3 → Q none X w3) : Ex mX11_keeps d 0 [(2, 47), (3, 0)] [] X v mc ms Q := by
  refine x_sipush dX11_keeps_0 ks_400 (i32_of rfl) ?_
  refine x_aload_n dX11_keeps_3 rfl ?_
  refine x_geti (e := (v 47 0)) 0 flX11_159 dX11_keeps_4 (sW47 hW) (gW47 hW) rfl rfl (Nat.le_of_ble_eq_true rfl) (tagn2 rfl) ?_
  refine x_si32 (i := 0) rfl (fun hk0 => ?_)
  obtain ⟨hz, F⟩ := F
  have hz := hz hk0
  refine x_imul dX11_keeps_7 hz ?_
  refine x_aload_n dX11_keeps_8 rfl ?_
  refine x_getr (r' := 60) flX11_48 dX11_keeps_9 (sW47 hW) (gW47 hW) (rW47_13 hW) rfl (Nat.le_of_ble_eq_true rfl) ?_
  refine x_aload_n dX11_keeps_12 rfl ?_
  refine x_geti (e := (v 47 0)) 0 flX11_159 dX11_keeps_13 (sW47 hW) (gW47 hW) rfl rfl (Nat.le_of_ble_eq_true rfl) (tagn2 rfl) ?_
  obtain ⟨hi, F⟩ := F
  refine x_iald (e := (v 60 (v 47 0))) dX11_keeps_16 (sW60 hW) (gW60 hW) hi rfl ?_
  refine x_si32 (i := 0) rfl (fun hk0 => ?_)
  refine x_si32 (i := 1) rfl (fun hk1 => ?_)
  obtain ⟨hz, F⟩ := F
  have hz := hz hk0 hk1
  refine x_iadd dX11_keeps_17 hz ?_
  refine x_istore_n [(2, 47), (0, ((400 * (v 47 0)) + (v 60 (v 47 0))))] dX11_keeps_18 rfl (Nat.le_of_ble_eq_true rfl) ?_
  refine x_aload_n dX11_keeps_19 rfl ?_
  refine x_getr (r' := 61) flX11_51 dX11_keeps_20 (sW47 hW) (gW47 hW) (rW47_14 hW) rfl (Nat.le_of_ble_eq_true rfl) ?_
  refine x_iload_n dX11_keeps_23 rfl ?_
  refine x_aload_n dX11_keeps_24 rfl ?_
  refine x_geti (e := (v 47 29)) 0 flX11_197 dX11_keeps_25 (sW47 hW) (gW47 hW) rfl rfl (Nat.le_of_ble_eq_true rfl) (tagn2 rfl) ?_
  obtain ⟨hi, F⟩ := F
  refine x_iast dX11_keeps_28 (sW61 hW) (gW61 hW) hi ?_
  refine x_aload_n dX11_keeps_29 rfl ?_
  refine x_getr (r' := 62) flX11_54 dX11_keeps_30 (sW47 hW) (gW47 hW) (rW47_15 hW) rfl (Nat.le_of_ble_eq_true rfl) ?_
  refine x_iload_n dX11_keeps_33 rfl ?_
  refine x_aload_n dX11_keeps_34 rfl ?_
  refine x_geti (e := (v 47 30)) 0 flX11_188 dX11_keeps_35 (sW47 hW) (gW47 hW) rfl rfl (Nat.le_of_ble_eq_true rfl) (tagn2 rfl) ?_
  obtain ⟨hi, F⟩ := F
  refine x_iast dX11_keeps_38 (sW62 hW) (gW62 hW) hi ?_
  refine x_aload_n dX11_keeps_39 rfl ?_
  refine x_getr (r' := 63) flX11_57 dX11_keeps_40 (sW47 hW) (gW47 hW) (rW47_16 hW) rfl (Nat.le_of_ble_eq_true rfl) ?_
  refine x_iload_n dX11_keeps_43 rfl ?_
  refine x_aload_n dX11_keeps_44 rfl ?_
  refine x_geti (e := (v 47 23)) 0 flX11_179 dX11_keeps_45 (sW47 hW) (gW47 hW) rfl rfl (Nat.le_of_ble_eq_true rfl) (tagn2 rfl) ?_
  refine x_aload_n dX11_keeps_48 rfl ?_
  refine x_geti (e := (v 47 30)) 0 flX11_188 dX11_keeps_49 (sW47 hW) (gW47 hW) rfl rfl (Nat.le_of_ble_eq_true rfl) (tagn2 rfl) ?_
  refine x_si32 (i := 0) rfl (fun hk0 => ?_)
  refine x_si32 (i := 1) rfl (fun hk1 => ?_)
  obtain ⟨hz, F⟩ := F
  have hz := hz hk0 hk1
  refine x_isub dX11_keeps_52 hz ?_
  obtain ⟨hi, F⟩ := F
  refine x_iast dX11_keeps_53 (sW63 hW) (gW63 hW) hi ?_
  refine x_aload_n dX11_keeps_54 rfl ?_
  refine x_getr (r' := 60) flX11_48 dX11_keeps_55 (sW47 hW) (gW47 hW) (rW47_13 hW) rfl (Nat.le_of_ble_eq_true rfl) ?_
  refine x_aload_n dX11_keeps_58 rfl ?_
  refine x_geti (e := (v 47 0)) 0 flX11_159 dX11_keeps_59 (sW47 hW) (gW47 hW) rfl rfl (Nat.le_of_ble_eq_true rfl) (tagn2 rfl) ?_
  refine x_dup2 dX11_keeps_62 (tag1 rfl) (tag1 rfl) ?_
  obtain ⟨hi, F⟩ := F
  refine x_iald (e := (v 60 (v 47 0))) dX11_keeps_63 (sW60 hW) (gW60 hW) hi rfl ?_
  refine x_iconst dX11_keeps_64 rfl (i32_of rfl) ?_
  refine x_si32 (i := 1) rfl (fun hk1 => ?_)
  obtain ⟨hz, F⟩ := F
  have hz := hz hk1
  refine x_iadd dX11_keeps_65 hz ?_
  obtain ⟨hi, F⟩ := F
  refine x_iast dX11_keeps_66 (sW60 hW) (gW60 hW) hi ?_
  refine x_aload_n dX11_keeps_67 rfl ?_
  obtain ⟨P1, hC, F⟩ := F
  refine x_inv dY41_keeps_68 mlY41_210 hC (sW47 hW) (Nat.le_of_ble_eq_true rfl) (gW47 hW) rfl rfl (by omega) (Nat.zero_le _) (Nat.zero_le _) (Nat.le_of_ble_eq_true rfl) (fun o1 Y4 w3 ht hP => ?_)
  obtain rfl : o1 = none := ht
  obtain ⟨rfl, hP⟩ := hP
  have F := F w3 hP
  exact x_ret none rfl ⟨dX11_keeps_71, rfl⟩ F

set_option maxRecDepth 100000 in
set_option maxHeartbeats 4000000 in
theorem bX11_named_0 {d mc ms : Nat} {X : XX} {v : VV} {Q : QQ} (a1 : Int) (a2 : Int) (a3 : Int) (a4 : Int) (a5 : Int) (hd : 0 ≤ d) (hW : SW X) (F : i32 a1 → i32 a2 → i32 a3 → i32 a4 → i32 a5 → Ex mX11_named d 6 [(0, a1), (0, a2), (0, a3), (0, a4), (0, a5), (1, 0), (3, 0), (0, 0), (3, 0)] [] X v mc ms Q) : Ex mX11_named d 0 [(0, a1), (0, a2), (0, a3), (0, a4), (0, a5), (3, 0), (3, 0), (3, 0), (3, 0)] [] X v mc ms Q := by
  refine x_li32 (i := 0) rfl (fun ha1 => ?_)
  have F := F ha1
  refine x_li32 (i := 1) rfl (fun ha2 => ?_)
  have F := F ha2
  refine x_li32 (i := 2) rfl (fun ha3 => ?_)
  have F := F ha3
  refine x_li32 (i := 3) rfl (fun ha4 => ?_)
  have F := F ha4
  refine x_li32 (i := 4) rfl (fun ha5 => ?_)
  have F := F ha5
  refine x_lconst (i := 0) dX11_named_0 rfl (i64_of rfl) ?_
  refine x_lstore [(0, a1), (0, a2), (0, a3), (0, a4), (0, a5), (1, 0), (3, 0), (3, 0), (3, 0)] dX11_named_1 rfl (Nat.le_of_ble_eq_true rfl) ?_
  refine x_iconst dX11_named_3 rfl (i32_of rfl) ?_
  refine x_istore [(0, a1), (0, a2), (0, a3), (0, a4), (0, a5), (1, 0), (3, 0), (0, 0), (3, 0)] dX11_named_4 rfl (Nat.le_of_ble_eq_true rfl) ?_
  exact F

set_option maxRecDepth 100000 in
set_option maxHeartbeats 4000000 in
theorem bX11_named_6 {d mc ms : Nat} {X : XX} {v : VV} {Q : QQ} (a1 : Int) (a2 : Int) (a3 : Int) (a4 : Int) (a5 : Int) (x5 : Int) (x7 : Int) (hd : 0 ≤ d) (hW : SW X) (F : i32 a1 → i32 a2 → i32 a3 → i32 a4 → i32 a5 → i32 x7 → (((5 ≤ x7) → Q (some (1, x5)) X v) ∧ ((x7 < 5) → (((¬ x7 = 0) → (((¬ x7 = 1) → (((¬ x7 = 2) → (((¬ x7 = 3) → (((a5 = 32) → i32 (x7 + 1) ∧ Ex mX11_named d 6 [(0, a1), (0, a2), (0, a3), (0, a4), (0, a5), (1, x5), (3, 0), (0, (x7 + 1)), (3, 0)] [] X v mc ms Q) ∧ ((¬ a5 = 32) → i64 (27 * x5) ∧ i64 ((27 * x5) + a5) ∧ i64 (((27 * x5) + a5) - 97) ∧ i64 ((((27 * x5) + a5) - 97) + 1) ∧ i32 (x7 + 1) ∧ Ex mX11_named d 6 [(0, a1), (0, a2), (0, a3), (0, a4), (0, a5), (1, ((((27 * x5) + a5) - 97) + 1)), (3, 0), (0, (x7 + 1)), (3, 0)] [] X v mc ms Q))) ∧ ((x7 = 3) → (((a4 = 32) → i32 (x7 + 1) ∧ Ex mX11_named d 6 [(0, a1), (0, a2), (0, a3), (0, a4), (0, a5), (1, x5), (3, 0), (0, (x7 + 1)), (3, 0)] [] X v mc ms Q) ∧ ((¬ a4 = 32) → i64 (27 * x5) ∧ i64 ((27 * x5) + a4) ∧ i64 (((27 * x5) + a4) - 97) ∧ i64 ((((27 * x5) + a4) - 97) + 1) ∧ i32 (x7 + 1) ∧ Ex mX11_named d 6 [(0, a1), (0, a2), (0, a3), (0, a4), (0, a5), (1, ((((27 * x5) + a4) - 97) + 1)), (3, 0), (0, (x7 + 1)), (3, 0)] [] X v mc ms Q))))) ∧ ((x7 = 2) → (((a3 = 32) → i32 (x7 + 1) ∧ Ex mX11_named d 6 [(0, a1), (0, a2), (0, a3), (0, a4), (0, a5), (1, x5), (3, 0), (0, (x7 + 1)), (3, 0)] [] X v mc ms Q) ∧ ((¬ a3 = 32) → i64 (27 * x5) ∧ i64 ((27 * x5) + a3) ∧ i64 (((27 * x5) + a3) - 97) ∧ i64 ((((27 * x5) + a3) - 97) + 1) ∧ i32 (x7 + 1) ∧ Ex mX11_named d 6 [(0, a1), (0, a2), (0, a3), (0, a4), (0, a5), (1, ((((27 * x5) + a3) - 97) + 1)), (3, 0), (0, (x7 + 1)), (3, 0)] [] X v mc ms Q))))) ∧ ((x7 = 1) → (((a2 = 32) → i32 (x7 + 1) ∧ Ex mX11_named d 6 [(0, a1), (0, a2), (0, a3), (0, a4), (0, a5), (1, x5), (3, 0), (0, (x7 + 1)), (3, 0)] [] X v mc ms Q) ∧ ((¬ a2 = 32) → i64 (27 * x5) ∧ i64 ((27 * x5) + a2) ∧ i64 (((27 * x5) + a2) - 97) ∧ i64 ((((27 * x5) + a2) - 97) + 1) ∧ i32 (x7 + 1) ∧ Ex mX11_named d 6 [(0, a1), (0, a2), (0, a3), (0, a4), (0, a5), (1, ((((27 * x5) + a2) - 97) + 1)), (3, 0), (0, (x7 + 1)), (3, 0)] [] X v mc ms Q))))) ∧ ((x7 = 0) → (((a1 = 32) → i32 (x7 + 1) ∧ Ex mX11_named d 6 [(0, a1), (0, a2), (0, a3), (0, a4), (0, a5), (1, x5), (3, 0), (0, (x7 + 1)), (3, 0)] [] X v mc ms Q) ∧ ((¬ a1 = 32) → i64 (27 * x5) ∧ i64 ((27 * x5) + a1) ∧ i64 (((27 * x5) + a1) - 97) ∧ i64 ((((27 * x5) + a1) - 97) + 1) ∧ i32 (x7 + 1) ∧ Ex mX11_named d 6 [(0, a1), (0, a2), (0, a3), (0, a4), (0, a5), (1, ((((27 * x5) + a1) - 97) + 1)), (3, 0), (0, (x7 + 1)), (3, 0)] [] X v mc ms Q))))))) : Ex mX11_named d 6 [(0, a1), (0, a2), (0, a3), (0, a4), (0, a5), (1, x5), (3, 0), (0, x7), (3, 0)] [] X v mc ms Q := by
  refine x_li32 (i := 0) rfl (fun ha1 => ?_)
  have F := F ha1
  refine x_li32 (i := 1) rfl (fun ha2 => ?_)
  have F := F ha2
  refine x_li32 (i := 2) rfl (fun ha3 => ?_)
  have F := F ha3
  refine x_li32 (i := 3) rfl (fun ha4 => ?_)
  have F := F ha4
  refine x_li32 (i := 4) rfl (fun ha5 => ?_)
  have F := F ha5
  refine x_li32 (i := 7) rfl (fun hx7 => ?_)
  have F := F hx7
  refine x_iload dX11_named_6 rfl ?_
  refine x_iconst dX11_named_8 rfl (i32_of rfl) ?_
  refine x_icmp_ge 86 dX11_named_9 rfl (fun hc => ?_) (fun hc => ?_)
  · have F := F.1 hc
    refine x_lload dX11_named_86 rfl ?_
    exact x_ret (some (1, x5)) rfl ⟨dX11_named_88, rfl⟩ F
  · have F := F.2 hc
    refine x_iload dX11_named_12 rfl ?_
    refine x_if_ne 21 dX11_named_14 rfl (fun hc => ?_) (fun hc => ?_)
    · have F := F.1 hc
      refine x_iload dX11_named_21 rfl ?_
      refine x_iconst dX11_named_23 rfl (i32_of rfl) ?_
      refine x_icmp_ne 31 dX11_named_24 rfl (fun hc => ?_) (fun hc => ?_)
      · have F := F.1 hc
        refine x_iload dX11_named_31 rfl ?_
        refine x_iconst dX11_named_33 rfl (i32_of rfl) ?_
        refine x_icmp_ne 41 dX11_named_34 rfl (fun hc => ?_) (fun hc => ?_)
        · have F := F.1 hc
          refine x_iload dX11_named_41 rfl ?_
          refine x_iconst dX11_named_43 rfl (i32_of rfl) ?_
          refine x_icmp_ne 51 dX11_named_44 rfl (fun hc => ?_) (fun hc => ?_)
          · have F := F.1 hc
            refine x_iload dX11_named_51 rfl ?_
            refine x_istore [(0, a1), (0, a2), (0, a3), (0, a4), (0, a5), (1, x5), (3, 0), (0, x7), (0, a5)] dX11_named_53 rfl (Nat.le_of_ble_eq_true rfl) ?_
            refine x_iload dX11_named_55 rfl ?_
            refine x_bipush dX11_named_57 kb_32 (i32_of rfl) ?_
            refine x_icmp_eq 80 dX11_named_59 rfl (fun hc => ?_) (fun hc => ?_)
            · have F := F.1 hc
              obtain ⟨hz, F⟩ := F
              refine x_iinc [(0, a1), (0, a2), (0, a3), (0, a4), (0, a5), (1, x5), (3, 0), (0, (x7 + 1)), (0, a5)] dX11_named_80 rfl rfl (Nat.le_of_ble_eq_true rfl) hz ?_
              refine x_goto 6 dX11_named_83 rfl ?_
              exact x_less [(0, a1), (0, a2), (0, a3), (0, a4), (0, a5), (1, x5), (3, 0), (0, (x7 + 1)), (3, 0)] ⟨Or.inr rfl, ⟨Or.inr rfl, ⟨Or.inr rfl, ⟨Or.inr rfl, ⟨Or.inr rfl, ⟨Or.inr rfl, ⟨Or.inr rfl, ⟨Or.inr rfl, ⟨Or.inl rfl, trivial⟩⟩⟩⟩⟩⟩⟩⟩⟩ F
            · have F := F.2 hc
              refine x_ldc2 (i := 27) 27 dX11_named_62 lcX11_175 rfl (i64_of rfl) ?_
              refine x_lload dX11_named_65 rfl ?_
              obtain ⟨hz, F⟩ := F
              refine x_lmul dX11_named_67 hz ?_
              refine x_iload dX11_named_68 rfl ?_
              refine x_i2l dX11_named_70 ?_
              obtain ⟨hz, F⟩ := F
              refine x_ladd dX11_named_71 hz ?_
              refine x_ldc2 (i := 97) 97 dX11_named_72 lcX11_177 rfl (i64_of rfl) ?_
              obtain ⟨hz, F⟩ := F
              refine x_lsub dX11_named_75 hz ?_
              refine x_lconst (i := 1) dX11_named_76 rfl (i64_of rfl) ?_
              obtain ⟨hz, F⟩ := F
              refine x_ladd dX11_named_77 hz ?_
              refine x_lstore [(0, a1), (0, a2), (0, a3), (0, a4), (0, a5), (1, ((((27 * x5) + a5) - 97) + 1)), (3, 0), (0, x7), (0, a5)] dX11_named_78 rfl (Nat.le_of_ble_eq_true rfl) ?_
              obtain ⟨hz, F⟩ := F
              refine x_iinc [(0, a1), (0, a2), (0, a3), (0, a4), (0, a5), (1, ((((27 * x5) + a5) - 97) + 1)), (3, 0), (0, (x7 + 1)), (0, a5)] dX11_named_80 rfl rfl (Nat.le_of_ble_eq_true rfl) hz ?_
              refine x_goto 6 dX11_named_83 rfl ?_
              exact x_less [(0, a1), (0, a2), (0, a3), (0, a4), (0, a5), (1, ((((27 * x5) + a5) - 97) + 1)), (3, 0), (0, (x7 + 1)), (3, 0)] ⟨Or.inr rfl, ⟨Or.inr rfl, ⟨Or.inr rfl, ⟨Or.inr rfl, ⟨Or.inr rfl, ⟨Or.inr rfl, ⟨Or.inr rfl, ⟨Or.inr rfl, ⟨Or.inl rfl, trivial⟩⟩⟩⟩⟩⟩⟩⟩⟩ F
          · have F := F.2 hc
            refine x_iload_n dX11_named_47 rfl ?_
            refine x_goto 53 dX11_named_48 rfl ?_
            refine x_istore [(0, a1), (0, a2), (0, a3), (0, a4), (0, a5), (1, x5), (3, 0), (0, x7), (0, a4)] dX11_named_53 rfl (Nat.le_of_ble_eq_true rfl) ?_
            refine x_iload dX11_named_55 rfl ?_
            refine x_bipush dX11_named_57 kb_32 (i32_of rfl) ?_
            refine x_icmp_eq 80 dX11_named_59 rfl (fun hc => ?_) (fun hc => ?_)
            · have F := F.1 hc
              obtain ⟨hz, F⟩ := F
              refine x_iinc [(0, a1), (0, a2), (0, a3), (0, a4), (0, a5), (1, x5), (3, 0), (0, (x7 + 1)), (0, a4)] dX11_named_80 rfl rfl (Nat.le_of_ble_eq_true rfl) hz ?_
              refine x_goto 6 dX11_named_83 rfl ?_
              exact x_less [(0, a1), (0, a2), (0, a3), (0, a4), (0, a5), (1, x5), (3, 0), (0, (x7 + 1)), (3, 0)] ⟨Or.inr rfl, ⟨Or.inr rfl, ⟨Or.inr rfl, ⟨Or.inr rfl, ⟨Or.inr rfl, ⟨Or.inr rfl, ⟨Or.inr rfl, ⟨Or.inr rfl, ⟨Or.inl rfl, trivial⟩⟩⟩⟩⟩⟩⟩⟩⟩ F
            · have F := F.2 hc
              refine x_ldc2 (i := 27) 27 dX11_named_62 lcX11_175 rfl (i64_of rfl) ?_
              refine x_lload dX11_named_65 rfl ?_
              obtain ⟨hz, F⟩ := F
              refine x_lmul dX11_named_67 hz ?_
              refine x_iload dX11_named_68 rfl ?_
              refine x_i2l dX11_named_70 ?_
              obtain ⟨hz, F⟩ := F
              refine x_ladd dX11_named_71 hz ?_
              refine x_ldc2 (i := 97) 97 dX11_named_72 lcX11_177 rfl (i64_of rfl) ?_
              obtain ⟨hz, F⟩ := F
              refine x_lsub dX11_named_75 hz ?_
              refine x_lconst (i := 1) dX11_named_76 rfl (i64_of rfl) ?_
              obtain ⟨hz, F⟩ := F
              refine x_ladd dX11_named_77 hz ?_
              refine x_lstore [(0, a1), (0, a2), (0, a3), (0, a4), (0, a5), (1, ((((27 * x5) + a4) - 97) + 1)), (3, 0), (0, x7), (0, a4)] dX11_named_78 rfl (Nat.le_of_ble_eq_true rfl) ?_
              obtain ⟨hz, F⟩ := F
              refine x_iinc [(0, a1), (0, a2), (0, a3), (0, a4), (0, a5), (1, ((((27 * x5) + a4) - 97) + 1)), (3, 0), (0, (x7 + 1)), (0, a4)] dX11_named_80 rfl rfl (Nat.le_of_ble_eq_true rfl) hz ?_
              refine x_goto 6 dX11_named_83 rfl ?_
              exact x_less [(0, a1), (0, a2), (0, a3), (0, a4), (0, a5), (1, ((((27 * x5) + a4) - 97) + 1)), (3, 0), (0, (x7 + 1)), (3, 0)] ⟨Or.inr rfl, ⟨Or.inr rfl, ⟨Or.inr rfl, ⟨Or.inr rfl, ⟨Or.inr rfl, ⟨Or.inr rfl, ⟨Or.inr rfl, ⟨Or.inr rfl, ⟨Or.inl rfl, trivial⟩⟩⟩⟩⟩⟩⟩⟩⟩ F
        · have F := F.2 hc
          refine x_iload_n dX11_named_37 rfl ?_
          refine x_goto 53 dX11_named_38 rfl ?_
          refine x_istore [(0, a1), (0, a2), (0, a3), (0, a4), (0, a5), (1, x5), (3, 0), (0, x7), (0, a3)] dX11_named_53 rfl (Nat.le_of_ble_eq_true rfl) ?_
          refine x_iload dX11_named_55 rfl ?_
          refine x_bipush dX11_named_57 kb_32 (i32_of rfl) ?_
          refine x_icmp_eq 80 dX11_named_59 rfl (fun hc => ?_) (fun hc => ?_)
          · have F := F.1 hc
            obtain ⟨hz, F⟩ := F
            refine x_iinc [(0, a1), (0, a2), (0, a3), (0, a4), (0, a5), (1, x5), (3, 0), (0, (x7 + 1)), (0, a3)] dX11_named_80 rfl rfl (Nat.le_of_ble_eq_true rfl) hz ?_
            refine x_goto 6 dX11_named_83 rfl ?_
            exact x_less [(0, a1), (0, a2), (0, a3), (0, a4), (0, a5), (1, x5), (3, 0), (0, (x7 + 1)), (3, 0)] ⟨Or.inr rfl, ⟨Or.inr rfl, ⟨Or.inr rfl, ⟨Or.inr rfl, ⟨Or.inr rfl, ⟨Or.inr rfl, ⟨Or.inr rfl, ⟨Or.inr rfl, ⟨Or.inl rfl, trivial⟩⟩⟩⟩⟩⟩⟩⟩⟩ F
          · have F := F.2 hc
            refine x_ldc2 (i := 27) 27 dX11_named_62 lcX11_175 rfl (i64_of rfl) ?_
            refine x_lload dX11_named_65 rfl ?_
            obtain ⟨hz, F⟩ := F
            refine x_lmul dX11_named_67 hz ?_
            refine x_iload dX11_named_68 rfl ?_
            refine x_i2l dX11_named_70 ?_
            obtain ⟨hz, F⟩ := F
            refine x_ladd dX11_named_71 hz ?_
            refine x_ldc2 (i := 97) 97 dX11_named_72 lcX11_177 rfl (i64_of rfl) ?_
            obtain ⟨hz, F⟩ := F
            refine x_lsub dX11_named_75 hz ?_
            refine x_lconst (i := 1) dX11_named_76 rfl (i64_of rfl) ?_
            obtain ⟨hz, F⟩ := F
            refine x_ladd dX11_named_77 hz ?_
            refine x_lstore [(0, a1), (0, a2), (0, a3), (0, a4), (0, a5), (1, ((((27 * x5) + a3) - 97) + 1)), (3, 0), (0, x7), (0, a3)] dX11_named_78 rfl (Nat.le_of_ble_eq_true rfl) ?_
            obtain ⟨hz, F⟩ := F
            refine x_iinc [(0, a1), (0, a2), (0, a3), (0, a4), (0, a5), (1, ((((27 * x5) + a3) - 97) + 1)), (3, 0), (0, (x7 + 1)), (0, a3)] dX11_named_80 rfl rfl (Nat.le_of_ble_eq_true rfl) hz ?_
            refine x_goto 6 dX11_named_83 rfl ?_
            exact x_less [(0, a1), (0, a2), (0, a3), (0, a4), (0, a5), (1, ((((27 * x5) + a3) - 97) + 1)), (3, 0), (0, (x7 + 1)), (3, 0)] ⟨Or.inr rfl, ⟨Or.inr rfl, ⟨Or.inr rfl, ⟨Or.inr rfl, ⟨Or.inr rfl, ⟨Or.inr rfl, ⟨Or.inr rfl, ⟨Or.inr rfl, ⟨Or.inl rfl, trivial⟩⟩⟩⟩⟩⟩⟩⟩⟩ F
      · have F := F.2 hc
        refine x_iload_n dX11_named_27 rfl ?_
        refine x_goto 53 dX11_named_28 rfl ?_
        refine x_istore [(0, a1), (0, a2), (0, a3), (0, a4), (0, a5), (1, x5), (3, 0), (0, x7), (0, a2)] dX11_named_53 rfl (Nat.le_of_ble_eq_true rfl) ?_
        refine x_iload dX11_named_55 rfl ?_
        refine x_bipush dX11_named_57 kb_32 (i32_of rfl) ?_
        refine x_icmp_eq 80 dX11_named_59 rfl (fun hc => ?_) (fun hc => ?_)
        · have F := F.1 hc
          obtain ⟨hz, F⟩ := F
          refine x_iinc [(0, a1), (0, a2), (0, a3), (0, a4), (0, a5), (1, x5), (3, 0), (0, (x7 + 1)), (0, a2)] dX11_named_80 rfl rfl (Nat.le_of_ble_eq_true rfl) hz ?_
          refine x_goto 6 dX11_named_83 rfl ?_
          exact x_less [(0, a1), (0, a2), (0, a3), (0, a4), (0, a5), (1, x5), (3, 0), (0, (x7 + 1)), (3, 0)] ⟨Or.inr rfl, ⟨Or.inr rfl, ⟨Or.inr rfl, ⟨Or.inr rfl, ⟨Or.inr rfl, ⟨Or.inr rfl, ⟨Or.inr rfl, ⟨Or.inr rfl, ⟨Or.inl rfl, trivial⟩⟩⟩⟩⟩⟩⟩⟩⟩ F
        · have F := F.2 hc
          refine x_ldc2 (i := 27) 27 dX11_named_62 lcX11_175 rfl (i64_of rfl) ?_
          refine x_lload dX11_named_65 rfl ?_
          obtain ⟨hz, F⟩ := F
          refine x_lmul dX11_named_67 hz ?_
          refine x_iload dX11_named_68 rfl ?_
          refine x_i2l dX11_named_70 ?_
          obtain ⟨hz, F⟩ := F
          refine x_ladd dX11_named_71 hz ?_
          refine x_ldc2 (i := 97) 97 dX11_named_72 lcX11_177 rfl (i64_of rfl) ?_
          obtain ⟨hz, F⟩ := F
          refine x_lsub dX11_named_75 hz ?_
          refine x_lconst (i := 1) dX11_named_76 rfl (i64_of rfl) ?_
          obtain ⟨hz, F⟩ := F
          refine x_ladd dX11_named_77 hz ?_
          refine x_lstore [(0, a1), (0, a2), (0, a3), (0, a4), (0, a5), (1, ((((27 * x5) + a2) - 97) + 1)), (3, 0), (0, x7), (0, a2)] dX11_named_78 rfl (Nat.le_of_ble_eq_true rfl) ?_
          obtain ⟨hz, F⟩ := F
          refine x_iinc [(0, a1), (0, a2), (0, a3), (0, a4), (0, a5), (1, ((((27 * x5) + a2) - 97) + 1)), (3, 0), (0, (x7 + 1)), (0, a2)] dX11_named_80 rfl rfl (Nat.le_of_ble_eq_true rfl) hz ?_
          refine x_goto 6 dX11_named_83 rfl ?_
          exact x_less [(0, a1), (0, a2), (0, a3), (0, a4), (0, a5), (1, ((((27 * x5) + a2) - 97) + 1)), (3, 0), (0, (x7 + 1)), (3, 0)] ⟨Or.inr rfl, ⟨Or.inr rfl, ⟨Or.inr rfl, ⟨Or.inr rfl, ⟨Or.inr rfl, ⟨Or.inr rfl, ⟨Or.inr rfl, ⟨Or.inr rfl, ⟨Or.inl rfl, trivial⟩⟩⟩⟩⟩⟩⟩⟩⟩ F
    · have F := F.2 hc
      refine x_iload_n dX11_named_17 rfl ?_
      refine x_goto 53 dX11_named_18 rfl ?_
      refine x_istore [(0, a1), (0, a2), (0, a3), (0, a4), (0, a5), (1, x5), (3, 0), (0, x7), (0, a1)] dX11_named_53 rfl (Nat.le_of_ble_eq_true rfl) ?_
      refine x_iload dX11_named_55 rfl ?_
      refine x_bipush dX11_named_57 kb_32 (i32_of rfl) ?_
      refine x_icmp_eq 80 dX11_named_59 rfl (fun hc => ?_) (fun hc => ?_)
      · have F := F.1 hc
        obtain ⟨hz, F⟩ := F
        refine x_iinc [(0, a1), (0, a2), (0, a3), (0, a4), (0, a5), (1, x5), (3, 0), (0, (x7 + 1)), (0, a1)] dX11_named_80 rfl rfl (Nat.le_of_ble_eq_true rfl) hz ?_
        refine x_goto 6 dX11_named_83 rfl ?_
        exact x_less [(0, a1), (0, a2), (0, a3), (0, a4), (0, a5), (1, x5), (3, 0), (0, (x7 + 1)), (3, 0)] ⟨Or.inr rfl, ⟨Or.inr rfl, ⟨Or.inr rfl, ⟨Or.inr rfl, ⟨Or.inr rfl, ⟨Or.inr rfl, ⟨Or.inr rfl, ⟨Or.inr rfl, ⟨Or.inl rfl, trivial⟩⟩⟩⟩⟩⟩⟩⟩⟩ F
      · have F := F.2 hc
        refine x_ldc2 (i := 27) 27 dX11_named_62 lcX11_175 rfl (i64_of rfl) ?_
        refine x_lload dX11_named_65 rfl ?_
        obtain ⟨hz, F⟩ := F
        refine x_lmul dX11_named_67 hz ?_
        refine x_iload dX11_named_68 rfl ?_
        refine x_i2l dX11_named_70 ?_
        obtain ⟨hz, F⟩ := F
        refine x_ladd dX11_named_71 hz ?_
        refine x_ldc2 (i := 97) 97 dX11_named_72 lcX11_177 rfl (i64_of rfl) ?_
        obtain ⟨hz, F⟩ := F
        refine x_lsub dX11_named_75 hz ?_
        refine x_lconst (i := 1) dX11_named_76 rfl (i64_of rfl) ?_
        obtain ⟨hz, F⟩ := F
        refine x_ladd dX11_named_77 hz ?_
        refine x_lstore [(0, a1), (0, a2), (0, a3), (0, a4), (0, a5), (1, ((((27 * x5) + a1) - 97) + 1)), (3, 0), (0, x7), (0, a1)] dX11_named_78 rfl (Nat.le_of_ble_eq_true rfl) ?_
        obtain ⟨hz, F⟩ := F
        refine x_iinc [(0, a1), (0, a2), (0, a3), (0, a4), (0, a5), (1, ((((27 * x5) + a1) - 97) + 1)), (3, 0), (0, (x7 + 1)), (0, a1)] dX11_named_80 rfl rfl (Nat.le_of_ble_eq_true rfl) hz ?_
        refine x_goto 6 dX11_named_83 rfl ?_
        exact x_less [(0, a1), (0, a2), (0, a3), (0, a4), (0, a5), (1, ((((27 * x5) + a1) - 97) + 1)), (3, 0), (0, (x7 + 1)), (3, 0)] ⟨Or.inr rfl, ⟨Or.inr rfl, ⟨Or.inr rfl, ⟨Or.inr rfl, ⟨Or.inr rfl, ⟨Or.inr rfl, ⟨Or.inr rfl, ⟨Or.inr rfl, ⟨Or.inl rfl, trivial⟩⟩⟩⟩⟩⟩⟩⟩⟩ F

set_option maxRecDepth 100000 in
set_option maxHeartbeats 4000000 in
theorem bX11_isWord_0 {d mc ms : Nat} {X : XX} {v : VV} {Q : QQ} (a1 : Int) (hd : 0 ≤ d) (hW : SW X) (F : (((¬ (v 47 29) = 1) → Q (some (0, 0)) X v) ∧ (((v 47 29) = 1) → (((¬ (v 47 32) = a1) → Q (some (0, 0)) X v) ∧ (((v 47 32) = a1) → Q (some (0, 1)) X v))))) : Ex mX11_isWord d 0 [(2, 47), (1, a1), (3, 0)] [] X v mc ms Q := by
  refine x_aload_n dX11_isWord_0 rfl ?_
  refine x_geti (e := (v 47 29)) 0 flX11_197 dX11_isWord_1 (sW47 hW) (gW47 hW) rfl rfl (Nat.le_of_ble_eq_true rfl) (tagn2 rfl) ?_
  refine x_iconst dX11_isWord_4 rfl (i32_of rfl) ?_
  refine x_icmp_ne 21 dX11_isWord_5 rfl (fun hc => ?_) (fun hc => ?_)
  · have F := F.1 hc
    refine x_iconst dX11_isWord_21 rfl (i32_of rfl) ?_
    exact x_ret (some (0, 0)) rfl ⟨dX11_isWord_22, Or.inr ⟨rfl, Or.inl rfl⟩⟩ F
  · have F := F.2 hc
    refine x_aload_n dX11_isWord_8 rfl ?_
    refine x_geti (e := (v 47 32)) 1 flX11_194 dX11_isWord_9 (sW47 hW) (gW47 hW) rfl rfl (Nat.le_of_ble_eq_true rfl) (tagn2 rfl) ?_
    refine x_lload_n dX11_isWord_12 rfl ?_
    refine x_lcmp dX11_isWord_13 (fun z1 hz11 hz12 hz13 => ?_)
    refine x_if_ne 21 dX11_isWord_14 rfl (fun hc => ?_) (fun hc => ?_)
    · have F := F.1 (fun q => hc (hz11.mpr q))
      refine x_iconst dX11_isWord_21 rfl (i32_of rfl) ?_
      exact x_ret (some (0, 0)) rfl ⟨dX11_isWord_22, Or.inr ⟨rfl, Or.inl rfl⟩⟩ F
    · have F := F.2 (hz11.mp hc)
      refine x_iconst dX11_isWord_17 rfl (i32_of rfl) ?_
      refine x_goto 22 dX11_isWord_18 rfl ?_
      exact x_ret (some (0, 1)) rfl ⟨dX11_isWord_22, Or.inr ⟨rfl, Or.inr rfl⟩⟩ F

set_option maxRecDepth 100000 in
set_option maxHeartbeats 4000000 in
theorem bX11_isName_0 {d mc ms : Nat} {X : XX} {v : VV} {Q : QQ} (hd : 0 ≤ d) (hW : SW X) (F : (((¬ (v 47 29) = 1) → Q (some (0, 0)) X v) ∧ (((v 47 29) = 1) → (((¬ (v 47 31) = (-1)) → Q (some (0, 0)) X v) ∧ (((v 47 31) = (-1)) → ((((v 47 32) = (v 47 33)) → Q (some (0, 0)) X v) ∧ ((¬ (v 47 32) = (v 47 33)) → ((((v 47 32) = (v 47 34)) → Q (some (0, 0)) X v) ∧ ((¬ (v 47 32) = (v 47 34)) → ((((v 47 32) = (v 47 35)) → Q (some (0, 0)) X v) ∧ ((¬ (v 47 32) = (v 47 35)) → ((((v 47 32) = (v 47 36)) → Q (some (0, 0)) X v) ∧ ((¬ (v 47 32) = (v 47 36)) → ((((v 47 32) = (v 47 37)) → Q (some (0, 0)) X v) ∧ ((¬ (v 47 32) = (v 47 37)) → ((((v 47 32) = (v 47 38)) → Q (some (0, 0)) X v) ∧ ((¬ (v 47 32) = (v 47 38)) → ((((v 47 32) = (v 47 39)) → Q (some (0, 0)) X v) ∧ ((¬ (v 47 32) = (v 47 39)) → Q (some (0, 1)) X v))))))))))))))))))) : Ex mX11_isName d 0 [(2, 47)] [] X v mc ms Q := by
  refine x_aload_n dX11_isName_0 rfl ?_
  refine x_geti (e := (v 47 29)) 0 flX11_197 dX11_isName_1 (sW47 hW) (gW47 hW) rfl rfl (Nat.le_of_ble_eq_true rfl) (tagn2 rfl) ?_
  refine x_iconst dX11_isName_4 rfl (i32_of rfl) ?_
  refine x_icmp_ne 104 dX11_isName_5 rfl (fun hc => ?_) (fun hc => ?_)
  · have F := F.1 hc
    refine x_iconst dX11_isName_104 rfl (i32_of rfl) ?_
    exact x_ret (some (0, 0)) rfl ⟨dX11_isName_105, Or.inr ⟨rfl, Or.inl rfl⟩⟩ F
  · have F := F.2 hc
    refine x_aload_n dX11_isName_8 rfl ?_
    refine x_geti (e := (v 47 31)) 0 flX11_191 dX11_isName_9 (sW47 hW) (gW47 hW) rfl rfl (Nat.le_of_ble_eq_true rfl) (tagn2 rfl) ?_
    refine x_iconst dX11_isName_12 rfl (i32_of rfl) ?_
    refine x_icmp_ne 104 dX11_isName_13 rfl (fun hc => ?_) (fun hc => ?_)
    · have F := F.1 hc
      refine x_iconst dX11_isName_104 rfl (i32_of rfl) ?_
      exact x_ret (some (0, 0)) rfl ⟨dX11_isName_105, Or.inr ⟨rfl, Or.inl rfl⟩⟩ F
    · have F := F.2 hc
      refine x_aload_n dX11_isName_16 rfl ?_
      refine x_geti (e := (v 47 32)) 1 flX11_194 dX11_isName_17 (sW47 hW) (gW47 hW) rfl rfl (Nat.le_of_ble_eq_true rfl) (tagn2 rfl) ?_
      refine x_aload_n dX11_isName_20 rfl ?_
      refine x_geti (e := (v 47 33)) 1 flX11_83 dX11_isName_21 (sW47 hW) (gW47 hW) rfl rfl (Nat.le_of_ble_eq_true rfl) (tagn2 rfl) ?_
      refine x_lcmp dX11_isName_24 (fun z1 hz11 hz12 hz13 => ?_)
      refine x_if_eq 104 dX11_isName_25 rfl (fun hc => ?_) (fun hc => ?_)
      · have F := F.1 (hz11.mp hc)
        refine x_iconst dX11_isName_104 rfl (i32_of rfl) ?_
        exact x_ret (some (0, 0)) rfl ⟨dX11_isName_105, Or.inr ⟨rfl, Or.inl rfl⟩⟩ F
      · have F := F.2 (fun q => hc (hz11.mpr q))
        refine x_aload_n dX11_isName_28 rfl ?_
        refine x_geti (e := (v 47 32)) 1 flX11_194 dX11_isName_29 (sW47 hW) (gW47 hW) rfl rfl (Nat.le_of_ble_eq_true rfl) (tagn2 rfl) ?_
        refine x_aload_n dX11_isName_32 rfl ?_
        refine x_geti (e := (v 47 34)) 1 flX11_87 dX11_isName_33 (sW47 hW) (gW47 hW) rfl rfl (Nat.le_of_ble_eq_true rfl) (tagn2 rfl) ?_
        refine x_lcmp dX11_isName_36 (fun z2 hz21 hz22 hz23 => ?_)
        refine x_if_eq 104 dX11_isName_37 rfl (fun hc => ?_) (fun hc => ?_)
        · have F := F.1 (hz21.mp hc)
          refine x_iconst dX11_isName_104 rfl (i32_of rfl) ?_
          exact x_ret (some (0, 0)) rfl ⟨dX11_isName_105, Or.inr ⟨rfl, Or.inl rfl⟩⟩ F
        · have F := F.2 (fun q => hc (hz21.mpr q))
          refine x_aload_n dX11_isName_40 rfl ?_
          refine x_geti (e := (v 47 32)) 1 flX11_194 dX11_isName_41 (sW47 hW) (gW47 hW) rfl rfl (Nat.le_of_ble_eq_true rfl) (tagn2 rfl) ?_
          refine x_aload_n dX11_isName_44 rfl ?_
          refine x_geti (e := (v 47 35)) 1 flX11_90 dX11_isName_45 (sW47 hW) (gW47 hW) rfl rfl (Nat.le_of_ble_eq_true rfl) (tagn2 rfl) ?_
          refine x_lcmp dX11_isName_48 (fun z3 hz31 hz32 hz33 => ?_)
          refine x_if_eq 104 dX11_isName_49 rfl (fun hc => ?_) (fun hc => ?_)
          · have F := F.1 (hz31.mp hc)
            refine x_iconst dX11_isName_104 rfl (i32_of rfl) ?_
            exact x_ret (some (0, 0)) rfl ⟨dX11_isName_105, Or.inr ⟨rfl, Or.inl rfl⟩⟩ F
          · have F := F.2 (fun q => hc (hz31.mpr q))
            refine x_aload_n dX11_isName_52 rfl ?_
            refine x_geti (e := (v 47 32)) 1 flX11_194 dX11_isName_53 (sW47 hW) (gW47 hW) rfl rfl (Nat.le_of_ble_eq_true rfl) (tagn2 rfl) ?_
            refine x_aload_n dX11_isName_56 rfl ?_
            refine x_geti (e := (v 47 36)) 1 flX11_93 dX11_isName_57 (sW47 hW) (gW47 hW) rfl rfl (Nat.le_of_ble_eq_true rfl) (tagn2 rfl) ?_
            refine x_lcmp dX11_isName_60 (fun z4 hz41 hz42 hz43 => ?_)
            refine x_if_eq 104 dX11_isName_61 rfl (fun hc => ?_) (fun hc => ?_)
            · have F := F.1 (hz41.mp hc)
              refine x_iconst dX11_isName_104 rfl (i32_of rfl) ?_
              exact x_ret (some (0, 0)) rfl ⟨dX11_isName_105, Or.inr ⟨rfl, Or.inl rfl⟩⟩ F
            · have F := F.2 (fun q => hc (hz41.mpr q))
              refine x_aload_n dX11_isName_64 rfl ?_
              refine x_geti (e := (v 47 32)) 1 flX11_194 dX11_isName_65 (sW47 hW) (gW47 hW) rfl rfl (Nat.le_of_ble_eq_true rfl) (tagn2 rfl) ?_
              refine x_aload_n dX11_isName_68 rfl ?_
              refine x_geti (e := (v 47 37)) 1 flX11_96 dX11_isName_69 (sW47 hW) (gW47 hW) rfl rfl (Nat.le_of_ble_eq_true rfl) (tagn2 rfl) ?_
              refine x_lcmp dX11_isName_72 (fun z5 hz51 hz52 hz53 => ?_)
              refine x_if_eq 104 dX11_isName_73 rfl (fun hc => ?_) (fun hc => ?_)
              · have F := F.1 (hz51.mp hc)
                refine x_iconst dX11_isName_104 rfl (i32_of rfl) ?_
                exact x_ret (some (0, 0)) rfl ⟨dX11_isName_105, Or.inr ⟨rfl, Or.inl rfl⟩⟩ F
              · have F := F.2 (fun q => hc (hz51.mpr q))
                refine x_aload_n dX11_isName_76 rfl ?_
                refine x_geti (e := (v 47 32)) 1 flX11_194 dX11_isName_77 (sW47 hW) (gW47 hW) rfl rfl (Nat.le_of_ble_eq_true rfl) (tagn2 rfl) ?_
                refine x_aload_n dX11_isName_80 rfl ?_
                refine x_geti (e := (v 47 38)) 1 flX11_99 dX11_isName_81 (sW47 hW) (gW47 hW) rfl rfl (Nat.le_of_ble_eq_true rfl) (tagn2 rfl) ?_
                refine x_lcmp dX11_isName_84 (fun z6 hz61 hz62 hz63 => ?_)
                refine x_if_eq 104 dX11_isName_85 rfl (fun hc => ?_) (fun hc => ?_)
                · have F := F.1 (hz61.mp hc)
                  refine x_iconst dX11_isName_104 rfl (i32_of rfl) ?_
                  exact x_ret (some (0, 0)) rfl ⟨dX11_isName_105, Or.inr ⟨rfl, Or.inl rfl⟩⟩ F
                · have F := F.2 (fun q => hc (hz61.mpr q))
                  refine x_aload_n dX11_isName_88 rfl ?_
                  refine x_geti (e := (v 47 32)) 1 flX11_194 dX11_isName_89 (sW47 hW) (gW47 hW) rfl rfl (Nat.le_of_ble_eq_true rfl) (tagn2 rfl) ?_
                  refine x_aload_n dX11_isName_92 rfl ?_
                  refine x_geti (e := (v 47 39)) 1 flX11_102 dX11_isName_93 (sW47 hW) (gW47 hW) rfl rfl (Nat.le_of_ble_eq_true rfl) (tagn2 rfl) ?_
                  refine x_lcmp dX11_isName_96 (fun z7 hz71 hz72 hz73 => ?_)
                  refine x_if_eq 104 dX11_isName_97 rfl (fun hc => ?_) (fun hc => ?_)
                  · have F := F.1 (hz71.mp hc)
                    refine x_iconst dX11_isName_104 rfl (i32_of rfl) ?_
                    exact x_ret (some (0, 0)) rfl ⟨dX11_isName_105, Or.inr ⟨rfl, Or.inl rfl⟩⟩ F
                  · have F := F.2 (fun q => hc (hz71.mpr q))
                    refine x_iconst dX11_isName_100 rfl (i32_of rfl) ?_
                    refine x_goto 105 dX11_isName_101 rfl ?_
                    exact x_ret (some (0, 1)) rfl ⟨dX11_isName_105, Or.inr ⟨rfl, Or.inr rfl⟩⟩ F

set_option maxRecDepth 100000 in
set_option maxHeartbeats 4000000 in
theorem bX11_sign_0 {d mc ms : Nat} {X : XX} {v : VV} {Q : QQ} (a1 : Int) (hd : 3 ≤ d) (hW : SW X) (F : i32 a1 → (((¬ (v 47 29) = a1) → ∃ P1 : Option AV → VV → Prop, Con mX11_fail 0 0 0 [(2, 47), (0, 1), (0, (v 47 30))] X v (fun o X1 v1 => X1 = X ∧ P1 o v1) ∧ ∀ (w3 : VV), P1 none w3 → Q none X w3) ∧ (((v 47 29) = a1) → ∃ P5 : Option AV → VV → Prop, Con mX11_keeps 2 0 0 [(2, 47)] X v (fun o X1 v1 => X1 = X ∧ P5 o v1) ∧ ∀ (w7 : VV), P5 none w7 → Q none X w7))) : Ex mX11_sign d 0 [(2, 47), (0, a1)] [] X v mc ms Q := by
  refine x_li32 (i := 1) rfl (fun ha1 => ?_)
  have F := F ha1
  refine x_aload_n dX11_sign_0 rfl ?_
  refine x_geti (e := (v 47 29)) 0 flX11_197 dX11_sign_1 (sW47 hW) (gW47 hW) rfl rfl (Nat.le_of_ble_eq_true rfl) (tagn2 rfl) ?_
  refine x_iload_n dX11_sign_4 rfl ?_
  refine x_icmp_ne 15 dX11_sign_5 rfl (fun hc => ?_) (fun hc => ?_)
  · have F := F.1 hc
    refine x_aload_n dX11_sign_15 rfl ?_
    refine x_iconst dX11_sign_16 rfl (i32_of rfl) ?_
    refine x_aload_n dX11_sign_17 rfl ?_
    refine x_geti (e := (v 47 30)) 0 flX11_188 dX11_sign_18 (sW47 hW) (gW47 hW) rfl rfl (Nat.le_of_ble_eq_true rfl) (tagn2 rfl) ?_
    obtain ⟨P1, hC, F⟩ := F
    refine x_inv dY41_sign_21 mlY41_216 hC (sW47 hW) (Nat.le_of_ble_eq_true rfl) (gW47 hW) rfl rfl (by omega) (Nat.zero_le _) (Nat.zero_le _) (Nat.le_of_ble_eq_true rfl) (fun o1 Y4 w3 ht hP => ?_)
    obtain rfl : o1 = none := ht
    obtain ⟨rfl, hP⟩ := hP
    have F := F w3 hP
    exact x_ret none rfl ⟨dX11_sign_24, rfl⟩ F
  · have F := F.2 hc
    refine x_aload_n dX11_sign_8 rfl ?_
    obtain ⟨P5, hC, F⟩ := F
    refine x_inv dY81_sign_9 mlY81_213 hC (sW47 hW) (Nat.le_of_ble_eq_true rfl) (gW47 hW) rfl rfl (by omega) (Nat.zero_le _) (Nat.zero_le _) (Nat.le_of_ble_eq_true rfl) (fun o1 Y8 w7 ht hP => ?_)
    obtain rfl : o1 = none := ht
    obtain ⟨rfl, hP⟩ := hP
    have F := F w7 hP
    refine x_goto 24 dX11_sign_12 rfl ?_
    exact x_ret none rfl ⟨dX11_sign_24, rfl⟩ F

set_option maxRecDepth 100000 in
set_option maxHeartbeats 4000000 in
theorem bX11_name_0 {d mc ms : Nat} {X : XX} {v : VV} {Q : QQ} (hd : 3 ≤ d) (hW : SW X) (F : (((¬ (v 47 29) = 1) → Ex mX11_name d 28 [(2, 47)] [] X v mc ms Q) ∧ (((v 47 29) = 1) → ((((v 47 31) = (-1)) → Ex mX11_name d 28 [(2, 47)] [] X v mc ms Q) ∧ ((¬ (v 47 31) = (-1)) → ∃ P1 : Option AV → VV → Prop, Con mX11_fail 0 0 0 [(2, 47), (0, 1), (0, (v 47 31))] X v (fun o X1 v1 => X1 = X ∧ P1 o v1) ∧ ∀ (w3 : VV), P1 none w3 → Q none X w3))))) : Ex mX11_name d 0 [(2, 47)] [] X v mc ms Q := by
  refine x_aload_n dX11_name_0 rfl ?_
  refine x_geti (e := (v 47 29)) 0 flX11_197 dX11_name_1 (sW47 hW) (gW47 hW) rfl rfl (Nat.le_of_ble_eq_true rfl) (tagn2 rfl) ?_
  refine x_iconst dX11_name_4 rfl (i32_of rfl) ?_
  refine x_icmp_ne 28 dX11_name_5 rfl (fun hc => ?_) (fun hc => ?_)
  · have F := F.1 hc
    exact F
  · have F := F.2 hc
    refine x_aload_n dX11_name_8 rfl ?_
    refine x_geti (e := (v 47 31)) 0 flX11_191 dX11_name_9 (sW47 hW) (gW47 hW) rfl rfl (Nat.le_of_ble_eq_true rfl) (tagn2 rfl) ?_
    refine x_iconst dX11_name_12 rfl (i32_of rfl) ?_
    refine x_icmp_eq 28 dX11_name_13 rfl (fun hc => ?_) (fun hc => ?_)
    · have F := F.1 hc
      exact F
    · have F := F.2 hc
      refine x_aload_n dX11_name_16 rfl ?_
      refine x_iconst dX11_name_17 rfl (i32_of rfl) ?_
      refine x_aload_n dX11_name_18 rfl ?_
      refine x_geti (e := (v 47 31)) 0 flX11_191 dX11_name_19 (sW47 hW) (gW47 hW) rfl rfl (Nat.le_of_ble_eq_true rfl) (tagn2 rfl) ?_
      obtain ⟨P1, hC, F⟩ := F
      refine x_inv dY41_name_22 mlY41_216 hC (sW47 hW) (Nat.le_of_ble_eq_true rfl) (gW47 hW) rfl rfl (by omega) (Nat.zero_le _) (Nat.zero_le _) (Nat.le_of_ble_eq_true rfl) (fun o1 Y4 w3 ht hP => ?_)
      obtain rfl : o1 = none := ht
      obtain ⟨rfl, hP⟩ := hP
      have F := F w3 hP
      refine x_goto 51 dX11_name_25 rfl ?_
      exact x_ret none rfl ⟨dX11_name_51, rfl⟩ F

set_option maxRecDepth 100000 in
set_option maxHeartbeats 4000000 in
theorem bX11_name_28 {d mc ms : Nat} {X : XX} {v : VV} {Q : QQ} (hd : 3 ≤ d) (hW : SW X) (F : ∃ P5 : Option AV → VV → Prop, Con mX11_isName 0 0 0 [(2, 47)] X v (fun o X1 v1 => X1 = X ∧ P5 o v1) ∧ ∀ (r6 : Int) (w7 : VV), P5 (some (0, r6)) w7 → (((¬ r6 = 0) → ∃ P9 : Option AV → VV → Prop, Con mX11_keeps 2 0 0 [(2, 47)] X w7 (fun o X1 v1 => X1 = X ∧ P9 o v1) ∧ ∀ (w11 : VV), P9 none w11 → Q none X w11) ∧ ((r6 = 0) → ∃ P13 : Option AV → VV → Prop, Con mX11_fail 0 0 0 [(2, 47), (0, 1), (0, (w7 47 30))] X w7 (fun o X1 v1 => X1 = X ∧ P13 o v1) ∧ ∀ (w15 : VV), P13 none w15 → Q none X w15))) : Ex mX11_name d 28 [(2, 47)] [] X v mc ms Q := by
  refine x_aload_n dX11_name_28 rfl ?_
  obtain ⟨P5, hC, F⟩ := F
  refine x_inv dY81_name_29 mlY81_220 hC (sW47 hW) (Nat.le_of_ble_eq_true rfl) (gW47 hW) rfl rfl (by omega) (Nat.zero_le _) (Nat.zero_le _) (Nat.le_of_ble_eq_true rfl) (fun o1 Y8 w7 ht hP => ?_)
  obtain ⟨r6, rfl⟩ : ∃ i, o1 = some (0, i) := ht
  obtain ⟨rfl, hP⟩ := hP
  have F := F r6 w7 hP
  refine x_if_ne 47 dX11_name_32 rfl (fun hc => ?_) (fun hc => ?_)
  · have F := F.1 hc
    refine x_aload_n dX11_name_47 rfl ?_
    obtain ⟨P9, hC, F⟩ := F
    refine x_inv dY121_name_48 mlY121_213 hC (sW47 hW) (Nat.le_of_ble_eq_true rfl) (gW47 hW) rfl rfl (by omega) (Nat.zero_le _) (Nat.zero_le _) (Nat.le_of_ble_eq_true rfl) (fun o1 Y12 w11 ht hP => ?_)
    obtain rfl : o1 = none := ht
    obtain ⟨rfl, hP⟩ := hP
    have F := F w11 hP
    exact x_ret none rfl ⟨dX11_name_51, rfl⟩ F
  · have F := F.2 hc
    refine x_aload_n dX11_name_35 rfl ?_
    refine x_iconst dX11_name_36 rfl (i32_of rfl) ?_
    refine x_aload_n dX11_name_37 rfl ?_
    refine x_geti (e := (w7 47 30)) 0 flX11_188 dX11_name_38 (sW47 hW) (gW47 hW) rfl rfl (Nat.le_of_ble_eq_true rfl) (tagn2 rfl) ?_
    obtain ⟨P13, hC, F⟩ := F
    refine x_inv dY161_name_41 mlY161_216 hC (sW47 hW) (Nat.le_of_ble_eq_true rfl) (gW47 hW) rfl rfl (by omega) (Nat.zero_le _) (Nat.zero_le _) (Nat.le_of_ble_eq_true rfl) (fun o1 Y16 w15 ht hP => ?_)
    obtain rfl : o1 = none := ht
    obtain ⟨rfl, hP⟩ := hP
    have F := F w15 hP
    refine x_goto 51 dX11_name_44 rfl ?_
    exact x_ret none rfl ⟨dX11_name_51, rfl⟩ F

set_option maxRecDepth 100000 in
set_option maxHeartbeats 4000000 in
theorem bX11_formula_0 {d mc ms : Nat} {X : XX} {v : VV} {Q : QQ} (a1 : Int) (hd : 5 ≤ d) (hW : SW X) (F : i32 a1 → (i32 (v 47 0) → i32 (8 * (v 47 0))) ∧ (i32 (8 * (v 47 0)) → i32 ((8 * (v 47 0)) + a1)) ∧ (0 ≤ (v 47 0) ∧ (v 47 0) < 17) ∧ (0 ≤ ((8 * (v 47 0)) + a1) ∧ ((8 * (v 47 0)) + a1) < 136) ∧ Ex mX11_formula d 34 [(2, 47), (0, a1), (0, 0), (0, 1), (3, 0)] [] X (upd2 (upd2 v 65 ((8 * (v 47 0)) + a1) (v 60 (v 47 0))) 69 0 0) mc ms Q) : Ex mX11_formula d 0 [(2, 47), (0, a1), (3, 0), (3, 0), (3, 0)] [] X v mc ms Q := by
  refine x_li32 (i := 1) rfl (fun ha1 => ?_)
  have F := F ha1
  refine x_aload_n dX11_formula_0 rfl ?_
  refine x_getr (r' := 65) flX11_63 dX11_formula_1 (sW47 hW) (gW47 hW) (rW47_18 hW) rfl (Nat.le_of_ble_eq_true rfl) ?_
  refine x_bipush dX11_formula_4 kb_8 (i32_of rfl) ?_
  refine x_aload_n dX11_formula_6 rfl ?_
  refine x_geti (e := (v 47 0)) 0 flX11_159 dX11_formula_7 (sW47 hW) (gW47 hW) rfl rfl (Nat.le_of_ble_eq_true rfl) (tagn2 rfl) ?_
  refine x_si32 (i := 0) rfl (fun hk0 => ?_)
  obtain ⟨hz, F⟩ := F
  have hz := hz hk0
  refine x_imul dX11_formula_10 hz ?_
  refine x_iload_n dX11_formula_11 rfl ?_
  refine x_si32 (i := 1) rfl (fun hk1 => ?_)
  obtain ⟨hz, F⟩ := F
  have hz := hz hk1
  refine x_iadd dX11_formula_12 hz ?_
  refine x_aload_n dX11_formula_13 rfl ?_
  refine x_getr (r' := 60) flX11_48 dX11_formula_14 (sW47 hW) (gW47 hW) (rW47_13 hW) rfl (Nat.le_of_ble_eq_true rfl) ?_
  refine x_aload_n dX11_formula_17 rfl ?_
  refine x_geti (e := (v 47 0)) 0 flX11_159 dX11_formula_18 (sW47 hW) (gW47 hW) rfl rfl (Nat.le_of_ble_eq_true rfl) (tagn2 rfl) ?_
  obtain ⟨hi, F⟩ := F
  refine x_iald (e := (v 60 (v 47 0))) dX11_formula_21 (sW60 hW) (gW60 hW) hi rfl ?_
  obtain ⟨hi, F⟩ := F
  refine x_iast dX11_formula_22 (sW65 hW) (gW65 hW) hi ?_
  refine x_iconst dX11_formula_23 rfl (i32_of rfl) ?_
  refine x_istore_n [(2, 47), (0, a1), (0, 0), (3, 0), (3, 0)] dX11_formula_24 rfl (Nat.le_of_ble_eq_true rfl) ?_
  refine x_aload_n dX11_formula_25 rfl ?_
  refine x_getr (r' := 69) flX11_105 dX11_formula_26 (sW47 hW) (gW47 hW) (rW47_40 hW) rfl (Nat.le_of_ble_eq_true rfl) ?_
  refine x_iconst dX11_formula_29 rfl (i32_of rfl) ?_
  refine x_iconst dX11_formula_30 rfl (i32_of rfl) ?_
  refine x_iast dX11_formula_31 (sW69 hW) (gW69 hW) ⟨by decide, by decide⟩ ?_
  refine x_iconst dX11_formula_32 rfl (i32_of rfl) ?_
  refine x_istore_n [(2, 47), (0, a1), (0, 0), (0, 1), (3, 0)] dX11_formula_33 rfl (Nat.le_of_ble_eq_true rfl) ?_
  exact F

set_option maxRecDepth 100000 in
set_option maxHeartbeats 4000000 in
theorem bX11_formula_34 {d mc ms : Nat} {X : XX} {v : VV} {Q : QQ} (a1 : Int) (x2 : Int) (x3 : Int) (hd : 5 ≤ d) (hW : SW X) (F : i32 a1 → i32 x2 → i32 x3 → (((¬ (v 47 25) = 0) → Ex mX11_formula d 252 [(2, 47), (0, a1), (0, x2), (0, x3), (3, 0)] [] X v mc ms Q) ∧ (((v 47 25) = 0) → (((¬ x3 = 0) → Ex mX11_formula d 56 [(2, 47), (0, a1), (0, x2), (0, x3), (3, 0)] [] X v mc ms Q) ∧ ((x3 = 0) → (((0 < x2) → Ex mX11_formula d 56 [(2, 47), (0, a1), (0, x2), (0, x3), (3, 0)] [] X v mc ms Q) ∧ ((x2 ≤ 0) → ∃ P1 : Option AV → VV → Prop, Con mX11_isMore 0 0 0 [(2, 47)] X v (fun o X1 v1 => X1 = X ∧ P1 o v1) ∧ ∀ (r2 : Int) (w3 : VV), P1 (some (0, r2)) w3 → (((r2 = 0) → Ex mX11_formula d 252 [(2, 47), (0, a1), (0, x2), (0, x3), (3, 0)] [] X w3 mc ms Q) ∧ ((¬ r2 = 0) → Ex mX11_formula d 56 [(2, 47), (0, a1), (0, x2), (0, x3), (3, 0)] [] X w3 mc ms Q))))))))) : Ex mX11_formula d 34 [(2, 47), (0, a1), (0, x2), (0, x3), (3, 0)] [] X v mc ms Q := by
  refine x_li32 (i := 1) rfl (fun ha1 => ?_)
  have F := F ha1
  refine x_li32 (i := 2) rfl (fun hx2 => ?_)
  have F := F hx2
  refine x_li32 (i := 3) rfl (fun hx3 => ?_)
  have F := F hx3
  refine x_aload_n dX11_formula_34 rfl ?_
  refine x_geti (e := (v 47 25)) 0 flX11_169 dX11_formula_35 (sW47 hW) (gW47 hW) rfl rfl (Nat.le_of_ble_eq_true rfl) (tagn2 rfl) ?_
  refine x_if_ne 252 dX11_formula_38 rfl (fun hc => ?_) (fun hc => ?_)
  · have F := F.1 hc
    exact F
  · have F := F.2 hc
    refine x_iload_n dX11_formula_41 rfl ?_
    refine x_if_ne 56 dX11_formula_42 rfl (fun hc => ?_) (fun hc => ?_)
    · have F := F.1 hc
      exact F
    · have F := F.2 hc
      refine x_iload_n dX11_formula_45 rfl ?_
      refine x_if_gt 56 dX11_formula_46 rfl (fun hc => ?_) (fun hc => ?_)
      · have F := F.1 hc
        exact F
      · have F := F.2 hc
        refine x_aload_n dX11_formula_49 rfl ?_
        obtain ⟨P1, hC, F⟩ := F
        refine x_inv dY41_formula_50 mlY41_224 hC (sW47 hW) (Nat.le_of_ble_eq_true rfl) (gW47 hW) rfl rfl (by omega) (Nat.zero_le _) (Nat.zero_le _) (Nat.le_of_ble_eq_true rfl) (fun o1 Y4 w3 ht hP => ?_)
        obtain ⟨r2, rfl⟩ : ∃ i, o1 = some (0, i) := ht
        obtain ⟨rfl, hP⟩ := hP
        have F := F r2 w3 hP
        refine x_if_eq 252 dX11_formula_53 rfl (fun hc => ?_) (fun hc => ?_)
        · have F := F.1 hc
          exact F
        · have F := F.2 hc
          exact F

set_option maxRecDepth 100000 in
set_option maxHeartbeats 4000000 in
theorem bX11_formula_56 {d mc ms : Nat} {X : XX} {v : VV} {Q : QQ} (a1 : Int) (x2 : Int) (x3 : Int) (hd : 5 ≤ d) (hW : SW X) (F : i32 a1 → i32 x2 → i32 x3 → (((x3 = 0) → ∃ P5 : Option AV → VV → Prop, Con mX11_isMore 0 0 0 [(2, 47)] X v (fun o X1 v1 => X1 = X ∧ P5 o v1) ∧ ∀ (r6 : Int) (w7 : VV), P5 (some (0, r6)) w7 → (((r6 = 0) → ((((w7 47 29) = 41) → Ex mX11_formula d 235 [(2, 47), (0, a1), (0, x2), (0, x3), (3, 0)] [] X w7 mc ms Q) ∧ ((¬ (w7 47 29) = 41) → ∃ P9 : Option AV → VV → Prop, Con mX11_fail 0 0 0 [(2, 47), (0, 1), (0, (w7 47 30))] X w7 (fun o X1 v1 => X1 = X ∧ P9 o v1) ∧ ∀ (w11 : VV), P9 none w11 → Ex mX11_formula d 235 [(2, 47), (0, a1), (0, x2), (0, x3), (3, 0)] [] X w11 mc ms Q))) ∧ ((¬ r6 = 0) → (0 ≤ x2 ∧ x2 < 4) ∧ (i32 (w7 69 x2) → i32 ((w7 69 x2) + 1)) ∧ (0 ≤ x2 ∧ x2 < 4) ∧ (0 ≤ x2 ∧ x2 < 4) ∧ (((¬ ((w7 69 x2) + 1) = 6) → Ex mX11_formula d 201 [(2, 47), (0, a1), (0, x2), (0, x3), (3, 0)] [] X (upd2 w7 69 x2 ((w7 69 x2) + 1)) mc ms Q) ∧ ((((w7 69 x2) + 1) = 6) → ∃ P13 : Option AV → VV → Prop, Con mX11_fail 0 0 0 [(2, 47), (0, 1), (0, (w7 47 30))] X (upd2 w7 69 x2 ((w7 69 x2) + 1)) (fun o X1 v1 => X1 = X ∧ P13 o v1) ∧ ∀ (w15 : VV), P13 none w15 → Ex mX11_formula d 201 [(2, 47), (0, a1), (0, x2), (0, x3), (3, 0)] [] X w15 mc ms Q))))) ∧ ((¬ x3 = 0) → ∃ P17 : Option AV → VV → Prop, Con mX11_isWord 0 0 0 [(2, 47), (1, (v 47 38))] X v (fun o X1 v1 => X1 = X ∧ P17 o v1) ∧ ∀ (r18 : Int) (w19 : VV), P17 (some (0, r18)) w19 → (((¬ r18 = 0) → Ex mX11_formula d 82 [(2, 47), (0, a1), (0, x2), (0, x3), (3, 0)] [] X w19 mc ms Q) ∧ ((r18 = 0) → ∃ P21 : Option AV → VV → Prop, Con mX11_isWord 0 0 0 [(2, 47), (1, (w19 47 39))] X w19 (fun o X1 v1 => X1 = X ∧ P21 o v1) ∧ ∀ (r22 : Int) (w23 : VV), P21 (some (0, r22)) w23 → (((r22 = 0) → ∃ P25 : Option AV → VV → Prop, Con mX11_term 4 0 0 [(2, 47)] X w23 (fun o X1 v1 => X1 = X ∧ P25 o v1) ∧ ∀ (w27 : VV), P25 none w27 → Ex mX11_formula d 34 [(2, 47), (0, a1), (0, x2), (0, 0), (3, 0)] [] X w27 mc ms Q) ∧ ((¬ r22 = 0) → Ex mX11_formula d 82 [(2, 47), (0, a1), (0, x2), (0, x3), (3, 0)] [] X w23 mc ms Q))))))) : Ex mX11_formula d 56 [(2, 47), (0, a1), (0, x2), (0, x3), (3, 0)] [] X v mc ms Q := by
  refine x_li32 (i := 1) rfl (fun ha1 => ?_)
  have F := F ha1
  refine x_li32 (i := 2) rfl (fun hx2 => ?_)
  have F := F hx2
  refine x_li32 (i := 3) rfl (fun hx3 => ?_)
  have F := F hx3
  refine x_iload_n dX11_formula_56 rfl ?_
  refine x_if_eq 164 dX11_formula_57 rfl (fun hc => ?_) (fun hc => ?_)
  · have F := F.1 hc
    refine x_aload_n dX11_formula_164 rfl ?_
    obtain ⟨P5, hC, F⟩ := F
    refine x_inv dY81_formula_165 mlY81_224 hC (sW47 hW) (Nat.le_of_ble_eq_true rfl) (gW47 hW) rfl rfl (by omega) (Nat.zero_le _) (Nat.zero_le _) (Nat.le_of_ble_eq_true rfl) (fun o1 Y8 w7 ht hP => ?_)
    obtain ⟨r6, rfl⟩ : ∃ i, o1 = some (0, i) := ht
    obtain ⟨rfl, hP⟩ := hP
    have F := F r6 w7 hP
    refine x_if_eq 217 dX11_formula_168 rfl (fun hc => ?_) (fun hc => ?_)
    · have F := F.1 hc
      refine x_aload_n dX11_formula_217 rfl ?_
      refine x_geti (e := (w7 47 29)) 0 flX11_197 dX11_formula_218 (sW47 hW) (gW47 hW) rfl rfl (Nat.le_of_ble_eq_true rfl) (tagn2 rfl) ?_
      refine x_bipush dX11_formula_221 kb_41 (i32_of rfl) ?_
      refine x_icmp_eq 235 dX11_formula_223 rfl (fun hc => ?_) (fun hc => ?_)
      · have F := F.1 hc
        exact F
      · have F := F.2 hc
        refine x_aload_n dX11_formula_226 rfl ?_
        refine x_iconst dX11_formula_227 rfl (i32_of rfl) ?_
        refine x_aload_n dX11_formula_228 rfl ?_
        refine x_geti (e := (w7 47 30)) 0 flX11_188 dX11_formula_229 (sW47 hW) (gW47 hW) rfl rfl (Nat.le_of_ble_eq_true rfl) (tagn2 rfl) ?_
        obtain ⟨P9, hC, F⟩ := F
        refine x_inv dY121_formula_232 mlY121_216 hC (sW47 hW) (Nat.le_of_ble_eq_true rfl) (gW47 hW) rfl rfl (by omega) (Nat.zero_le _) (Nat.zero_le _) (Nat.le_of_ble_eq_true rfl) (fun o1 Y12 w11 ht hP => ?_)
        obtain rfl : o1 = none := ht
        obtain ⟨rfl, hP⟩ := hP
        have F := F w11 hP
        exact F
    · have F := F.2 hc
      refine x_aload_n dX11_formula_171 rfl ?_
      refine x_getr (r' := 69) flX11_105 dX11_formula_172 (sW47 hW) (gW47 hW) (rW47_40 hW) rfl (Nat.le_of_ble_eq_true rfl) ?_
      refine x_iload_n dX11_formula_175 rfl ?_
      refine x_dup2 dX11_formula_176 (tag1 rfl) (tag1 rfl) ?_
      obtain ⟨hi, F⟩ := F
      refine x_iald (e := (w7 69 x2)) dX11_formula_177 (sW69 hW) (gW69 hW) hi rfl ?_
      refine x_iconst dX11_formula_178 rfl (i32_of rfl) ?_
      refine x_si32 (i := 1) rfl (fun hk1 => ?_)
      obtain ⟨hz, F⟩ := F
      have hz := hz hk1
      refine x_iadd dX11_formula_179 hz ?_
      obtain ⟨hi, F⟩ := F
      refine x_iast dX11_formula_180 (sW69 hW) (gW69 hW) hi ?_
      refine x_aload_n dX11_formula_181 rfl ?_
      refine x_getr (r' := 69) flX11_105 dX11_formula_182 (sW47 hW) (gW47 hW) (rW47_40 hW) rfl (Nat.le_of_ble_eq_true rfl) ?_
      refine x_iload_n dX11_formula_185 rfl ?_
      obtain ⟨hi, F⟩ := F
      refine x_iald (e := ((w7 69 x2) + 1)) dX11_formula_186 (sW69 hW) (gW69 hW) hi rfl ?_
      refine x_bipush dX11_formula_187 kb_6 (i32_of rfl) ?_
      refine x_icmp_ne 201 dX11_formula_189 rfl (fun hc => ?_) (fun hc => ?_)
      · have F := F.1 hc
        exact F
      · have F := F.2 hc
        refine x_aload_n dX11_formula_192 rfl ?_
        refine x_iconst dX11_formula_193 rfl (i32_of rfl) ?_
        refine x_aload_n dX11_formula_194 rfl ?_
        refine x_geti (e := (w7 47 30)) 0 flX11_188 dX11_formula_195 (sW47 hW) (gW47 hW) rfl rfl (Nat.le_of_ble_eq_true rfl) (tagn2 rfl) ?_
        obtain ⟨P13, hC, F⟩ := F
        refine x_inv dY161_formula_198 mlY161_216 hC (sW47 hW) (Nat.le_of_ble_eq_true rfl) (gW47 hW) rfl rfl (by omega) (Nat.zero_le _) (Nat.zero_le _) (Nat.le_of_ble_eq_true rfl) (fun o1 Y16 w15 ht hP => ?_)
        obtain rfl : o1 = none := ht
        obtain ⟨rfl, hP⟩ := hP
        have F := F w15 hP
        exact F
  · have F := F.2 hc
    refine x_aload_n dX11_formula_60 rfl ?_
    refine x_aload_n dX11_formula_61 rfl ?_
    refine x_geti (e := (v 47 38)) 1 flX11_99 dX11_formula_62 (sW47 hW) (gW47 hW) rfl rfl (Nat.le_of_ble_eq_true rfl) (tagn2 rfl) ?_
    obtain ⟨P17, hC, F⟩ := F
    refine x_inv dY201_formula_65 mlY201_227 hC (sW47 hW) (Nat.le_of_ble_eq_true rfl) (gW47 hW) rfl rfl (by omega) (Nat.zero_le _) (Nat.zero_le _) (Nat.le_of_ble_eq_true rfl) (fun o1 Y20 w19 ht hP => ?_)
    obtain ⟨r18, rfl⟩ : ∃ i, o1 = some (0, i) := ht
    obtain ⟨rfl, hP⟩ := hP
    have F := F r18 w19 hP
    refine x_if_ne 82 dX11_formula_68 rfl (fun hc => ?_) (fun hc => ?_)
    · have F := F.1 hc
      exact F
    · have F := F.2 hc
      refine x_aload_n dX11_formula_71 rfl ?_
      refine x_aload_n dX11_formula_72 rfl ?_
      refine x_geti (e := (w19 47 39)) 1 flX11_102 dX11_formula_73 (sW47 hW) (gW47 hW) rfl rfl (Nat.le_of_ble_eq_true rfl) (tagn2 rfl) ?_
      obtain ⟨P21, hC, F⟩ := F
      refine x_inv dY241_formula_76 mlY241_227 hC (sW47 hW) (Nat.le_of_ble_eq_true rfl) (gW47 hW) rfl rfl (by omega) (Nat.zero_le _) (Nat.zero_le _) (Nat.le_of_ble_eq_true rfl) (fun o1 Y24 w23 ht hP => ?_)
      obtain ⟨r22, rfl⟩ : ∃ i, o1 = some (0, i) := ht
      obtain ⟨rfl, hP⟩ := hP
      have F := F r22 w23 hP
      refine x_if_eq 86 dX11_formula_79 rfl (fun hc => ?_) (fun hc => ?_)
      · have F := F.1 hc
        refine x_iconst dX11_formula_86 rfl (i32_of rfl) ?_
        refine x_istore [(2, 47), (0, a1), (0, x2), (0, x3), (0, 0)] dX11_formula_87 rfl (Nat.le_of_ble_eq_true rfl) ?_
        refine x_iload dX11_formula_89 rfl ?_
        refine x_if_eq 155 dX11_formula_91 rfl (fun _ => ?_) (fun hc => absurd hc (by decide))
        refine x_aload_n dX11_formula_155 rfl ?_
        obtain ⟨P25, hC, F⟩ := F
        refine x_inv dY281_formula_156 mlY281_235 hC (sW47 hW) (Nat.le_of_ble_eq_true rfl) (gW47 hW) rfl rfl (by omega) (Nat.zero_le _) (Nat.zero_le _) (Nat.le_of_ble_eq_true rfl) (fun o1 Y28 w27 ht hP => ?_)
        obtain rfl : o1 = none := ht
        obtain ⟨rfl, hP⟩ := hP
        have F := F w27 hP
        refine x_iconst dX11_formula_159 rfl (i32_of rfl) ?_
        refine x_istore_n [(2, 47), (0, a1), (0, x2), (0, 0), (0, 0)] dX11_formula_160 rfl (Nat.le_of_ble_eq_true rfl) ?_
        refine x_goto 34 dX11_formula_161 rfl ?_
        exact x_less [(2, 47), (0, a1), (0, x2), (0, 0), (3, 0)] ⟨Or.inr rfl, ⟨Or.inr rfl, ⟨Or.inr rfl, ⟨Or.inr rfl, ⟨Or.inl rfl, trivial⟩⟩⟩⟩⟩ F
      · have F := F.2 hc
        exact F

set_option maxRecDepth 100000 in
set_option maxHeartbeats 4000000 in
theorem bX11_formula_82 {d mc ms : Nat} {X : XX} {v : VV} {Q : QQ} (a1 : Int) (x2 : Int) (x3 : Int) (hd : 5 ≤ d) (hW : SW X) (F : i32 a1 → i32 x2 → i32 x3 → ∃ P29 : Option AV → VV → Prop, Con mX11_keeps 2 0 0 [(2, 47)] X v (fun o X1 v1 => X1 = X ∧ P29 o v1) ∧ ∀ (w31 : VV), P29 none w31 → (((¬ (w31 47 29) = 40) → Ex mX11_formula d 121 [(2, 47), (0, a1), (0, x2), (0, x3), (0, 1)] [] X w31 mc ms Q) ∧ (((w31 47 29) = 40) → (((¬ x2 = 3) → Ex mX11_formula d 121 [(2, 47), (0, a1), (0, x2), (0, x3), (0, 1)] [] X w31 mc ms Q) ∧ ((x2 = 3) → ∃ P33 : Option AV → VV → Prop, Con mX11_fail 0 0 0 [(2, 47), (0, 1), (0, (w31 47 30))] X w31 (fun o X1 v1 => X1 = X ∧ P33 o v1) ∧ ∀ (w35 : VV), P33 none w35 → Ex mX11_formula d 121 [(2, 47), (0, a1), (0, x2), (0, x3), (0, 1)] [] X w35 mc ms Q))))) : Ex mX11_formula d 82 [(2, 47), (0, a1), (0, x2), (0, x3), (3, 0)] [] X v mc ms Q := by
  refine x_li32 (i := 1) rfl (fun ha1 => ?_)
  have F := F ha1
  refine x_li32 (i := 2) rfl (fun hx2 => ?_)
  have F := F hx2
  refine x_li32 (i := 3) rfl (fun hx3 => ?_)
  have F := F hx3
  refine x_iconst dX11_formula_82 rfl (i32_of rfl) ?_
  refine x_goto 87 dX11_formula_83 rfl ?_
  refine x_istore [(2, 47), (0, a1), (0, x2), (0, x3), (0, 1)] dX11_formula_87 rfl (Nat.le_of_ble_eq_true rfl) ?_
  refine x_iload dX11_formula_89 rfl ?_
  refine x_if_eq 155 dX11_formula_91 rfl (fun hc => absurd hc (by decide)) (fun _ => ?_)
  refine x_aload_n dX11_formula_94 rfl ?_
  obtain ⟨P29, hC, F⟩ := F
  refine x_inv dY321_formula_95 mlY321_213 hC (sW47 hW) (Nat.le_of_ble_eq_true rfl) (gW47 hW) rfl rfl (by omega) (Nat.zero_le _) (Nat.zero_le _) (Nat.le_of_ble_eq_true rfl) (fun o1 Y32 w31 ht hP => ?_)
  obtain rfl : o1 = none := ht
  obtain ⟨rfl, hP⟩ := hP
  have F := F w31 hP
  refine x_aload_n dX11_formula_98 rfl ?_
  refine x_geti (e := (w31 47 29)) 0 flX11_197 dX11_formula_99 (sW47 hW) (gW47 hW) rfl rfl (Nat.le_of_ble_eq_true rfl) (tagn2 rfl) ?_
  refine x_bipush dX11_formula_102 kb_40 (i32_of rfl) ?_
  refine x_icmp_ne 121 dX11_formula_104 rfl (fun hc => ?_) (fun hc => ?_)
  · have F := F.1 hc
    exact F
  · have F := F.2 hc
    refine x_iload_n dX11_formula_107 rfl ?_
    refine x_iconst dX11_formula_108 rfl (i32_of rfl) ?_
    refine x_icmp_ne 121 dX11_formula_109 rfl (fun hc => ?_) (fun hc => ?_)
    · have F := F.1 hc
      exact F
    · have F := F.2 hc
      refine x_aload_n dX11_formula_112 rfl ?_
      refine x_iconst dX11_formula_113 rfl (i32_of rfl) ?_
      refine x_aload_n dX11_formula_114 rfl ?_
      refine x_geti (e := (w31 47 30)) 0 flX11_188 dX11_formula_115 (sW47 hW) (gW47 hW) rfl rfl (Nat.le_of_ble_eq_true rfl) (tagn2 rfl) ?_
      obtain ⟨P33, hC, F⟩ := F
      refine x_inv dY361_formula_118 mlY361_216 hC (sW47 hW) (Nat.le_of_ble_eq_true rfl) (gW47 hW) rfl rfl (by omega) (Nat.zero_le _) (Nat.zero_le _) (Nat.le_of_ble_eq_true rfl) (fun o1 Y36 w35 ht hP => ?_)
      obtain rfl : o1 = none := ht
      obtain ⟨rfl, hP⟩ := hP
      have F := F w35 hP
      exact F

set_option maxRecDepth 100000 in
set_option maxHeartbeats 4000000 in
theorem bX11_formula_121 {d mc ms : Nat} {X : XX} {v : VV} {Q : QQ} (a1 : Int) (x2 : Int) (x3 : Int) (x4 : Int) (hd : 5 ≤ d) (hW : SW X) (F : i32 a1 → i32 x2 → i32 x3 → i32 x4 → (((¬ (v 47 25) = 0) → Ex mX11_formula d 134 [(2, 47), (0, a1), (0, x2), (0, x3), (0, x4)] [] X v mc ms Q) ∧ (((v 47 25) = 0) → ∃ P37 : Option AV → VV → Prop, Con mX11_sign 3 0 0 [(2, 47), (0, 40)] X v (fun o X1 v1 => X1 = X ∧ P37 o v1) ∧ ∀ (w39 : VV), P37 none w39 → Ex mX11_formula d 134 [(2, 47), (0, a1), (0, x2), (0, x3), (0, x4)] [] X w39 mc ms Q))) : Ex mX11_formula d 121 [(2, 47), (0, a1), (0, x2), (0, x3), (0, x4)] [] X v mc ms Q := by
  refine x_li32 (i := 1) rfl (fun ha1 => ?_)
  have F := F ha1
  refine x_li32 (i := 2) rfl (fun hx2 => ?_)
  have F := F hx2
  refine x_li32 (i := 3) rfl (fun hx3 => ?_)
  have F := F hx3
  refine x_li32 (i := 4) rfl (fun hx4 => ?_)
  have F := F hx4
  refine x_aload_n dX11_formula_121 rfl ?_
  refine x_geti (e := (v 47 25)) 0 flX11_169 dX11_formula_122 (sW47 hW) (gW47 hW) rfl rfl (Nat.le_of_ble_eq_true rfl) (tagn2 rfl) ?_
  refine x_if_ne 134 dX11_formula_125 rfl (fun hc => ?_) (fun hc => ?_)
  · have F := F.1 hc
    exact F
  · have F := F.2 hc
    refine x_aload_n dX11_formula_128 rfl ?_
    refine x_bipush dX11_formula_129 kb_40 (i32_of rfl) ?_
    obtain ⟨P37, hC, F⟩ := F
    refine x_inv dY401_formula_131 mlY401_231 hC (sW47 hW) (Nat.le_of_ble_eq_true rfl) (gW47 hW) rfl rfl (by omega) (Nat.zero_le _) (Nat.zero_le _) (Nat.le_of_ble_eq_true rfl) (fun o1 Y40 w39 ht hP => ?_)
    obtain rfl : o1 = none := ht
    obtain ⟨rfl, hP⟩ := hP
    have F := F w39 hP
    exact F

set_option maxRecDepth 100000 in
set_option maxHeartbeats 4000000 in
theorem bX11_formula_134 {d mc ms : Nat} {X : XX} {v : VV} {Q : QQ} (a1 : Int) (x2 : Int) (x3 : Int) (x4 : Int) (hd : 5 ≤ d) (hW : SW X) (F : i32 a1 → i32 x2 → i32 x3 → i32 x4 → ((((v 47 25) = 0) → i32 (x2 + 1) ∧ (0 ≤ (x2 + 1) ∧ (x2 + 1) < 4) ∧ Ex mX11_formula d 34 [(2, 47), (0, a1), (0, (x2 + 1)), (0, x3), (3, 0)] [] X (upd2 v 69 (x2 + 1) 0) mc ms Q) ∧ ((¬ (v 47 25) = 0) → Q none X v))) : Ex mX11_formula d 134 [(2, 47), (0, a1), (0, x2), (0, x3), (0, x4)] [] X v mc ms Q := by
  refine x_li32 (i := 1) rfl (fun ha1 => ?_)
  have F := F ha1
  refine x_li32 (i := 2) rfl (fun hx2 => ?_)
  have F := F hx2
  refine x_li32 (i := 3) rfl (fun hx3 => ?_)
  have F := F hx3
  refine x_li32 (i := 4) rfl (fun hx4 => ?_)
  have F := F hx4
  refine x_aload_n dX11_formula_134 rfl ?_
  refine x_geti (e := (v 47 25)) 0 flX11_169 dX11_formula_135 (sW47 hW) (gW47 hW) rfl rfl (Nat.le_of_ble_eq_true rfl) (tagn2 rfl) ?_
  refine x_if_eq 142 dX11_formula_138 rfl (fun hc => ?_) (fun hc => ?_)
  · have F := F.1 hc
    obtain ⟨hz, F⟩ := F
    refine x_iinc [(2, 47), (0, a1), (0, (x2 + 1)), (0, x3), (0, x4)] dX11_formula_142 rfl rfl (Nat.le_of_ble_eq_true rfl) hz ?_
    refine x_aload_n dX11_formula_145 rfl ?_
    refine x_getr (r' := 69) flX11_105 dX11_formula_146 (sW47 hW) (gW47 hW) (rW47_40 hW) rfl (Nat.le_of_ble_eq_true rfl) ?_
    refine x_iload_n dX11_formula_149 rfl ?_
    refine x_iconst dX11_formula_150 rfl (i32_of rfl) ?_
    obtain ⟨hi, F⟩ := F
    refine x_iast dX11_formula_151 (sW69 hW) (gW69 hW) hi ?_
    refine x_goto 34 dX11_formula_152 rfl ?_
    exact x_less [(2, 47), (0, a1), (0, (x2 + 1)), (0, x3), (3, 0)] ⟨Or.inr rfl, ⟨Or.inr rfl, ⟨Or.inr rfl, ⟨Or.inr rfl, ⟨Or.inl rfl, trivial⟩⟩⟩⟩⟩ F
  · have F := F.2 hc
    exact x_ret none rfl ⟨dX11_formula_141, rfl⟩ F

set_option maxRecDepth 100000 in
set_option maxHeartbeats 4000000 in
theorem bX11_formula_201 {d mc ms : Nat} {X : XX} {v : VV} {Q : QQ} (a1 : Int) (x2 : Int) (x3 : Int) (hd : 5 ≤ d) (hW : SW X) (F : i32 a1 → i32 x2 → i32 x3 → (((¬ (v 47 25) = 0) → Ex mX11_formula d 34 [(2, 47), (0, a1), (0, x2), (0, 1), (3, 0)] [] X v mc ms Q) ∧ (((v 47 25) = 0) → ∃ P41 : Option AV → VV → Prop, Con mX11_keeps 2 0 0 [(2, 47)] X v (fun o X1 v1 => X1 = X ∧ P41 o v1) ∧ ∀ (w43 : VV), P41 none w43 → Ex mX11_formula d 34 [(2, 47), (0, a1), (0, x2), (0, 1), (3, 0)] [] X w43 mc ms Q))) : Ex mX11_formula d 201 [(2, 47), (0, a1), (0, x2), (0, x3), (3, 0)] [] X v mc ms Q := by
  refine x_li32 (i := 1) rfl (fun ha1 => ?_)
  have F := F ha1
  refine x_li32 (i := 2) rfl (fun hx2 => ?_)
  have F := F hx2
  refine x_li32 (i := 3) rfl (fun hx3 => ?_)
  have F := F hx3
  refine x_aload_n dX11_formula_201 rfl ?_
  refine x_geti (e := (v 47 25)) 0 flX11_169 dX11_formula_202 (sW47 hW) (gW47 hW) rfl rfl (Nat.le_of_ble_eq_true rfl) (tagn2 rfl) ?_
  refine x_if_ne 212 dX11_formula_205 rfl (fun hc => ?_) (fun hc => ?_)
  · have F := F.1 hc
    refine x_iconst dX11_formula_212 rfl (i32_of rfl) ?_
    refine x_istore_n [(2, 47), (0, a1), (0, x2), (0, 1), (3, 0)] dX11_formula_213 rfl (Nat.le_of_ble_eq_true rfl) ?_
    refine x_goto 34 dX11_formula_214 rfl ?_
    exact F
  · have F := F.2 hc
    refine x_aload_n dX11_formula_208 rfl ?_
    obtain ⟨P41, hC, F⟩ := F
    refine x_inv dY441_formula_209 mlY441_213 hC (sW47 hW) (Nat.le_of_ble_eq_true rfl) (gW47 hW) rfl rfl (by omega) (Nat.zero_le _) (Nat.zero_le _) (Nat.le_of_ble_eq_true rfl) (fun o1 Y44 w43 ht hP => ?_)
    obtain rfl : o1 = none := ht
    obtain ⟨rfl, hP⟩ := hP
    have F := F w43 hP
    refine x_iconst dX11_formula_212 rfl (i32_of rfl) ?_
    refine x_istore_n [(2, 47), (0, a1), (0, x2), (0, 1), (3, 0)] dX11_formula_213 rfl (Nat.le_of_ble_eq_true rfl) ?_
    refine x_goto 34 dX11_formula_214 rfl ?_
    exact F

set_option maxRecDepth 100000 in
set_option maxHeartbeats 4000000 in
theorem bX11_formula_235 {d mc ms : Nat} {X : XX} {v : VV} {Q : QQ} (a1 : Int) (x2 : Int) (x3 : Int) (hd : 5 ≤ d) (hW : SW X) (F : i32 a1 → i32 x2 → i32 x3 → (((¬ (v 47 25) = 0) → i32 (x2 + (-1)) ∧ Ex mX11_formula d 34 [(2, 47), (0, a1), (0, (x2 + (-1))), (0, x3), (3, 0)] [] X v mc ms Q) ∧ (((v 47 25) = 0) → ∃ P45 : Option AV → VV → Prop, Con mX11_keeps 2 0 0 [(2, 47)] X v (fun o X1 v1 => X1 = X ∧ P45 o v1) ∧ ∀ (w47 : VV), P45 none w47 → i32 (x2 + (-1)) ∧ Ex mX11_formula d 34 [(2, 47), (0, a1), (0, (x2 + (-1))), (0, x3), (3, 0)] [] X w47 mc ms Q))) : Ex mX11_formula d 235 [(2, 47), (0, a1), (0, x2), (0, x3), (3, 0)] [] X v mc ms Q := by
  refine x_li32 (i := 1) rfl (fun ha1 => ?_)
  have F := F ha1
  refine x_li32 (i := 2) rfl (fun hx2 => ?_)
  have F := F hx2
  refine x_li32 (i := 3) rfl (fun hx3 => ?_)
  have F := F hx3
  refine x_aload_n dX11_formula_235 rfl ?_
  refine x_geti (e := (v 47 25)) 0 flX11_169 dX11_formula_236 (sW47 hW) (gW47 hW) rfl rfl (Nat.le_of_ble_eq_true rfl) (tagn2 rfl) ?_
  refine x_if_ne 246 dX11_formula_239 rfl (fun hc => ?_) (fun hc => ?_)
  · have F := F.1 hc
    obtain ⟨hz, F⟩ := F
    refine x_iinc [(2, 47), (0, a1), (0, (x2 + (-1))), (0, x3), (3, 0)] dX11_formula_246 rfl rfl (Nat.le_of_ble_eq_true rfl) hz ?_
    refine x_goto 34 dX11_formula_249 rfl ?_
    exact F
  · have F := F.2 hc
    refine x_aload_n dX11_formula_242 rfl ?_
    obtain ⟨P45, hC, F⟩ := F
    refine x_inv dY481_formula_243 mlY481_213 hC (sW47 hW) (Nat.le_of_ble_eq_true rfl) (gW47 hW) rfl rfl (by omega) (Nat.zero_le _) (Nat.zero_le _) (Nat.le_of_ble_eq_true rfl) (fun o1 Y48 w47 ht hP => ?_)
    obtain rfl : o1 = none := ht
    obtain ⟨rfl, hP⟩ := hP
    have F := F w47 hP
    obtain ⟨hz, F⟩ := F
    refine x_iinc [(2, 47), (0, a1), (0, (x2 + (-1))), (0, x3), (3, 0)] dX11_formula_246 rfl rfl (Nat.le_of_ble_eq_true rfl) hz ?_
    refine x_goto 34 dX11_formula_249 rfl ?_
    exact F

set_option maxRecDepth 100000 in
set_option maxHeartbeats 4000000 in
theorem bX11_formula_252 {d mc ms : Nat} {X : XX} {v : VV} {Q : QQ} (a1 : Int) (x2 : Int) (x3 : Int) (hd : 5 ≤ d) (hW : SW X) (F : i32 a1 → i32 x2 → i32 x3 → (i32 (v 47 0) → i32 (8 * (v 47 0))) ∧ (i32 (8 * (v 47 0)) → i32 ((8 * (v 47 0)) + a1)) ∧ (0 ≤ (v 47 0) ∧ (v 47 0) < 17) ∧ (0 ≤ ((8 * (v 47 0)) + a1) ∧ ((8 * (v 47 0)) + a1) < 136) ∧ Q none X (upd2 v 66 ((8 * (v 47 0)) + a1) (v 60 (v 47 0)))) : Ex mX11_formula d 252 [(2, 47), (0, a1), (0, x2), (0, x3), (3, 0)] [] X v mc ms Q := by
  refine x_li32 (i := 1) rfl (fun ha1 => ?_)
  have F := F ha1
  refine x_li32 (i := 2) rfl (fun hx2 => ?_)
  have F := F hx2
  refine x_li32 (i := 3) rfl (fun hx3 => ?_)
  have F := F hx3
  refine x_aload_n dX11_formula_252 rfl ?_
  refine x_getr (r' := 66) flX11_66 dX11_formula_253 (sW47 hW) (gW47 hW) (rW47_19 hW) rfl (Nat.le_of_ble_eq_true rfl) ?_
  refine x_bipush dX11_formula_256 kb_8 (i32_of rfl) ?_
  refine x_aload_n dX11_formula_258 rfl ?_
  refine x_geti (e := (v 47 0)) 0 flX11_159 dX11_formula_259 (sW47 hW) (gW47 hW) rfl rfl (Nat.le_of_ble_eq_true rfl) (tagn2 rfl) ?_
  refine x_si32 (i := 0) rfl (fun hk0 => ?_)
  obtain ⟨hz, F⟩ := F
  have hz := hz hk0
  refine x_imul dX11_formula_262 hz ?_
  refine x_iload_n dX11_formula_263 rfl ?_
  refine x_si32 (i := 1) rfl (fun hk1 => ?_)
  obtain ⟨hz, F⟩ := F
  have hz := hz hk1
  refine x_iadd dX11_formula_264 hz ?_
  refine x_aload_n dX11_formula_265 rfl ?_
  refine x_getr (r' := 60) flX11_48 dX11_formula_266 (sW47 hW) (gW47 hW) (rW47_13 hW) rfl (Nat.le_of_ble_eq_true rfl) ?_
  refine x_aload_n dX11_formula_269 rfl ?_
  refine x_geti (e := (v 47 0)) 0 flX11_159 dX11_formula_270 (sW47 hW) (gW47 hW) rfl rfl (Nat.le_of_ble_eq_true rfl) (tagn2 rfl) ?_
  obtain ⟨hi, F⟩ := F
  refine x_iald (e := (v 60 (v 47 0))) dX11_formula_273 (sW60 hW) (gW60 hW) hi rfl ?_
  obtain ⟨hi, F⟩ := F
  refine x_iast dX11_formula_274 (sW66 hW) (gW66 hW) hi ?_
  exact x_ret none rfl ⟨dX11_formula_275, rfl⟩ F

set_option maxRecDepth 100000 in
set_option maxHeartbeats 4000000 in
theorem bX11_isMore_0 {d mc ms : Nat} {X : XX} {v : VV} {Q : QQ} (hd : 0 ≤ d) (hW : SW X) (F : ((((v 47 29) = 43) → Q (some (0, 1)) X v) ∧ ((¬ (v 47 29) = 43) → ((((v 47 29) = 45) → Q (some (0, 1)) X v) ∧ ((¬ (v 47 29) = 45) → (((¬ (v 47 29) = 38) → Q (some (0, 0)) X v) ∧ (((v 47 29) = 38) → Q (some (0, 1)) X v))))))) : Ex mX11_isMore d 0 [(2, 47)] [] X v mc ms Q := by
  refine x_aload_n dX11_isMore_0 rfl ?_
  refine x_geti (e := (v 47 29)) 0 flX11_197 dX11_isMore_1 (sW47 hW) (gW47 hW) rfl rfl (Nat.le_of_ble_eq_true rfl) (tagn2 rfl) ?_
  refine x_bipush dX11_isMore_4 kb_43 (i32_of rfl) ?_
  refine x_icmp_eq 27 dX11_isMore_6 rfl (fun hc => ?_) (fun hc => ?_)
  · have F := F.1 hc
    refine x_iconst dX11_isMore_27 rfl (i32_of rfl) ?_
    refine x_goto 32 dX11_isMore_28 rfl ?_
    exact x_ret (some (0, 1)) rfl ⟨dX11_isMore_32, Or.inr ⟨rfl, Or.inr rfl⟩⟩ F
  · have F := F.2 hc
    refine x_aload_n dX11_isMore_9 rfl ?_
    refine x_geti (e := (v 47 29)) 0 flX11_197 dX11_isMore_10 (sW47 hW) (gW47 hW) rfl rfl (Nat.le_of_ble_eq_true rfl) (tagn2 rfl) ?_
    refine x_bipush dX11_isMore_13 kb_45 (i32_of rfl) ?_
    refine x_icmp_eq 27 dX11_isMore_15 rfl (fun hc => ?_) (fun hc => ?_)
    · have F := F.1 hc
      refine x_iconst dX11_isMore_27 rfl (i32_of rfl) ?_
      refine x_goto 32 dX11_isMore_28 rfl ?_
      exact x_ret (some (0, 1)) rfl ⟨dX11_isMore_32, Or.inr ⟨rfl, Or.inr rfl⟩⟩ F
    · have F := F.2 hc
      refine x_aload_n dX11_isMore_18 rfl ?_
      refine x_geti (e := (v 47 29)) 0 flX11_197 dX11_isMore_19 (sW47 hW) (gW47 hW) rfl rfl (Nat.le_of_ble_eq_true rfl) (tagn2 rfl) ?_
      refine x_bipush dX11_isMore_22 kb_38 (i32_of rfl) ?_
      refine x_icmp_ne 31 dX11_isMore_24 rfl (fun hc => ?_) (fun hc => ?_)
      · have F := F.1 hc
        refine x_iconst dX11_isMore_31 rfl (i32_of rfl) ?_
        exact x_ret (some (0, 0)) rfl ⟨dX11_isMore_32, Or.inr ⟨rfl, Or.inl rfl⟩⟩ F
      · have F := F.2 hc
        refine x_iconst dX11_isMore_27 rfl (i32_of rfl) ?_
        refine x_goto 32 dX11_isMore_28 rfl ?_
        exact x_ret (some (0, 1)) rfl ⟨dX11_isMore_32, Or.inr ⟨rfl, Or.inr rfl⟩⟩ F

set_option maxRecDepth 100000 in
set_option maxHeartbeats 4000000 in
theorem bX11_term_0 {d mc ms : Nat} {X : XX} {v : VV} {Q : QQ} (hd : 4 ≤ d) (hW : SW X) (F : (((¬ (v 47 29) = 2) → (((¬ (v 47 29) = 3) → ∃ P1 : Option AV → VV → Prop, Con mX11_name 3 0 0 [(2, 47)] X v (fun o X1 v1 => X1 = X ∧ P1 o v1) ∧ ∀ (w3 : VV), P1 none w3 → (((¬ (w3 47 25) = 0) → Ex mX11_term d 165 [(2, 47)] [] X w3 mc ms Q) ∧ (((w3 47 25) = 0) → ∃ P5 : Option AV → VV → Prop, Con mX11_sign 3 0 0 [(2, 47), (0, 46)] X w3 (fun o X1 v1 => X1 = X ∧ P5 o v1) ∧ ∀ (w7 : VV), P5 none w7 → Ex mX11_term d 165 [(2, 47)] [] X w7 mc ms Q))) ∧ (((v 47 29) = 3) → Ex mX11_term d 43 [(2, 47)] [] X v mc ms Q))) ∧ (((v 47 29) = 2) → ((((v 47 31) = (-1)) → ∃ P9 : Option AV → VV → Prop, Con mX11_keeps 2 0 0 [(2, 47)] X v (fun o X1 v1 => X1 = X ∧ P9 o v1) ∧ ∀ (w11 : VV), P9 none w11 → Q none X w11) ∧ ((¬ (v 47 31) = (-1)) → ∃ P13 : Option AV → VV → Prop, Con mX11_fail 0 0 0 [(2, 47), (0, 1), (0, (v 47 31))] X v (fun o X1 v1 => X1 = X ∧ P13 o v1) ∧ ∀ (w15 : VV), P13 none w15 → Q none X w15))))) : Ex mX11_term d 0 [(2, 47)] [] X v mc ms Q := by
  refine x_aload_n dX11_term_0 rfl ?_
  refine x_geti (e := (v 47 29)) 0 flX11_197 dX11_term_1 (sW47 hW) (gW47 hW) rfl rfl (Nat.le_of_ble_eq_true rfl) (tagn2 rfl) ?_
  refine x_iconst dX11_term_4 rfl (i32_of rfl) ?_
  refine x_icmp_ne 35 dX11_term_5 rfl (fun hc => ?_) (fun hc => ?_)
  · have F := F.1 hc
    refine x_aload_n dX11_term_35 rfl ?_
    refine x_geti (e := (v 47 29)) 0 flX11_197 dX11_term_36 (sW47 hW) (gW47 hW) rfl rfl (Nat.le_of_ble_eq_true rfl) (tagn2 rfl) ?_
    refine x_iconst dX11_term_39 rfl (i32_of rfl) ?_
    refine x_icmp_ne 148 dX11_term_40 rfl (fun hc => ?_) (fun hc => ?_)
    · have F := F.1 hc
      refine x_aload_n dX11_term_148 rfl ?_
      obtain ⟨P1, hC, F⟩ := F
      refine x_inv dY41_term_149 mlY41_238 hC (sW47 hW) (Nat.le_of_ble_eq_true rfl) (gW47 hW) rfl rfl (by omega) (Nat.zero_le _) (Nat.zero_le _) (Nat.le_of_ble_eq_true rfl) (fun o1 Y4 w3 ht hP => ?_)
      obtain rfl : o1 = none := ht
      obtain ⟨rfl, hP⟩ := hP
      have F := F w3 hP
      refine x_aload_n dX11_term_152 rfl ?_
      refine x_geti (e := (w3 47 25)) 0 flX11_169 dX11_term_153 (sW47 hW) (gW47 hW) rfl rfl (Nat.le_of_ble_eq_true rfl) (tagn2 rfl) ?_
      refine x_if_ne 165 dX11_term_156 rfl (fun hc => ?_) (fun hc => ?_)
      · have F := F.1 hc
        exact F
      · have F := F.2 hc
        refine x_aload_n dX11_term_159 rfl ?_
        refine x_bipush dX11_term_160 kb_46 (i32_of rfl) ?_
        obtain ⟨P5, hC, F⟩ := F
        refine x_inv dY81_term_162 mlY81_231 hC (sW47 hW) (Nat.le_of_ble_eq_true rfl) (gW47 hW) rfl rfl (by omega) (Nat.zero_le _) (Nat.zero_le _) (Nat.le_of_ble_eq_true rfl) (fun o1 Y8 w7 ht hP => ?_)
        obtain rfl : o1 = none := ht
        obtain ⟨rfl, hP⟩ := hP
        have F := F w7 hP
        exact F
    · have F := F.2 hc
      exact F
  · have F := F.2 hc
    refine x_aload_n dX11_term_8 rfl ?_
    refine x_geti (e := (v 47 31)) 0 flX11_191 dX11_term_9 (sW47 hW) (gW47 hW) rfl rfl (Nat.le_of_ble_eq_true rfl) (tagn2 rfl) ?_
    refine x_iconst dX11_term_12 rfl (i32_of rfl) ?_
    refine x_icmp_eq 28 dX11_term_13 rfl (fun hc => ?_) (fun hc => ?_)
    · have F := F.1 hc
      refine x_aload_n dX11_term_28 rfl ?_
      obtain ⟨P9, hC, F⟩ := F
      refine x_inv dY121_term_29 mlY121_213 hC (sW47 hW) (Nat.le_of_ble_eq_true rfl) (gW47 hW) rfl rfl (by omega) (Nat.zero_le _) (Nat.zero_le _) (Nat.le_of_ble_eq_true rfl) (fun o1 Y12 w11 ht hP => ?_)
      obtain rfl : o1 = none := ht
      obtain ⟨rfl, hP⟩ := hP
      have F := F w11 hP
      refine x_goto 176 dX11_term_32 rfl ?_
      exact x_ret none rfl ⟨dX11_term_176, rfl⟩ F
    · have F := F.2 hc
      refine x_aload_n dX11_term_16 rfl ?_
      refine x_iconst dX11_term_17 rfl (i32_of rfl) ?_
      refine x_aload_n dX11_term_18 rfl ?_
      refine x_geti (e := (v 47 31)) 0 flX11_191 dX11_term_19 (sW47 hW) (gW47 hW) rfl rfl (Nat.le_of_ble_eq_true rfl) (tagn2 rfl) ?_
      obtain ⟨P13, hC, F⟩ := F
      refine x_inv dY161_term_22 mlY161_216 hC (sW47 hW) (Nat.le_of_ble_eq_true rfl) (gW47 hW) rfl rfl (by omega) (Nat.zero_le _) (Nat.zero_le _) (Nat.le_of_ble_eq_true rfl) (fun o1 Y16 w15 ht hP => ?_)
      obtain rfl : o1 = none := ht
      obtain ⟨rfl, hP⟩ := hP
      have F := F w15 hP
      refine x_goto 176 dX11_term_25 rfl ?_
      exact x_ret none rfl ⟨dX11_term_176, rfl⟩ F

set_option maxRecDepth 100000 in
set_option maxHeartbeats 4000000 in
theorem bX11_term_43 {d mc ms : Nat} {X : XX} {v : VV} {Q : QQ} (hd : 4 ≤ d) (hW : SW X) (F : ((((v 47 24) ≤ (v 47 23)) → Ex mX11_term d 96 [(2, 47)] [] X v mc ms Q) ∧ (((v 47 23) < (v 47 24)) → (0 ≤ (v 47 23) ∧ (v 47 23) < 400) ∧ ∃ P17 : Option AV → VV → Prop, Con mX11_isLetter 0 0 0 [(0, (v 68 (v 47 23)))] X v (fun o X1 v1 => X1 = X ∧ P17 o v1) ∧ ∀ (r18 : Int) (w19 : VV), P17 (some (0, r18)) w19 → (((¬ r18 = 0) → Ex mX11_term d 83 [(2, 47)] [] X w19 mc ms Q) ∧ ((r18 = 0) → (0 ≤ (w19 47 23) ∧ (w19 47 23) < 400) ∧ (((¬ (w19 68 (w19 47 23)) = 32) → Ex mX11_term d 96 [(2, 47)] [] X w19 mc ms Q) ∧ (((w19 68 (w19 47 23)) = 32) → Ex mX11_term d 83 [(2, 47)] [] X w19 mc ms Q))))))) : Ex mX11_term d 43 [(2, 47)] [] X v mc ms Q := by
  refine x_aload_n dX11_term_43 rfl ?_
  refine x_geti (e := (v 47 23)) 0 flX11_179 dX11_term_44 (sW47 hW) (gW47 hW) rfl rfl (Nat.le_of_ble_eq_true rfl) (tagn2 rfl) ?_
  refine x_aload_n dX11_term_47 rfl ?_
  refine x_geti (e := (v 47 24)) 0 flX11_182 dX11_term_48 (sW47 hW) (gW47 hW) rfl rfl (Nat.le_of_ble_eq_true rfl) (tagn2 rfl) ?_
  refine x_icmp_ge 96 dX11_term_51 rfl (fun hc => ?_) (fun hc => ?_)
  · have F := F.1 hc
    exact F
  · have F := F.2 hc
    refine x_aload_n dX11_term_54 rfl ?_
    refine x_getr (r' := 68) flX11_72 dX11_term_55 (sW47 hW) (gW47 hW) (rW47_21 hW) rfl (Nat.le_of_ble_eq_true rfl) ?_
    refine x_aload_n dX11_term_58 rfl ?_
    refine x_geti (e := (v 47 23)) 0 flX11_179 dX11_term_59 (sW47 hW) (gW47 hW) rfl rfl (Nat.le_of_ble_eq_true rfl) (tagn2 rfl) ?_
    obtain ⟨hi, F⟩ := F
    refine x_iald (e := (v 68 (v 47 23))) dX11_term_62 (sW68 hW) (gW68 hW) hi rfl ?_
    obtain ⟨P17, hC, F⟩ := F
    refine x_static dY201_term_63 mlY201_200 hC rfl rfl (by omega) (Nat.zero_le _) (Nat.zero_le _) (Nat.le_of_ble_eq_true rfl) (fun o1 Y20 w19 ht hP => ?_)
    obtain ⟨r18, rfl⟩ : ∃ i, o1 = some (0, i) := ht
    obtain ⟨rfl, hP⟩ := hP
    have F := F r18 w19 hP
    refine x_if_ne 83 dX11_term_66 rfl (fun hc => ?_) (fun hc => ?_)
    · have F := F.1 hc
      exact F
    · have F := F.2 hc
      refine x_aload_n dX11_term_69 rfl ?_
      refine x_getr (r' := 68) flX11_72 dX11_term_70 (sW47 hW) (gW47 hW) (rW47_21 hW) rfl (Nat.le_of_ble_eq_true rfl) ?_
      refine x_aload_n dX11_term_73 rfl ?_
      refine x_geti (e := (w19 47 23)) 0 flX11_179 dX11_term_74 (sW47 hW) (gW47 hW) rfl rfl (Nat.le_of_ble_eq_true rfl) (tagn2 rfl) ?_
      obtain ⟨hi, F⟩ := F
      refine x_iald (e := (w19 68 (w19 47 23))) dX11_term_77 (sW68 hW) (gW68 hW) hi rfl ?_
      refine x_bipush dX11_term_78 kb_32 (i32_of rfl) ?_
      refine x_icmp_ne 96 dX11_term_80 rfl (fun hc => ?_) (fun hc => ?_)
      · have F := F.1 hc
        exact F
      · have F := F.2 hc
        exact F

set_option maxRecDepth 100000 in
set_option maxHeartbeats 4000000 in
theorem bX11_term_83 {d mc ms : Nat} {X : XX} {v : VV} {Q : QQ} (hd : 4 ≤ d) (hW : SW X) (F : (i32 (v 47 23) → i32 ((v 47 23) + 1)) ∧ Ex mX11_term d 43 [(2, 47)] [] X (upd2 v 47 23 ((v 47 23) + 1)) mc ms Q) : Ex mX11_term d 83 [(2, 47)] [] X v mc ms Q := by
  refine x_aload_n dX11_term_83 rfl ?_
  refine x_dup dX11_term_84 (tag1 rfl) ?_
  refine x_geti (e := (v 47 23)) 0 flX11_179 dX11_term_85 (sW47 hW) (gW47 hW) rfl rfl (Nat.le_of_ble_eq_true rfl) (tagn2 rfl) ?_
  refine x_iconst dX11_term_88 rfl (i32_of rfl) ?_
  refine x_si32 (i := 1) rfl (fun hk1 => ?_)
  obtain ⟨hz, F⟩ := F
  have hz := hz hk1
  refine x_iadd dX11_term_89 hz ?_
  refine x_puti 0 fwX11_179 dX11_term_90 (sW47 hW) (gW47 hW) (fun h => Bool.noConfusion h) (Nat.le_of_ble_eq_true rfl) rfl (Or.inl ⟨rfl, Or.inl rfl⟩) ?_
  refine x_goto 43 dX11_term_93 rfl ?_
  exact F

set_option maxRecDepth 100000 in
set_option maxHeartbeats 4000000 in
theorem bX11_term_96 {d mc ms : Nat} {X : XX} {v : VV} {Q : QQ} (hd : 4 ≤ d) (hW : SW X) (F : ((((v 47 23) = (v 47 24)) → ∃ P21 : Option AV → VV → Prop, Con mX11_fail 0 0 0 [(2, 47), (0, 1), (0, (v 47 23))] X v (fun o X1 v1 => X1 = X ∧ P21 o v1) ∧ ∀ (w23 : VV), P21 none w23 → Q none X w23) ∧ ((¬ (v 47 23) = (v 47 24)) → (0 ≤ (v 47 23) ∧ (v 47 23) < 400) ∧ ((((v 68 (v 47 23)) = 39) → (i32 (v 47 23) → i32 ((v 47 23) + 1)) ∧ ∃ P25 : Option AV → VV → Prop, Con mX11_keeps 2 0 0 [(2, 47)] X (upd2 v 47 23 ((v 47 23) + 1)) (fun o X1 v1 => X1 = X ∧ P25 o v1) ∧ ∀ (w27 : VV), P25 none w27 → Q none X w27) ∧ ((¬ (v 68 (v 47 23)) = 39) → ∃ P29 : Option AV → VV → Prop, Con mX11_fail 0 0 0 [(2, 47), (0, 1), (0, (v 47 23))] X v (fun o X1 v1 => X1 = X ∧ P29 o v1) ∧ ∀ (w31 : VV), P29 none w31 → Q none X w31))))) : Ex mX11_term d 96 [(2, 47)] [] X v mc ms Q := by
  refine x_aload_n dX11_term_96 rfl ?_
  refine x_geti (e := (v 47 23)) 0 flX11_179 dX11_term_97 (sW47 hW) (gW47 hW) rfl rfl (Nat.le_of_ble_eq_true rfl) (tagn2 rfl) ?_
  refine x_aload_n dX11_term_100 rfl ?_
  refine x_geti (e := (v 47 24)) 0 flX11_182 dX11_term_101 (sW47 hW) (gW47 hW) rfl rfl (Nat.le_of_ble_eq_true rfl) (tagn2 rfl) ?_
  refine x_icmp_eq 121 dX11_term_104 rfl (fun hc => ?_) (fun hc => ?_)
  · have F := F.1 hc
    refine x_aload_n dX11_term_121 rfl ?_
    refine x_iconst dX11_term_122 rfl (i32_of rfl) ?_
    refine x_aload_n dX11_term_123 rfl ?_
    refine x_geti (e := (v 47 23)) 0 flX11_179 dX11_term_124 (sW47 hW) (gW47 hW) rfl rfl (Nat.le_of_ble_eq_true rfl) (tagn2 rfl) ?_
    obtain ⟨P21, hC, F⟩ := F
    refine x_inv dY241_term_127 mlY241_216 hC (sW47 hW) (Nat.le_of_ble_eq_true rfl) (gW47 hW) rfl rfl (by omega) (Nat.zero_le _) (Nat.zero_le _) (Nat.le_of_ble_eq_true rfl) (fun o1 Y24 w23 ht hP => ?_)
    obtain rfl : o1 = none := ht
    obtain ⟨rfl, hP⟩ := hP
    have F := F w23 hP
    exact x_ret none rfl ⟨dX11_term_130, rfl⟩ F
  · have F := F.2 hc
    refine x_aload_n dX11_term_107 rfl ?_
    refine x_getr (r' := 68) flX11_72 dX11_term_108 (sW47 hW) (gW47 hW) (rW47_21 hW) rfl (Nat.le_of_ble_eq_true rfl) ?_
    refine x_aload_n dX11_term_111 rfl ?_
    refine x_geti (e := (v 47 23)) 0 flX11_179 dX11_term_112 (sW47 hW) (gW47 hW) rfl rfl (Nat.le_of_ble_eq_true rfl) (tagn2 rfl) ?_
    obtain ⟨hi, F⟩ := F
    refine x_iald (e := (v 68 (v 47 23))) dX11_term_115 (sW68 hW) (gW68 hW) hi rfl ?_
    refine x_bipush dX11_term_116 kb_39 (i32_of rfl) ?_
    refine x_icmp_eq 131 dX11_term_118 rfl (fun hc => ?_) (fun hc => ?_)
    · have F := F.1 hc
      refine x_aload_n dX11_term_131 rfl ?_
      refine x_dup dX11_term_132 (tag1 rfl) ?_
      refine x_geti (e := (v 47 23)) 0 flX11_179 dX11_term_133 (sW47 hW) (gW47 hW) rfl rfl (Nat.le_of_ble_eq_true rfl) (tagn2 rfl) ?_
      refine x_iconst dX11_term_136 rfl (i32_of rfl) ?_
      refine x_si32 (i := 1) rfl (fun hk1 => ?_)
      obtain ⟨hz, F⟩ := F
      have hz := hz hk1
      refine x_iadd dX11_term_137 hz ?_
      refine x_puti 0 fwX11_179 dX11_term_138 (sW47 hW) (gW47 hW) (fun h => Bool.noConfusion h) (Nat.le_of_ble_eq_true rfl) rfl (Or.inl ⟨rfl, Or.inl rfl⟩) ?_
      refine x_aload_n dX11_term_141 rfl ?_
      obtain ⟨P25, hC, F⟩ := F
      refine x_inv dY281_term_142 mlY281_213 hC (sW47 hW) (Nat.le_of_ble_eq_true rfl) (gW47 hW) rfl rfl (by omega) (Nat.zero_le _) (Nat.zero_le _) (Nat.le_of_ble_eq_true rfl) (fun o1 Y28 w27 ht hP => ?_)
      obtain rfl : o1 = none := ht
      obtain ⟨rfl, hP⟩ := hP
      have F := F w27 hP
      refine x_goto 176 dX11_term_145 rfl ?_
      exact x_ret none rfl ⟨dX11_term_176, rfl⟩ F
    · have F := F.2 hc
      refine x_aload_n dX11_term_121 rfl ?_
      refine x_iconst dX11_term_122 rfl (i32_of rfl) ?_
      refine x_aload_n dX11_term_123 rfl ?_
      refine x_geti (e := (v 47 23)) 0 flX11_179 dX11_term_124 (sW47 hW) (gW47 hW) rfl rfl (Nat.le_of_ble_eq_true rfl) (tagn2 rfl) ?_
      obtain ⟨P29, hC, F⟩ := F
      refine x_inv dY321_term_127 mlY321_216 hC (sW47 hW) (Nat.le_of_ble_eq_true rfl) (gW47 hW) rfl rfl (by omega) (Nat.zero_le _) (Nat.zero_le _) (Nat.le_of_ble_eq_true rfl) (fun o1 Y32 w31 ht hP => ?_)
      obtain rfl : o1 = none := ht
      obtain ⟨rfl, hP⟩ := hP
      have F := F w31 hP
      exact x_ret none rfl ⟨dX11_term_130, rfl⟩ F

set_option maxRecDepth 100000 in
set_option maxHeartbeats 4000000 in
theorem bX11_term_165 {d mc ms : Nat} {X : XX} {v : VV} {Q : QQ} (hd : 4 ≤ d) (hW : SW X) (F : (((¬ (v 47 25) = 0) → Q none X v) ∧ (((v 47 25) = 0) → ∃ P33 : Option AV → VV → Prop, Con mX11_name 3 0 0 [(2, 47)] X v (fun o X1 v1 => X1 = X ∧ P33 o v1) ∧ ∀ (w35 : VV), P33 none w35 → Q none X w35))) : Ex mX11_term d 165 [(2, 47)] [] X v mc ms Q := by
  refine x_aload_n dX11_term_165 rfl ?_
  refine x_geti (e := (v 47 25)) 0 flX11_169 dX11_term_166 (sW47 hW) (gW47 hW) rfl rfl (Nat.le_of_ble_eq_true rfl) (tagn2 rfl) ?_
  refine x_if_ne 176 dX11_term_169 rfl (fun hc => ?_) (fun hc => ?_)
  · have F := F.1 hc
    exact x_ret none rfl ⟨dX11_term_176, rfl⟩ F
  · have F := F.2 hc
    refine x_aload_n dX11_term_172 rfl ?_
    obtain ⟨P33, hC, F⟩ := F
    refine x_inv dY361_term_173 mlY361_238 hC (sW47 hW) (Nat.le_of_ble_eq_true rfl) (gW47 hW) rfl rfl (by omega) (Nat.zero_le _) (Nat.zero_le _) (Nat.le_of_ble_eq_true rfl) (fun o1 Y36 w35 ht hP => ?_)
    obtain rfl : o1 = none := ht
    obtain ⟨rfl, hP⟩ := hP
    have F := F w35 hP
    exact x_ret none rfl ⟨dX11_term_176, rfl⟩ F

set_option maxRecDepth 100000 in
set_option maxHeartbeats 4000000 in
theorem bX11_source_0 {d mc ms : Nat} {X : XX} {v : VV} {Q : QQ} (hd : 4 ≤ d) (hW : SW X) (F : ∃ P1 : Option AV → VV → Prop, Con mX11_sign 3 0 0 [(2, 47), (0, 40)] X v (fun o X1 v1 => X1 = X ∧ P1 o v1) ∧ ∀ (w3 : VV), P1 none w3 → (((¬ (w3 47 25) = 0) → Ex mX11_source d 19 [(2, 47), (0, 0)] [] X w3 mc ms Q) ∧ (((w3 47 25) = 0) → Ex mX11_source d 19 [(2, 47), (0, 1)] [] X w3 mc ms Q))) : Ex mX11_source d 0 [(2, 47), (3, 0)] [] X v mc ms Q := by
  refine x_aload_n dX11_source_0 rfl ?_
  refine x_bipush dX11_source_1 kb_40 (i32_of rfl) ?_
  obtain ⟨P1, hC, F⟩ := F
  refine x_inv dY41_source_3 mlY41_231 hC (sW47 hW) (Nat.le_of_ble_eq_true rfl) (gW47 hW) rfl rfl (by omega) (Nat.zero_le _) (Nat.zero_le _) (Nat.le_of_ble_eq_true rfl) (fun o1 Y4 w3 ht hP => ?_)
  obtain rfl : o1 = none := ht
  obtain ⟨rfl, hP⟩ := hP
  have F := F w3 hP
  refine x_aload_n dX11_source_6 rfl ?_
  refine x_geti (e := (w3 47 25)) 0 flX11_169 dX11_source_7 (sW47 hW) (gW47 hW) rfl rfl (Nat.le_of_ble_eq_true rfl) (tagn2 rfl) ?_
  refine x_if_ne 17 dX11_source_10 rfl (fun hc => ?_) (fun hc => ?_)
  · have F := F.1 hc
    refine x_iconst dX11_source_17 rfl (i32_of rfl) ?_
    refine x_istore_n [(2, 47), (0, 0)] dX11_source_18 rfl (Nat.le_of_ble_eq_true rfl) ?_
    exact F
  · have F := F.2 hc
    refine x_iconst dX11_source_13 rfl (i32_of rfl) ?_
    refine x_goto 18 dX11_source_14 rfl ?_
    refine x_istore_n [(2, 47), (0, 1)] dX11_source_18 rfl (Nat.le_of_ble_eq_true rfl) ?_
    exact F

set_option maxRecDepth 100000 in
set_option maxHeartbeats 4000000 in
theorem bX11_source_19 {d mc ms : Nat} {X : XX} {v : VV} {Q : QQ} (x1 : Int) (hd : 4 ≤ d) (hW : SW X) (F : i32 x1 → (((x1 = 0) → ∃ P5 : Option AV → VV → Prop, Con mX11_sign 3 0 0 [(2, 47), (0, 41)] X v (fun o X1 v1 => X1 = X ∧ P5 o v1) ∧ ∀ (w7 : VV), P5 none w7 → Q none X w7) ∧ ((¬ x1 = 0) → (0 ≤ (v 47 0) ∧ (v 47 0) < 17) ∧ (((¬ (v 51 (v 47 0)) = 6) → Ex mX11_source d 46 [(2, 47), (0, x1)] [] X v mc ms Q) ∧ (((v 51 (v 47 0)) = 6) → ∃ P9 : Option AV → VV → Prop, Con mX11_fail 0 0 0 [(2, 47), (0, 1), (0, (v 47 30))] X v (fun o X1 v1 => X1 = X ∧ P9 o v1) ∧ ∀ (w11 : VV), P9 none w11 → Ex mX11_source d 46 [(2, 47), (0, x1)] [] X w11 mc ms Q))))) : Ex mX11_source d 19 [(2, 47), (0, x1)] [] X v mc ms Q := by
  refine x_li32 (i := 1) rfl (fun hx1 => ?_)
  have F := F hx1
  refine x_iload_n dX11_source_19 rfl ?_
  refine x_if_eq 247 dX11_source_20 rfl (fun hc => ?_) (fun hc => ?_)
  · have F := F.1 hc
    refine x_aload_n dX11_source_247 rfl ?_
    refine x_bipush dX11_source_248 kb_41 (i32_of rfl) ?_
    obtain ⟨P5, hC, F⟩ := F
    refine x_inv dY81_source_250 mlY81_231 hC (sW47 hW) (Nat.le_of_ble_eq_true rfl) (gW47 hW) rfl rfl (by omega) (Nat.zero_le _) (Nat.zero_le _) (Nat.le_of_ble_eq_true rfl) (fun o1 Y8 w7 ht hP => ?_)
    obtain rfl : o1 = none := ht
    obtain ⟨rfl, hP⟩ := hP
    have F := F w7 hP
    exact x_ret none rfl ⟨dX11_source_253, rfl⟩ F
  · have F := F.2 hc
    refine x_aload_n dX11_source_23 rfl ?_
    refine x_getr (r' := 51) flX11_21 dX11_source_24 (sW47 hW) (gW47 hW) (rW47_4 hW) rfl (Nat.le_of_ble_eq_true rfl) ?_
    refine x_aload_n dX11_source_27 rfl ?_
    refine x_geti (e := (v 47 0)) 0 flX11_159 dX11_source_28 (sW47 hW) (gW47 hW) rfl rfl (Nat.le_of_ble_eq_true rfl) (tagn2 rfl) ?_
    obtain ⟨hi, F⟩ := F
    refine x_iald (e := (v 51 (v 47 0))) dX11_source_31 (sW51 hW) (gW51 hW) hi rfl ?_
    refine x_bipush dX11_source_32 kb_6 (i32_of rfl) ?_
    refine x_icmp_ne 46 dX11_source_34 rfl (fun hc => ?_) (fun hc => ?_)
    · have F := F.1 hc
      exact F
    · have F := F.2 hc
      refine x_aload_n dX11_source_37 rfl ?_
      refine x_iconst dX11_source_38 rfl (i32_of rfl) ?_
      refine x_aload_n dX11_source_39 rfl ?_
      refine x_geti (e := (v 47 30)) 0 flX11_188 dX11_source_40 (sW47 hW) (gW47 hW) rfl rfl (Nat.le_of_ble_eq_true rfl) (tagn2 rfl) ?_
      obtain ⟨P9, hC, F⟩ := F
      refine x_inv dY121_source_43 mlY121_216 hC (sW47 hW) (Nat.le_of_ble_eq_true rfl) (gW47 hW) rfl rfl (by omega) (Nat.zero_le _) (Nat.zero_le _) (Nat.le_of_ble_eq_true rfl) (fun o1 Y12 w11 ht hP => ?_)
      obtain rfl : o1 = none := ht
      obtain ⟨rfl, hP⟩ := hP
      have F := F w11 hP
      exact F

set_option maxRecDepth 100000 in
set_option maxHeartbeats 4000000 in
theorem bX11_source_46 {d mc ms : Nat} {X : XX} {v : VV} {Q : QQ} (x1 : Int) (hd : 4 ≤ d) (hW : SW X) (F : i32 x1 → (((¬ (v 47 25) = 0) → Ex mX11_source d 83 [(2, 47), (0, x1)] [] X v mc ms Q) ∧ (((v 47 25) = 0) → (i32 (v 47 0) → i32 (8 * (v 47 0))) ∧ (0 ≤ (v 47 0) ∧ (v 47 0) < 17) ∧ (i32 (v 51 (v 47 0)) → i32 (8 * (v 47 0)) → i32 ((8 * (v 47 0)) + (v 51 (v 47 0)))) ∧ (0 ≤ ((8 * (v 47 0)) + (v 51 (v 47 0))) ∧ ((8 * (v 47 0)) + (v 51 (v 47 0))) < 136) ∧ ∃ P13 : Option AV → VV → Prop, Con mX11_name 3 0 0 [(2, 47)] X (upd2 v 52 ((8 * (v 47 0)) + (v 51 (v 47 0))) (v 47 32)) (fun o X1 v1 => X1 = X ∧ P13 o v1) ∧ ∀ (w15 : VV), P13 none w15 → Ex mX11_source d 83 [(2, 47), (0, x1)] [] X w15 mc ms Q))) : Ex mX11_source d 46 [(2, 47), (0, x1)] [] X v mc ms Q := by
  refine x_li32 (i := 1) rfl (fun hx1 => ?_)
  have F := F hx1
  refine x_aload_n dX11_source_46 rfl ?_
  refine x_geti (e := (v 47 25)) 0 flX11_169 dX11_source_47 (sW47 hW) (gW47 hW) rfl rfl (Nat.le_of_ble_eq_true rfl) (tagn2 rfl) ?_
  refine x_if_ne 83 dX11_source_50 rfl (fun hc => ?_) (fun hc => ?_)
  · have F := F.1 hc
    exact F
  · have F := F.2 hc
    refine x_aload_n dX11_source_53 rfl ?_
    refine x_getr (r' := 52) flX11_24 dX11_source_54 (sW47 hW) (gW47 hW) (rW47_5 hW) rfl (Nat.le_of_ble_eq_true rfl) ?_
    refine x_bipush dX11_source_57 kb_8 (i32_of rfl) ?_
    refine x_aload_n dX11_source_59 rfl ?_
    refine x_geti (e := (v 47 0)) 0 flX11_159 dX11_source_60 (sW47 hW) (gW47 hW) rfl rfl (Nat.le_of_ble_eq_true rfl) (tagn2 rfl) ?_
    refine x_si32 (i := 0) rfl (fun hk0 => ?_)
    obtain ⟨hz, F⟩ := F
    have hz := hz hk0
    refine x_imul dX11_source_63 hz ?_
    refine x_aload_n dX11_source_64 rfl ?_
    refine x_getr (r' := 51) flX11_21 dX11_source_65 (sW47 hW) (gW47 hW) (rW47_4 hW) rfl (Nat.le_of_ble_eq_true rfl) ?_
    refine x_aload_n dX11_source_68 rfl ?_
    refine x_geti (e := (v 47 0)) 0 flX11_159 dX11_source_69 (sW47 hW) (gW47 hW) rfl rfl (Nat.le_of_ble_eq_true rfl) (tagn2 rfl) ?_
    obtain ⟨hi, F⟩ := F
    refine x_iald (e := (v 51 (v 47 0))) dX11_source_72 (sW51 hW) (gW51 hW) hi rfl ?_
    refine x_si32 (i := 0) rfl (fun hk0 => ?_)
    refine x_si32 (i := 1) rfl (fun hk1 => ?_)
    obtain ⟨hz, F⟩ := F
    have hz := hz hk0 hk1
    refine x_iadd dX11_source_73 hz ?_
    refine x_aload_n dX11_source_74 rfl ?_
    refine x_geti (e := (v 47 32)) 1 flX11_194 dX11_source_75 (sW47 hW) (gW47 hW) rfl rfl (Nat.le_of_ble_eq_true rfl) (tagn2 rfl) ?_
    obtain ⟨hi, F⟩ := F
    refine x_last dX11_source_78 (sW52 hW) (gW52 hW) hi ?_
    refine x_aload_n dX11_source_79 rfl ?_
    obtain ⟨P13, hC, F⟩ := F
    refine x_inv dY161_source_80 mlY161_238 hC (sW47 hW) (Nat.le_of_ble_eq_true rfl) (gW47 hW) rfl rfl (by omega) (Nat.zero_le _) (Nat.zero_le _) (Nat.le_of_ble_eq_true rfl) (fun o1 Y16 w15 ht hP => ?_)
    obtain rfl : o1 = none := ht
    obtain ⟨rfl, hP⟩ := hP
    have F := F w15 hP
    exact F

set_option maxRecDepth 100000 in
set_option maxHeartbeats 4000000 in
theorem bX11_source_83 {d mc ms : Nat} {X : XX} {v : VV} {Q : QQ} (x1 : Int) (hd : 4 ≤ d) (hW : SW X) (F : i32 x1 → (((¬ (v 47 25) = 0) → Ex mX11_source d 140 [(2, 47), (0, x1)] [] X v mc ms Q) ∧ (((v 47 25) = 0) → (((¬ (v 47 29) = 1) → Ex mX11_source d 131 [(2, 47), (0, x1)] [] X v mc ms Q) ∧ (((v 47 29) = 1) → ((((v 47 32) = 14) → Ex mX11_source d 140 [(2, 47), (0, x1)] [] X v mc ms Q) ∧ ((¬ (v 47 32) = 14) → ((((v 47 32) = 20) → Ex mX11_source d 140 [(2, 47), (0, x1)] [] X v mc ms Q) ∧ ((¬ (v 47 32) = 20) → ((((v 47 32) = 4) → Ex mX11_source d 140 [(2, 47), (0, x1)] [] X v mc ms Q) ∧ ((¬ (v 47 32) = 4) → Ex mX11_source d 131 [(2, 47), (0, x1)] [] X v mc ms Q))))))))))) : Ex mX11_source d 83 [(2, 47), (0, x1)] [] X v mc ms Q := by
  refine x_li32 (i := 1) rfl (fun hx1 => ?_)
  have F := F hx1
  refine x_aload_n dX11_source_83 rfl ?_
  refine x_geti (e := (v 47 25)) 0 flX11_169 dX11_source_84 (sW47 hW) (gW47 hW) rfl rfl (Nat.le_of_ble_eq_true rfl) (tagn2 rfl) ?_
  refine x_if_ne 140 dX11_source_87 rfl (fun hc => ?_) (fun hc => ?_)
  · have F := F.1 hc
    exact F
  · have F := F.2 hc
    refine x_aload_n dX11_source_90 rfl ?_
    refine x_geti (e := (v 47 29)) 0 flX11_197 dX11_source_91 (sW47 hW) (gW47 hW) rfl rfl (Nat.le_of_ble_eq_true rfl) (tagn2 rfl) ?_
    refine x_iconst dX11_source_94 rfl (i32_of rfl) ?_
    refine x_icmp_ne 131 dX11_source_95 rfl (fun hc => ?_) (fun hc => ?_)
    · have F := F.1 hc
      exact F
    · have F := F.2 hc
      refine x_aload_n dX11_source_98 rfl ?_
      refine x_geti (e := (v 47 32)) 1 flX11_194 dX11_source_99 (sW47 hW) (gW47 hW) rfl rfl (Nat.le_of_ble_eq_true rfl) (tagn2 rfl) ?_
      refine x_ldc2 (i := 14) 14 dX11_source_102 lcX11_240 rfl (i64_of rfl) ?_
      refine x_lcmp dX11_source_105 (fun z17 hz171 hz172 hz173 => ?_)
      refine x_if_eq 140 dX11_source_106 rfl (fun hc => ?_) (fun hc => ?_)
      · have F := F.1 (hz171.mp hc)
        exact F
      · have F := F.2 (fun q => hc (hz171.mpr q))
        refine x_aload_n dX11_source_109 rfl ?_
        refine x_geti (e := (v 47 32)) 1 flX11_194 dX11_source_110 (sW47 hW) (gW47 hW) rfl rfl (Nat.le_of_ble_eq_true rfl) (tagn2 rfl) ?_
        refine x_ldc2 (i := 20) 20 dX11_source_113 lcX11_242 rfl (i64_of rfl) ?_
        refine x_lcmp dX11_source_116 (fun z18 hz181 hz182 hz183 => ?_)
        refine x_if_eq 140 dX11_source_117 rfl (fun hc => ?_) (fun hc => ?_)
        · have F := F.1 (hz181.mp hc)
          exact F
        · have F := F.2 (fun q => hc (hz181.mpr q))
          refine x_aload_n dX11_source_120 rfl ?_
          refine x_geti (e := (v 47 32)) 1 flX11_194 dX11_source_121 (sW47 hW) (gW47 hW) rfl rfl (Nat.le_of_ble_eq_true rfl) (tagn2 rfl) ?_
          refine x_ldc2 (i := 4) 4 dX11_source_124 lcX11_244 rfl (i64_of rfl) ?_
          refine x_lcmp dX11_source_127 (fun z19 hz191 hz192 hz193 => ?_)
          refine x_if_eq 140 dX11_source_128 rfl (fun hc => ?_) (fun hc => ?_)
          · have F := F.1 (hz191.mp hc)
            exact F
          · have F := F.2 (fun q => hc (hz191.mpr q))
            exact F

set_option maxRecDepth 100000 in
set_option maxHeartbeats 4000000 in
theorem bX11_source_131 {d mc ms : Nat} {X : XX} {v : VV} {Q : QQ} (x1 : Int) (hd : 4 ≤ d) (hW : SW X) (F : i32 x1 → ∃ P20 : Option AV → VV → Prop, Con mX11_fail 0 0 0 [(2, 47), (0, 1), (0, (v 47 30))] X v (fun o X1 v1 => X1 = X ∧ P20 o v1) ∧ ∀ (w22 : VV), P20 none w22 → Ex mX11_source d 140 [(2, 47), (0, x1)] [] X w22 mc ms Q) : Ex mX11_source d 131 [(2, 47), (0, x1)] [] X v mc ms Q := by
  refine x_li32 (i := 1) rfl (fun hx1 => ?_)
  have F := F hx1
  refine x_aload_n dX11_source_131 rfl ?_
  refine x_iconst dX11_source_132 rfl (i32_of rfl) ?_
  refine x_aload_n dX11_source_133 rfl ?_
  refine x_geti (e := (v 47 30)) 0 flX11_188 dX11_source_134 (sW47 hW) (gW47 hW) rfl rfl (Nat.le_of_ble_eq_true rfl) (tagn2 rfl) ?_
  obtain ⟨P20, hC, F⟩ := F
  refine x_inv dY231_source_137 mlY231_216 hC (sW47 hW) (Nat.le_of_ble_eq_true rfl) (gW47 hW) rfl rfl (by omega) (Nat.zero_le _) (Nat.zero_le _) (Nat.le_of_ble_eq_true rfl) (fun o1 Y23 w22 ht hP => ?_)
  obtain rfl : o1 = none := ht
  obtain ⟨rfl, hP⟩ := hP
  have F := F w22 hP
  exact F

set_option maxRecDepth 100000 in
set_option maxHeartbeats 4000000 in
theorem bX11_source_140 {d mc ms : Nat} {X : XX} {v : VV} {Q : QQ} (x1 : Int) (hd : 4 ≤ d) (hW : SW X) (F : i32 x1 → ((((v 47 25) = 0) → (i32 (v 47 0) → i32 (8 * (v 47 0))) ∧ (0 ≤ (v 47 0) ∧ (v 47 0) < 17) ∧ (i32 (v 51 (v 47 0)) → i32 (8 * (v 47 0)) → i32 ((8 * (v 47 0)) + (v 51 (v 47 0)))) ∧ (((¬ (v 47 32) = 14) → (((¬ (v 47 32) = 20) → (0 ≤ ((8 * (v 47 0)) + (v 51 (v 47 0))) ∧ ((8 * (v 47 0)) + (v 51 (v 47 0))) < 136) ∧ (0 ≤ (v 47 0) ∧ (v 47 0) < 17) ∧ (i32 (v 51 (v 47 0)) → i32 ((v 51 (v 47 0)) + 1)) ∧ (0 ≤ (v 47 0) ∧ (v 47 0) < 17) ∧ ∃ P26 : Option AV → VV → Prop, Con mX11_keeps 2 0 0 [(2, 47)] X (upd2 (upd2 v 53 ((8 * (v 47 0)) + (v 51 (v 47 0))) 100) 51 (v 47 0) ((v 51 (v 47 0)) + 1)) (fun o X1 v1 => X1 = X ∧ P26 o v1) ∧ ∀ (w28 : VV), P26 none w28 → (((¬ (w28 47 29) = 44) → Ex mX11_source d 19 [(2, 47), (0, 0)] [] X w28 mc ms Q) ∧ (((w28 47 29) = 44) → ∃ P30 : Option AV → VV → Prop, Con mX11_keeps 2 0 0 [(2, 47)] X w28 (fun o X1 v1 => X1 = X ∧ P30 o v1) ∧ ∀ (w32 : VV), P30 none w32 → Ex mX11_source d 19 [(2, 47), (0, 1)] [] X w32 mc ms Q))) ∧ (((v 47 32) = 20) → (0 ≤ ((8 * (v 47 0)) + (v 51 (v 47 0))) ∧ ((8 * (v 47 0)) + (v 51 (v 47 0))) < 136) ∧ (0 ≤ (v 47 0) ∧ (v 47 0) < 17) ∧ (i32 (v 51 (v 47 0)) → i32 ((v 51 (v 47 0)) + 1)) ∧ (0 ≤ (v 47 0) ∧ (v 47 0) < 17) ∧ ∃ P34 : Option AV → VV → Prop, Con mX11_keeps 2 0 0 [(2, 47)] X (upd2 (upd2 v 53 ((8 * (v 47 0)) + (v 51 (v 47 0))) 116) 51 (v 47 0) ((v 51 (v 47 0)) + 1)) (fun o X1 v1 => X1 = X ∧ P34 o v1) ∧ ∀ (w36 : VV), P34 none w36 → (((¬ (w36 47 29) = 44) → Ex mX11_source d 19 [(2, 47), (0, 0)] [] X w36 mc ms Q) ∧ (((w36 47 29) = 44) → ∃ P38 : Option AV → VV → Prop, Con mX11_keeps 2 0 0 [(2, 47)] X w36 (fun o X1 v1 => X1 = X ∧ P38 o v1) ∧ ∀ (w40 : VV), P38 none w40 → Ex mX11_source d 19 [(2, 47), (0, 1)] [] X w40 mc ms Q))))) ∧ (((v 47 32) = 14) → (0 ≤ ((8 * (v 47 0)) + (v 51 (v 47 0))) ∧ ((8 * (v 47 0)) + (v 51 (v 47 0))) < 136) ∧ (0 ≤ (v 47 0) ∧ (v 47 0) < 17) ∧ (i32 (v 51 (v 47 0)) → i32 ((v 51 (v 47 0)) + 1)) ∧ (0 ≤ (v 47 0) ∧ (v 47 0) < 17) ∧ ∃ P42 : Option AV → VV → Prop, Con mX11_keeps 2 0 0 [(2, 47)] X (upd2 (upd2 v 53 ((8 * (v 47 0)) + (v 51 (v 47 0))) 110) 51 (v 47 0) ((v 51 (v 47 0)) + 1)) (fun o X1 v1 => X1 = X ∧ P42 o v1) ∧ ∀ (w44 : VV), P42 none w44 → (((¬ (w44 47 29) = 44) → Ex mX11_source d 19 [(2, 47), (0, 0)] [] X w44 mc ms Q) ∧ (((w44 47 29) = 44) → ∃ P46 : Option AV → VV → Prop, Con mX11_keeps 2 0 0 [(2, 47)] X w44 (fun o X1 v1 => X1 = X ∧ P46 o v1) ∧ ∀ (w48 : VV), P46 none w48 → Ex mX11_source d 19 [(2, 47), (0, 1)] [] X w48 mc ms Q))))) ∧ ((¬ (v 47 25) = 0) → Q none X v))) : Ex mX11_source d 140 [(2, 47), (0, x1)] [] X v mc ms Q := by
  refine x_li32 (i := 1) rfl (fun hx1 => ?_)
  have F := F hx1
  refine x_aload_n dX11_source_140 rfl ?_
  refine x_geti (e := (v 47 25)) 0 flX11_169 dX11_source_141 (sW47 hW) (gW47 hW) rfl rfl (Nat.le_of_ble_eq_true rfl) (tagn2 rfl) ?_
  refine x_if_eq 148 dX11_source_144 rfl (fun hc => ?_) (fun hc => ?_)
  · have F := F.1 hc
    refine x_aload_n dX11_source_148 rfl ?_
    refine x_getr (r' := 53) flX11_27 dX11_source_149 (sW47 hW) (gW47 hW) (rW47_6 hW) rfl (Nat.le_of_ble_eq_true rfl) ?_
    refine x_bipush dX11_source_152 kb_8 (i32_of rfl) ?_
    refine x_aload_n dX11_source_154 rfl ?_
    refine x_geti (e := (v 47 0)) 0 flX11_159 dX11_source_155 (sW47 hW) (gW47 hW) rfl rfl (Nat.le_of_ble_eq_true rfl) (tagn2 rfl) ?_
    refine x_si32 (i := 0) rfl (fun hk0 => ?_)
    obtain ⟨hz, F⟩ := F
    have hz := hz hk0
    refine x_imul dX11_source_158 hz ?_
    refine x_aload_n dX11_source_159 rfl ?_
    refine x_getr (r' := 51) flX11_21 dX11_source_160 (sW47 hW) (gW47 hW) (rW47_4 hW) rfl (Nat.le_of_ble_eq_true rfl) ?_
    refine x_aload_n dX11_source_163 rfl ?_
    refine x_geti (e := (v 47 0)) 0 flX11_159 dX11_source_164 (sW47 hW) (gW47 hW) rfl rfl (Nat.le_of_ble_eq_true rfl) (tagn2 rfl) ?_
    obtain ⟨hi, F⟩ := F
    refine x_iald (e := (v 51 (v 47 0))) dX11_source_167 (sW51 hW) (gW51 hW) hi rfl ?_
    refine x_si32 (i := 0) rfl (fun hk0 => ?_)
    refine x_si32 (i := 1) rfl (fun hk1 => ?_)
    obtain ⟨hz, F⟩ := F
    have hz := hz hk0 hk1
    refine x_iadd dX11_source_168 hz ?_
    refine x_aload_n dX11_source_169 rfl ?_
    refine x_geti (e := (v 47 32)) 1 flX11_194 dX11_source_170 (sW47 hW) (gW47 hW) rfl rfl (Nat.le_of_ble_eq_true rfl) (tagn2 rfl) ?_
    refine x_ldc2 (i := 14) 14 dX11_source_173 lcX11_240 rfl (i64_of rfl) ?_
    refine x_lcmp dX11_source_176 (fun z24 hz241 hz242 hz243 => ?_)
    refine x_if_ne 185 dX11_source_177 rfl (fun hc => ?_) (fun hc => ?_)
    · have F := F.1 (fun q => hc (hz241.mpr q))
      refine x_aload_n dX11_source_185 rfl ?_
      refine x_geti (e := (v 47 32)) 1 flX11_194 dX11_source_186 (sW47 hW) (gW47 hW) rfl rfl (Nat.le_of_ble_eq_true rfl) (tagn2 rfl) ?_
      refine x_ldc2 (i := 20) 20 dX11_source_189 lcX11_242 rfl (i64_of rfl) ?_
      refine x_lcmp dX11_source_192 (fun z25 hz251 hz252 hz253 => ?_)
      refine x_if_ne 201 dX11_source_193 rfl (fun hc => ?_) (fun hc => ?_)
      · have F := F.1 (fun q => hc (hz251.mpr q))
        refine x_bipush dX11_source_201 kb_100 (i32_of rfl) ?_
        obtain ⟨hi, F⟩ := F
        refine x_iast dX11_source_203 (sW53 hW) (gW53 hW) hi ?_
        refine x_aload_n dX11_source_204 rfl ?_
        refine x_getr (r' := 51) flX11_21 dX11_source_205 (sW47 hW) (gW47 hW) (rW47_4 hW) rfl (Nat.le_of_ble_eq_true rfl) ?_
        refine x_aload_n dX11_source_208 rfl ?_
        refine x_geti (e := (v 47 0)) 0 flX11_159 dX11_source_209 (sW47 hW) (gW47 hW) rfl rfl (Nat.le_of_ble_eq_true rfl) (tagn2 rfl) ?_
        refine x_dup2 dX11_source_212 (tag1 rfl) (tag1 rfl) ?_
        obtain ⟨hi, F⟩ := F
        refine x_iald (e := (v 51 (v 47 0))) dX11_source_213 (sW51 hW) (gW51 hW) hi rfl ?_
        refine x_iconst dX11_source_214 rfl (i32_of rfl) ?_
        refine x_si32 (i := 1) rfl (fun hk1 => ?_)
        obtain ⟨hz, F⟩ := F
        have hz := hz hk1
        refine x_iadd dX11_source_215 hz ?_
        obtain ⟨hi, F⟩ := F
        refine x_iast dX11_source_216 (sW51 hW) (gW51 hW) hi ?_
        refine x_aload_n dX11_source_217 rfl ?_
        obtain ⟨P26, hC, F⟩ := F
        refine x_inv dY291_source_218 mlY291_213 hC (sW47 hW) (Nat.le_of_ble_eq_true rfl) (gW47 hW) rfl rfl (by omega) (Nat.zero_le _) (Nat.zero_le _) (Nat.le_of_ble_eq_true rfl) (fun o1 Y29 w28 ht hP => ?_)
        obtain rfl : o1 = none := ht
        obtain ⟨rfl, hP⟩ := hP
        have F := F w28 hP
        refine x_aload_n dX11_source_221 rfl ?_
        refine x_geti (e := (w28 47 29)) 0 flX11_197 dX11_source_222 (sW47 hW) (gW47 hW) rfl rfl (Nat.le_of_ble_eq_true rfl) (tagn2 rfl) ?_
        refine x_bipush dX11_source_225 kb_44 (i32_of rfl) ?_
        refine x_icmp_ne 234 dX11_source_227 rfl (fun hc => ?_) (fun hc => ?_)
        · have F := F.1 hc
          refine x_iconst dX11_source_234 rfl (i32_of rfl) ?_
          refine x_istore_n [(2, 47), (0, 0)] dX11_source_235 rfl (Nat.le_of_ble_eq_true rfl) ?_
          refine x_iload_n dX11_source_236 rfl ?_
          refine x_if_eq 19 dX11_source_237 rfl (fun _ => ?_) (fun hc => absurd hc (by decide))
          exact F
        · have F := F.2 hc
          refine x_iconst dX11_source_230 rfl (i32_of rfl) ?_
          refine x_goto 235 dX11_source_231 rfl ?_
          refine x_istore_n [(2, 47), (0, 1)] dX11_source_235 rfl (Nat.le_of_ble_eq_true rfl) ?_
          refine x_iload_n dX11_source_236 rfl ?_
          refine x_if_eq 19 dX11_source_237 rfl (fun hc => absurd hc (by decide)) (fun _ => ?_)
          refine x_aload_n dX11_source_240 rfl ?_
          obtain ⟨P30, hC, F⟩ := F
          refine x_inv dY331_source_241 mlY331_213 hC (sW47 hW) (Nat.le_of_ble_eq_true rfl) (gW47 hW) rfl rfl (by omega) (Nat.zero_le _) (Nat.zero_le _) (Nat.le_of_ble_eq_true rfl) (fun o1 Y33 w32 ht hP => ?_)
          obtain rfl : o1 = none := ht
          obtain ⟨rfl, hP⟩ := hP
          have F := F w32 hP
          refine x_goto 19 dX11_source_244 rfl ?_
          exact F
      · have F := F.2 (hz251.mp hc)
        refine x_bipush dX11_source_196 kb_116 (i32_of rfl) ?_
        refine x_goto 203 dX11_source_198 rfl ?_
        obtain ⟨hi, F⟩ := F
        refine x_iast dX11_source_203 (sW53 hW) (gW53 hW) hi ?_
        refine x_aload_n dX11_source_204 rfl ?_
        refine x_getr (r' := 51) flX11_21 dX11_source_205 (sW47 hW) (gW47 hW) (rW47_4 hW) rfl (Nat.le_of_ble_eq_true rfl) ?_
        refine x_aload_n dX11_source_208 rfl ?_
        refine x_geti (e := (v 47 0)) 0 flX11_159 dX11_source_209 (sW47 hW) (gW47 hW) rfl rfl (Nat.le_of_ble_eq_true rfl) (tagn2 rfl) ?_
        refine x_dup2 dX11_source_212 (tag1 rfl) (tag1 rfl) ?_
        obtain ⟨hi, F⟩ := F
        refine x_iald (e := (v 51 (v 47 0))) dX11_source_213 (sW51 hW) (gW51 hW) hi rfl ?_
        refine x_iconst dX11_source_214 rfl (i32_of rfl) ?_
        refine x_si32 (i := 1) rfl (fun hk1 => ?_)
        obtain ⟨hz, F⟩ := F
        have hz := hz hk1
        refine x_iadd dX11_source_215 hz ?_
        obtain ⟨hi, F⟩ := F
        refine x_iast dX11_source_216 (sW51 hW) (gW51 hW) hi ?_
        refine x_aload_n dX11_source_217 rfl ?_
        obtain ⟨P34, hC, F⟩ := F
        refine x_inv dY371_source_218 mlY371_213 hC (sW47 hW) (Nat.le_of_ble_eq_true rfl) (gW47 hW) rfl rfl (by omega) (Nat.zero_le _) (Nat.zero_le _) (Nat.le_of_ble_eq_true rfl) (fun o1 Y37 w36 ht hP => ?_)
        obtain rfl : o1 = none := ht
        obtain ⟨rfl, hP⟩ := hP
        have F := F w36 hP
        refine x_aload_n dX11_source_221 rfl ?_
        refine x_geti (e := (w36 47 29)) 0 flX11_197 dX11_source_222 (sW47 hW) (gW47 hW) rfl rfl (Nat.le_of_ble_eq_true rfl) (tagn2 rfl) ?_
        refine x_bipush dX11_source_225 kb_44 (i32_of rfl) ?_
        refine x_icmp_ne 234 dX11_source_227 rfl (fun hc => ?_) (fun hc => ?_)
        · have F := F.1 hc
          refine x_iconst dX11_source_234 rfl (i32_of rfl) ?_
          refine x_istore_n [(2, 47), (0, 0)] dX11_source_235 rfl (Nat.le_of_ble_eq_true rfl) ?_
          refine x_iload_n dX11_source_236 rfl ?_
          refine x_if_eq 19 dX11_source_237 rfl (fun _ => ?_) (fun hc => absurd hc (by decide))
          exact F
        · have F := F.2 hc
          refine x_iconst dX11_source_230 rfl (i32_of rfl) ?_
          refine x_goto 235 dX11_source_231 rfl ?_
          refine x_istore_n [(2, 47), (0, 1)] dX11_source_235 rfl (Nat.le_of_ble_eq_true rfl) ?_
          refine x_iload_n dX11_source_236 rfl ?_
          refine x_if_eq 19 dX11_source_237 rfl (fun hc => absurd hc (by decide)) (fun _ => ?_)
          refine x_aload_n dX11_source_240 rfl ?_
          obtain ⟨P38, hC, F⟩ := F
          refine x_inv dY411_source_241 mlY411_213 hC (sW47 hW) (Nat.le_of_ble_eq_true rfl) (gW47 hW) rfl rfl (by omega) (Nat.zero_le _) (Nat.zero_le _) (Nat.le_of_ble_eq_true rfl) (fun o1 Y41 w40 ht hP => ?_)
          obtain rfl : o1 = none := ht
          obtain ⟨rfl, hP⟩ := hP
          have F := F w40 hP
          refine x_goto 19 dX11_source_244 rfl ?_
          exact F
    · have F := F.2 (hz241.mp hc)
      refine x_bipush dX11_source_180 kb_110 (i32_of rfl) ?_
      refine x_goto 203 dX11_source_182 rfl ?_
      obtain ⟨hi, F⟩ := F
      refine x_iast dX11_source_203 (sW53 hW) (gW53 hW) hi ?_
      refine x_aload_n dX11_source_204 rfl ?_
      refine x_getr (r' := 51) flX11_21 dX11_source_205 (sW47 hW) (gW47 hW) (rW47_4 hW) rfl (Nat.le_of_ble_eq_true rfl) ?_
      refine x_aload_n dX11_source_208 rfl ?_
      refine x_geti (e := (v 47 0)) 0 flX11_159 dX11_source_209 (sW47 hW) (gW47 hW) rfl rfl (Nat.le_of_ble_eq_true rfl) (tagn2 rfl) ?_
      refine x_dup2 dX11_source_212 (tag1 rfl) (tag1 rfl) ?_
      obtain ⟨hi, F⟩ := F
      refine x_iald (e := (v 51 (v 47 0))) dX11_source_213 (sW51 hW) (gW51 hW) hi rfl ?_
      refine x_iconst dX11_source_214 rfl (i32_of rfl) ?_
      refine x_si32 (i := 1) rfl (fun hk1 => ?_)
      obtain ⟨hz, F⟩ := F
      have hz := hz hk1
      refine x_iadd dX11_source_215 hz ?_
      obtain ⟨hi, F⟩ := F
      refine x_iast dX11_source_216 (sW51 hW) (gW51 hW) hi ?_
      refine x_aload_n dX11_source_217 rfl ?_
      obtain ⟨P42, hC, F⟩ := F
      refine x_inv dY451_source_218 mlY451_213 hC (sW47 hW) (Nat.le_of_ble_eq_true rfl) (gW47 hW) rfl rfl (by omega) (Nat.zero_le _) (Nat.zero_le _) (Nat.le_of_ble_eq_true rfl) (fun o1 Y45 w44 ht hP => ?_)
      obtain rfl : o1 = none := ht
      obtain ⟨rfl, hP⟩ := hP
      have F := F w44 hP
      refine x_aload_n dX11_source_221 rfl ?_
      refine x_geti (e := (w44 47 29)) 0 flX11_197 dX11_source_222 (sW47 hW) (gW47 hW) rfl rfl (Nat.le_of_ble_eq_true rfl) (tagn2 rfl) ?_
      refine x_bipush dX11_source_225 kb_44 (i32_of rfl) ?_
      refine x_icmp_ne 234 dX11_source_227 rfl (fun hc => ?_) (fun hc => ?_)
      · have F := F.1 hc
        refine x_iconst dX11_source_234 rfl (i32_of rfl) ?_
        refine x_istore_n [(2, 47), (0, 0)] dX11_source_235 rfl (Nat.le_of_ble_eq_true rfl) ?_
        refine x_iload_n dX11_source_236 rfl ?_
        refine x_if_eq 19 dX11_source_237 rfl (fun _ => ?_) (fun hc => absurd hc (by decide))
        exact F
      · have F := F.2 hc
        refine x_iconst dX11_source_230 rfl (i32_of rfl) ?_
        refine x_goto 235 dX11_source_231 rfl ?_
        refine x_istore_n [(2, 47), (0, 1)] dX11_source_235 rfl (Nat.le_of_ble_eq_true rfl) ?_
        refine x_iload_n dX11_source_236 rfl ?_
        refine x_if_eq 19 dX11_source_237 rfl (fun hc => absurd hc (by decide)) (fun _ => ?_)
        refine x_aload_n dX11_source_240 rfl ?_
        obtain ⟨P46, hC, F⟩ := F
        refine x_inv dY491_source_241 mlY491_213 hC (sW47 hW) (Nat.le_of_ble_eq_true rfl) (gW47 hW) rfl rfl (by omega) (Nat.zero_le _) (Nat.zero_le _) (Nat.le_of_ble_eq_true rfl) (fun o1 Y49 w48 ht hP => ?_)
        obtain rfl : o1 = none := ht
        obtain ⟨rfl, hP⟩ := hP
        have F := F w48 hP
        refine x_goto 19 dX11_source_244 rfl ?_
        exact F
  · have F := F.2 hc
    exact x_ret none rfl ⟨dX11_source_147, rfl⟩ F

set_option maxRecDepth 100000 in
set_option maxHeartbeats 4000000 in
theorem bX11_select_0 {d mc ms : Nat} {X : XX} {v : VV} {Q : QQ} (hd : 6 ≤ d) (hW : SW X) (F : (0 ≤ (v 47 0) ∧ (v 47 0) < 17) ∧ (0 ≤ (v 47 0) ∧ (v 47 0) < 17) ∧ ∃ P1 : Option AV → VV → Prop, Con mX11_sign 3 0 0 [(2, 47), (0, 61)] X (upd2 v 67 (v 47 0) (v 60 (v 47 0))) (fun o X1 v1 => X1 = X ∧ P1 o v1) ∧ ∀ (w3 : VV), P1 none w3 → (((¬ (w3 47 25) = 0) → Ex mX11_select d 37 [(2, 47), (0, 0)] [] X w3 mc ms Q) ∧ (((w3 47 25) = 0) → Ex mX11_select d 37 [(2, 47), (0, 1)] [] X w3 mc ms Q))) : Ex mX11_select d 0 [(2, 47), (3, 0)] [] X v mc ms Q := by
  refine x_aload_n dX11_select_0 rfl ?_
  refine x_getr (r' := 67) flX11_69 dX11_select_1 (sW47 hW) (gW47 hW) (rW47_20 hW) rfl (Nat.le_of_ble_eq_true rfl) ?_
  refine x_aload_n dX11_select_4 rfl ?_
  refine x_geti (e := (v 47 0)) 0 flX11_159 dX11_select_5 (sW47 hW) (gW47 hW) rfl rfl (Nat.le_of_ble_eq_true rfl) (tagn2 rfl) ?_
  refine x_aload_n dX11_select_8 rfl ?_
  refine x_getr (r' := 60) flX11_48 dX11_select_9 (sW47 hW) (gW47 hW) (rW47_13 hW) rfl (Nat.le_of_ble_eq_true rfl) ?_
  refine x_aload_n dX11_select_12 rfl ?_
  refine x_geti (e := (v 47 0)) 0 flX11_159 dX11_select_13 (sW47 hW) (gW47 hW) rfl rfl (Nat.le_of_ble_eq_true rfl) (tagn2 rfl) ?_
  obtain ⟨hi, F⟩ := F
  refine x_iald (e := (v 60 (v 47 0))) dX11_select_16 (sW60 hW) (gW60 hW) hi rfl ?_
  obtain ⟨hi, F⟩ := F
  refine x_iast dX11_select_17 (sW67 hW) (gW67 hW) hi ?_
  refine x_aload_n dX11_select_18 rfl ?_
  refine x_bipush dX11_select_19 kb_61 (i32_of rfl) ?_
  obtain ⟨P1, hC, F⟩ := F
  refine x_inv dY41_select_21 mlY41_231 hC (sW47 hW) (Nat.le_of_ble_eq_true rfl) (gW47 hW) rfl rfl (by omega) (Nat.zero_le _) (Nat.zero_le _) (Nat.le_of_ble_eq_true rfl) (fun o1 Y4 w3 ht hP => ?_)
  obtain rfl : o1 = none := ht
  obtain ⟨rfl, hP⟩ := hP
  have F := F w3 hP
  refine x_aload_n dX11_select_24 rfl ?_
  refine x_geti (e := (w3 47 25)) 0 flX11_169 dX11_select_25 (sW47 hW) (gW47 hW) rfl rfl (Nat.le_of_ble_eq_true rfl) (tagn2 rfl) ?_
  refine x_if_ne 35 dX11_select_28 rfl (fun hc => ?_) (fun hc => ?_)
  · have F := F.1 hc
    refine x_iconst dX11_select_35 rfl (i32_of rfl) ?_
    refine x_istore_n [(2, 47), (0, 0)] dX11_select_36 rfl (Nat.le_of_ble_eq_true rfl) ?_
    exact F
  · have F := F.2 hc
    refine x_iconst dX11_select_31 rfl (i32_of rfl) ?_
    refine x_goto 36 dX11_select_32 rfl ?_
    refine x_istore_n [(2, 47), (0, 1)] dX11_select_36 rfl (Nat.le_of_ble_eq_true rfl) ?_
    exact F

set_option maxRecDepth 100000 in
set_option maxHeartbeats 4000000 in
theorem bX11_select_37 {d mc ms : Nat} {X : XX} {v : VV} {Q : QQ} (x1 : Int) (hd : 6 ≤ d) (hW : SW X) (F : i32 x1 → (((x1 = 0) → (((¬ (v 47 25) = 0) → Ex mX11_select d 208 [(2, 47), (0, x1)] [] X v mc ms Q) ∧ (((v 47 25) = 0) → ∃ P5 : Option AV → VV → Prop, Con mX11_isWord 0 0 0 [(2, 47), (1, (v 47 36))] X v (fun o X1 v1 => X1 = X ∧ P5 o v1) ∧ ∀ (r6 : Int) (w7 : VV), P5 (some (0, r6)) w7 → (((¬ r6 = 0) → Ex mX11_select d 208 [(2, 47), (0, x1)] [] X w7 mc ms Q) ∧ ((r6 = 0) → ∃ P9 : Option AV → VV → Prop, Con mX11_fail 0 0 0 [(2, 47), (0, 1), (0, (w7 47 30))] X w7 (fun o X1 v1 => X1 = X ∧ P9 o v1) ∧ ∀ (w11 : VV), P9 none w11 → Ex mX11_select d 208 [(2, 47), (0, x1)] [] X w11 mc ms Q))))) ∧ ((¬ x1 = 0) → (0 ≤ (v 47 0) ∧ (v 47 0) < 17) ∧ (((¬ (v 51 (v 47 0)) = 6) → Ex mX11_select d 64 [(2, 47), (0, x1)] [] X v mc ms Q) ∧ (((v 51 (v 47 0)) = 6) → ∃ P13 : Option AV → VV → Prop, Con mX11_fail 0 0 0 [(2, 47), (0, 1), (0, (v 47 30))] X v (fun o X1 v1 => X1 = X ∧ P13 o v1) ∧ ∀ (w15 : VV), P13 none w15 → Ex mX11_select d 64 [(2, 47), (0, x1)] [] X w15 mc ms Q))))) : Ex mX11_select d 37 [(2, 47), (0, x1)] [] X v mc ms Q := by
  refine x_li32 (i := 1) rfl (fun hx1 => ?_)
  have F := F hx1
  refine x_iload_n dX11_select_37 rfl ?_
  refine x_if_eq 181 dX11_select_38 rfl (fun hc => ?_) (fun hc => ?_)
  · have F := F.1 hc
    refine x_aload_n dX11_select_181 rfl ?_
    refine x_geti (e := (v 47 25)) 0 flX11_169 dX11_select_182 (sW47 hW) (gW47 hW) rfl rfl (Nat.le_of_ble_eq_true rfl) (tagn2 rfl) ?_
    refine x_if_ne 208 dX11_select_185 rfl (fun hc => ?_) (fun hc => ?_)
    · have F := F.1 hc
      exact F
    · have F := F.2 hc
      refine x_aload_n dX11_select_188 rfl ?_
      refine x_aload_n dX11_select_189 rfl ?_
      refine x_geti (e := (v 47 36)) 1 flX11_93 dX11_select_190 (sW47 hW) (gW47 hW) rfl rfl (Nat.le_of_ble_eq_true rfl) (tagn2 rfl) ?_
      obtain ⟨P5, hC, F⟩ := F
      refine x_inv dY81_select_193 mlY81_227 hC (sW47 hW) (Nat.le_of_ble_eq_true rfl) (gW47 hW) rfl rfl (by omega) (Nat.zero_le _) (Nat.zero_le _) (Nat.le_of_ble_eq_true rfl) (fun o1 Y8 w7 ht hP => ?_)
      obtain ⟨r6, rfl⟩ : ∃ i, o1 = some (0, i) := ht
      obtain ⟨rfl, hP⟩ := hP
      have F := F r6 w7 hP
      refine x_if_ne 208 dX11_select_196 rfl (fun hc => ?_) (fun hc => ?_)
      · have F := F.1 hc
        exact F
      · have F := F.2 hc
        refine x_aload_n dX11_select_199 rfl ?_
        refine x_iconst dX11_select_200 rfl (i32_of rfl) ?_
        refine x_aload_n dX11_select_201 rfl ?_
        refine x_geti (e := (w7 47 30)) 0 flX11_188 dX11_select_202 (sW47 hW) (gW47 hW) rfl rfl (Nat.le_of_ble_eq_true rfl) (tagn2 rfl) ?_
        obtain ⟨P9, hC, F⟩ := F
        refine x_inv dY121_select_205 mlY121_216 hC (sW47 hW) (Nat.le_of_ble_eq_true rfl) (gW47 hW) rfl rfl (by omega) (Nat.zero_le _) (Nat.zero_le _) (Nat.le_of_ble_eq_true rfl) (fun o1 Y12 w11 ht hP => ?_)
        obtain rfl : o1 = none := ht
        obtain ⟨rfl, hP⟩ := hP
        have F := F w11 hP
        exact F
  · have F := F.2 hc
    refine x_aload_n dX11_select_41 rfl ?_
    refine x_getr (r' := 51) flX11_21 dX11_select_42 (sW47 hW) (gW47 hW) (rW47_4 hW) rfl (Nat.le_of_ble_eq_true rfl) ?_
    refine x_aload_n dX11_select_45 rfl ?_
    refine x_geti (e := (v 47 0)) 0 flX11_159 dX11_select_46 (sW47 hW) (gW47 hW) rfl rfl (Nat.le_of_ble_eq_true rfl) (tagn2 rfl) ?_
    obtain ⟨hi, F⟩ := F
    refine x_iald (e := (v 51 (v 47 0))) dX11_select_49 (sW51 hW) (gW51 hW) hi rfl ?_
    refine x_bipush dX11_select_50 kb_6 (i32_of rfl) ?_
    refine x_icmp_ne 64 dX11_select_52 rfl (fun hc => ?_) (fun hc => ?_)
    · have F := F.1 hc
      exact F
    · have F := F.2 hc
      refine x_aload_n dX11_select_55 rfl ?_
      refine x_iconst dX11_select_56 rfl (i32_of rfl) ?_
      refine x_aload_n dX11_select_57 rfl ?_
      refine x_geti (e := (v 47 30)) 0 flX11_188 dX11_select_58 (sW47 hW) (gW47 hW) rfl rfl (Nat.le_of_ble_eq_true rfl) (tagn2 rfl) ?_
      obtain ⟨P13, hC, F⟩ := F
      refine x_inv dY161_select_61 mlY161_216 hC (sW47 hW) (Nat.le_of_ble_eq_true rfl) (gW47 hW) rfl rfl (by omega) (Nat.zero_le _) (Nat.zero_le _) (Nat.le_of_ble_eq_true rfl) (fun o1 Y16 w15 ht hP => ?_)
      obtain rfl : o1 = none := ht
      obtain ⟨rfl, hP⟩ := hP
      have F := F w15 hP
      exact F

set_option maxRecDepth 100000 in
set_option maxHeartbeats 4000000 in
theorem bX11_select_64 {d mc ms : Nat} {X : XX} {v : VV} {Q : QQ} (x1 : Int) (hd : 6 ≤ d) (hW : SW X) (F : i32 x1 → (((¬ (v 47 25) = 0) → Ex mX11_select d 101 [(2, 47), (0, x1)] [] X v mc ms Q) ∧ (((v 47 25) = 0) → (i32 (v 47 0) → i32 (8 * (v 47 0))) ∧ (0 ≤ (v 47 0) ∧ (v 47 0) < 17) ∧ (i32 (v 51 (v 47 0)) → i32 (8 * (v 47 0)) → i32 ((8 * (v 47 0)) + (v 51 (v 47 0)))) ∧ (0 ≤ ((8 * (v 47 0)) + (v 51 (v 47 0))) ∧ ((8 * (v 47 0)) + (v 51 (v 47 0))) < 136) ∧ ∃ P17 : Option AV → VV → Prop, Con mX11_name 3 0 0 [(2, 47)] X (upd2 v 52 ((8 * (v 47 0)) + (v 51 (v 47 0))) (v 47 32)) (fun o X1 v1 => X1 = X ∧ P17 o v1) ∧ ∀ (w19 : VV), P17 none w19 → Ex mX11_select d 101 [(2, 47), (0, x1)] [] X w19 mc ms Q))) : Ex mX11_select d 64 [(2, 47), (0, x1)] [] X v mc ms Q := by
  refine x_li32 (i := 1) rfl (fun hx1 => ?_)
  have F := F hx1
  refine x_aload_n dX11_select_64 rfl ?_
  refine x_geti (e := (v 47 25)) 0 flX11_169 dX11_select_65 (sW47 hW) (gW47 hW) rfl rfl (Nat.le_of_ble_eq_true rfl) (tagn2 rfl) ?_
  refine x_if_ne 101 dX11_select_68 rfl (fun hc => ?_) (fun hc => ?_)
  · have F := F.1 hc
    exact F
  · have F := F.2 hc
    refine x_aload_n dX11_select_71 rfl ?_
    refine x_getr (r' := 52) flX11_24 dX11_select_72 (sW47 hW) (gW47 hW) (rW47_5 hW) rfl (Nat.le_of_ble_eq_true rfl) ?_
    refine x_bipush dX11_select_75 kb_8 (i32_of rfl) ?_
    refine x_aload_n dX11_select_77 rfl ?_
    refine x_geti (e := (v 47 0)) 0 flX11_159 dX11_select_78 (sW47 hW) (gW47 hW) rfl rfl (Nat.le_of_ble_eq_true rfl) (tagn2 rfl) ?_
    refine x_si32 (i := 0) rfl (fun hk0 => ?_)
    obtain ⟨hz, F⟩ := F
    have hz := hz hk0
    refine x_imul dX11_select_81 hz ?_
    refine x_aload_n dX11_select_82 rfl ?_
    refine x_getr (r' := 51) flX11_21 dX11_select_83 (sW47 hW) (gW47 hW) (rW47_4 hW) rfl (Nat.le_of_ble_eq_true rfl) ?_
    refine x_aload_n dX11_select_86 rfl ?_
    refine x_geti (e := (v 47 0)) 0 flX11_159 dX11_select_87 (sW47 hW) (gW47 hW) rfl rfl (Nat.le_of_ble_eq_true rfl) (tagn2 rfl) ?_
    obtain ⟨hi, F⟩ := F
    refine x_iald (e := (v 51 (v 47 0))) dX11_select_90 (sW51 hW) (gW51 hW) hi rfl ?_
    refine x_si32 (i := 0) rfl (fun hk0 => ?_)
    refine x_si32 (i := 1) rfl (fun hk1 => ?_)
    obtain ⟨hz, F⟩ := F
    have hz := hz hk0 hk1
    refine x_iadd dX11_select_91 hz ?_
    refine x_aload_n dX11_select_92 rfl ?_
    refine x_geti (e := (v 47 32)) 1 flX11_194 dX11_select_93 (sW47 hW) (gW47 hW) rfl rfl (Nat.le_of_ble_eq_true rfl) (tagn2 rfl) ?_
    obtain ⟨hi, F⟩ := F
    refine x_last dX11_select_96 (sW52 hW) (gW52 hW) hi ?_
    refine x_aload_n dX11_select_97 rfl ?_
    obtain ⟨P17, hC, F⟩ := F
    refine x_inv dY201_select_98 mlY201_238 hC (sW47 hW) (Nat.le_of_ble_eq_true rfl) (gW47 hW) rfl rfl (by omega) (Nat.zero_le _) (Nat.zero_le _) (Nat.le_of_ble_eq_true rfl) (fun o1 Y20 w19 ht hP => ?_)
    obtain rfl : o1 = none := ht
    obtain ⟨rfl, hP⟩ := hP
    have F := F w19 hP
    exact F

set_option maxRecDepth 100000 in
set_option maxHeartbeats 4000000 in
theorem bX11_select_101 {d mc ms : Nat} {X : XX} {v : VV} {Q : QQ} (x1 : Int) (hd : 6 ≤ d) (hW : SW X) (F : i32 x1 → (((¬ (v 47 25) = 0) → Ex mX11_select d 114 [(2, 47), (0, x1)] [] X v mc ms Q) ∧ (((v 47 25) = 0) → ∃ P21 : Option AV → VV → Prop, Con mX11_sign 3 0 0 [(2, 47), (0, 58)] X v (fun o X1 v1 => X1 = X ∧ P21 o v1) ∧ ∀ (w23 : VV), P21 none w23 → Ex mX11_select d 114 [(2, 47), (0, x1)] [] X w23 mc ms Q))) : Ex mX11_select d 101 [(2, 47), (0, x1)] [] X v mc ms Q := by
  refine x_li32 (i := 1) rfl (fun hx1 => ?_)
  have F := F hx1
  refine x_aload_n dX11_select_101 rfl ?_
  refine x_geti (e := (v 47 25)) 0 flX11_169 dX11_select_102 (sW47 hW) (gW47 hW) rfl rfl (Nat.le_of_ble_eq_true rfl) (tagn2 rfl) ?_
  refine x_if_ne 114 dX11_select_105 rfl (fun hc => ?_) (fun hc => ?_)
  · have F := F.1 hc
    exact F
  · have F := F.2 hc
    refine x_aload_n dX11_select_108 rfl ?_
    refine x_bipush dX11_select_109 kb_58 (i32_of rfl) ?_
    obtain ⟨P21, hC, F⟩ := F
    refine x_inv dY241_select_111 mlY241_231 hC (sW47 hW) (Nat.le_of_ble_eq_true rfl) (gW47 hW) rfl rfl (by omega) (Nat.zero_le _) (Nat.zero_le _) (Nat.le_of_ble_eq_true rfl) (fun o1 Y24 w23 ht hP => ?_)
    obtain rfl : o1 = none := ht
    obtain ⟨rfl, hP⟩ := hP
    have F := F w23 hP
    exact F

set_option maxRecDepth 100000 in
set_option maxHeartbeats 4000000 in
theorem bX11_select_114 {d mc ms : Nat} {X : XX} {v : VV} {Q : QQ} (x1 : Int) (hd : 6 ≤ d) (hW : SW X) (F : i32 x1 → (((¬ (v 47 25) = 0) → Ex mX11_select d 134 [(2, 47), (0, x1)] [] X v mc ms Q) ∧ (((v 47 25) = 0) → (0 ≤ (v 47 0) ∧ (v 47 0) < 17) ∧ ∃ P25 : Option AV → VV → Prop, Con mX11_formula 5 0 0 [(2, 47), (0, (v 51 (v 47 0)))] X v (fun o X1 v1 => X1 = X ∧ P25 o v1) ∧ ∀ (w27 : VV), P25 none w27 → Ex mX11_select d 134 [(2, 47), (0, x1)] [] X w27 mc ms Q))) : Ex mX11_select d 114 [(2, 47), (0, x1)] [] X v mc ms Q := by
  refine x_li32 (i := 1) rfl (fun hx1 => ?_)
  have F := F hx1
  refine x_aload_n dX11_select_114 rfl ?_
  refine x_geti (e := (v 47 25)) 0 flX11_169 dX11_select_115 (sW47 hW) (gW47 hW) rfl rfl (Nat.le_of_ble_eq_true rfl) (tagn2 rfl) ?_
  refine x_if_ne 134 dX11_select_118 rfl (fun hc => ?_) (fun hc => ?_)
  · have F := F.1 hc
    exact F
  · have F := F.2 hc
    refine x_aload_n dX11_select_121 rfl ?_
    refine x_aload_n dX11_select_122 rfl ?_
    refine x_getr (r' := 51) flX11_21 dX11_select_123 (sW47 hW) (gW47 hW) (rW47_4 hW) rfl (Nat.le_of_ble_eq_true rfl) ?_
    refine x_aload_n dX11_select_126 rfl ?_
    refine x_geti (e := (v 47 0)) 0 flX11_159 dX11_select_127 (sW47 hW) (gW47 hW) rfl rfl (Nat.le_of_ble_eq_true rfl) (tagn2 rfl) ?_
    obtain ⟨hi, F⟩ := F
    refine x_iald (e := (v 51 (v 47 0))) dX11_select_130 (sW51 hW) (gW51 hW) hi rfl ?_
    obtain ⟨P25, hC, F⟩ := F
    refine x_inv dY281_select_131 mlY281_246 hC (sW47 hW) (Nat.le_of_ble_eq_true rfl) (gW47 hW) rfl rfl (by omega) (Nat.zero_le _) (Nat.zero_le _) (Nat.le_of_ble_eq_true rfl) (fun o1 Y28 w27 ht hP => ?_)
    obtain rfl : o1 = none := ht
    obtain ⟨rfl, hP⟩ := hP
    have F := F w27 hP
    exact F

set_option maxRecDepth 100000 in
set_option maxHeartbeats 4000000 in
theorem bX11_select_134 {d mc ms : Nat} {X : XX} {v : VV} {Q : QQ} (x1 : Int) (hd : 6 ≤ d) (hW : SW X) (F : i32 x1 → ((((v 47 25) = 0) → (0 ≤ (v 47 0) ∧ (v 47 0) < 17) ∧ (i32 (v 51 (v 47 0)) → i32 ((v 51 (v 47 0)) + 1)) ∧ (0 ≤ (v 47 0) ∧ (v 47 0) < 17) ∧ (((¬ (v 47 29) = 44) → Ex mX11_select d 37 [(2, 47), (0, 0)] [] X (upd2 v 51 (v 47 0) ((v 51 (v 47 0)) + 1)) mc ms Q) ∧ (((v 47 29) = 44) → ∃ P29 : Option AV → VV → Prop, Con mX11_keeps 2 0 0 [(2, 47)] X (upd2 v 51 (v 47 0) ((v 51 (v 47 0)) + 1)) (fun o X1 v1 => X1 = X ∧ P29 o v1) ∧ ∀ (w31 : VV), P29 none w31 → Ex mX11_select d 37 [(2, 47), (0, 1)] [] X w31 mc ms Q))) ∧ ((¬ (v 47 25) = 0) → Q none X v))) : Ex mX11_select d 134 [(2, 47), (0, x1)] [] X v mc ms Q := by
  refine x_li32 (i := 1) rfl (fun hx1 => ?_)
  have F := F hx1
  refine x_aload_n dX11_select_134 rfl ?_
  refine x_geti (e := (v 47 25)) 0 flX11_169 dX11_select_135 (sW47 hW) (gW47 hW) rfl rfl (Nat.le_of_ble_eq_true rfl) (tagn2 rfl) ?_
  refine x_if_eq 142 dX11_select_138 rfl (fun hc => ?_) (fun hc => ?_)
  · have F := F.1 hc
    refine x_aload_n dX11_select_142 rfl ?_
    refine x_getr (r' := 51) flX11_21 dX11_select_143 (sW47 hW) (gW47 hW) (rW47_4 hW) rfl (Nat.le_of_ble_eq_true rfl) ?_
    refine x_aload_n dX11_select_146 rfl ?_
    refine x_geti (e := (v 47 0)) 0 flX11_159 dX11_select_147 (sW47 hW) (gW47 hW) rfl rfl (Nat.le_of_ble_eq_true rfl) (tagn2 rfl) ?_
    refine x_dup2 dX11_select_150 (tag1 rfl) (tag1 rfl) ?_
    obtain ⟨hi, F⟩ := F
    refine x_iald (e := (v 51 (v 47 0))) dX11_select_151 (sW51 hW) (gW51 hW) hi rfl ?_
    refine x_iconst dX11_select_152 rfl (i32_of rfl) ?_
    refine x_si32 (i := 1) rfl (fun hk1 => ?_)
    obtain ⟨hz, F⟩ := F
    have hz := hz hk1
    refine x_iadd dX11_select_153 hz ?_
    obtain ⟨hi, F⟩ := F
    refine x_iast dX11_select_154 (sW51 hW) (gW51 hW) hi ?_
    refine x_aload_n dX11_select_155 rfl ?_
    refine x_geti (e := (v 47 29)) 0 flX11_197 dX11_select_156 (sW47 hW) (gW47 hW) rfl rfl (Nat.le_of_ble_eq_true rfl) (tagn2 rfl) ?_
    refine x_bipush dX11_select_159 kb_44 (i32_of rfl) ?_
    refine x_icmp_ne 168 dX11_select_161 rfl (fun hc => ?_) (fun hc => ?_)
    · have F := F.1 hc
      refine x_iconst dX11_select_168 rfl (i32_of rfl) ?_
      refine x_istore_n [(2, 47), (0, 0)] dX11_select_169 rfl (Nat.le_of_ble_eq_true rfl) ?_
      refine x_iload_n dX11_select_170 rfl ?_
      refine x_if_eq 37 dX11_select_171 rfl (fun _ => ?_) (fun hc => absurd hc (by decide))
      exact F
    · have F := F.2 hc
      refine x_iconst dX11_select_164 rfl (i32_of rfl) ?_
      refine x_goto 169 dX11_select_165 rfl ?_
      refine x_istore_n [(2, 47), (0, 1)] dX11_select_169 rfl (Nat.le_of_ble_eq_true rfl) ?_
      refine x_iload_n dX11_select_170 rfl ?_
      refine x_if_eq 37 dX11_select_171 rfl (fun hc => absurd hc (by decide)) (fun _ => ?_)
      refine x_aload_n dX11_select_174 rfl ?_
      obtain ⟨P29, hC, F⟩ := F
      refine x_inv dY321_select_175 mlY321_213 hC (sW47 hW) (Nat.le_of_ble_eq_true rfl) (gW47 hW) rfl rfl (by omega) (Nat.zero_le _) (Nat.zero_le _) (Nat.le_of_ble_eq_true rfl) (fun o1 Y32 w31 ht hP => ?_)
      obtain rfl : o1 = none := ht
      obtain ⟨rfl, hP⟩ := hP
      have F := F w31 hP
      refine x_goto 37 dX11_select_178 rfl ?_
      exact F
  · have F := F.2 hc
    exact x_ret none rfl ⟨dX11_select_141, rfl⟩ F

set_option maxRecDepth 100000 in
set_option maxHeartbeats 4000000 in
theorem bX11_select_208 {d mc ms : Nat} {X : XX} {v : VV} {Q : QQ} (x1 : Int) (hd : 6 ≤ d) (hW : SW X) (F : i32 x1 → ((((v 47 25) = 0) → ∃ P33 : Option AV → VV → Prop, Con mX11_keeps 2 0 0 [(2, 47)] X v (fun o X1 v1 => X1 = X ∧ P33 o v1) ∧ ∀ (w35 : VV), P33 none w35 → (0 ≤ (w35 47 0) ∧ (w35 47 0) < 17) ∧ Ex mX11_select d 235 [(2, 47), (0, 1)] [] X (upd2 w35 47 41 (w35 60 (w35 47 0))) mc ms Q) ∧ ((¬ (v 47 25) = 0) → Q none X v))) : Ex mX11_select d 208 [(2, 47), (0, x1)] [] X v mc ms Q := by
  refine x_li32 (i := 1) rfl (fun hx1 => ?_)
  have F := F hx1
  refine x_aload_n dX11_select_208 rfl ?_
  refine x_geti (e := (v 47 25)) 0 flX11_169 dX11_select_209 (sW47 hW) (gW47 hW) rfl rfl (Nat.le_of_ble_eq_true rfl) (tagn2 rfl) ?_
  refine x_if_eq 216 dX11_select_212 rfl (fun hc => ?_) (fun hc => ?_)
  · have F := F.1 hc
    refine x_aload_n dX11_select_216 rfl ?_
    obtain ⟨P33, hC, F⟩ := F
    refine x_inv dY361_select_217 mlY361_213 hC (sW47 hW) (Nat.le_of_ble_eq_true rfl) (gW47 hW) rfl rfl (by omega) (Nat.zero_le _) (Nat.zero_le _) (Nat.le_of_ble_eq_true rfl) (fun o1 Y36 w35 ht hP => ?_)
    obtain rfl : o1 = none := ht
    obtain ⟨rfl, hP⟩ := hP
    have F := F w35 hP
    refine x_aload_n dX11_select_220 rfl ?_
    refine x_aload_n dX11_select_221 rfl ?_
    refine x_getr (r' := 60) flX11_48 dX11_select_222 (sW47 hW) (gW47 hW) (rW47_13 hW) rfl (Nat.le_of_ble_eq_true rfl) ?_
    refine x_aload_n dX11_select_225 rfl ?_
    refine x_geti (e := (w35 47 0)) 0 flX11_159 dX11_select_226 (sW47 hW) (gW47 hW) rfl rfl (Nat.le_of_ble_eq_true rfl) (tagn2 rfl) ?_
    obtain ⟨hi, F⟩ := F
    refine x_iald (e := (w35 60 (w35 47 0))) dX11_select_229 (sW60 hW) (gW60 hW) hi rfl ?_
    refine x_puti 0 fwX11_249 dX11_select_230 (sW47 hW) (gW47 hW) (fun h => Bool.noConfusion h) (Nat.le_of_ble_eq_true rfl) rfl (Or.inl ⟨rfl, Or.inl rfl⟩) ?_
    refine x_iconst dX11_select_233 rfl (i32_of rfl) ?_
    refine x_istore_n [(2, 47), (0, 1)] dX11_select_234 rfl (Nat.le_of_ble_eq_true rfl) ?_
    exact F
  · have F := F.2 hc
    exact x_ret none rfl ⟨dX11_select_215, rfl⟩ F

set_option maxRecDepth 100000 in
set_option maxHeartbeats 4000000 in
theorem bX11_select_235 {d mc ms : Nat} {X : XX} {v : VV} {Q : QQ} (x1 : Int) (hd : 6 ≤ d) (hW : SW X) (F : i32 x1 → (((x1 = 0) → ∃ P37 : Option AV → VV → Prop, Con mX11_isWord 0 0 0 [(2, 47), (1, (v 47 37))] X v (fun o X1 v1 => X1 = X ∧ P37 o v1) ∧ ∀ (r38 : Int) (w39 : VV), P37 (some (0, r38)) w39 → (((¬ r38 = 0) → ∃ P41 : Option AV → VV → Prop, Con mX11_keeps 2 0 0 [(2, 47)] X w39 (fun o X1 v1 => X1 = X ∧ P41 o v1) ∧ ∀ (w43 : VV), P41 none w43 → ∃ P45 : Option AV → VV → Prop, Con mX11_formula 5 0 0 [(2, 47), (0, 6)] X w43 (fun o X1 v1 => X1 = X ∧ P45 o v1) ∧ ∀ (w47 : VV), P45 none w47 → (((¬ (w47 47 25) = 0) → Ex mX11_select d 411 [(2, 47), (0, x1)] [] X w47 mc ms Q) ∧ (((w47 47 25) = 0) → ((((w47 47 29) = 60) → Ex mX11_select d 411 [(2, 47), (0, x1)] [] X w47 mc ms Q) ∧ ((¬ (w47 47 29) = 60) → ((((w47 47 29) = 61) → Ex mX11_select d 411 [(2, 47), (0, x1)] [] X w47 mc ms Q) ∧ ((¬ (w47 47 29) = 61) → ∃ P49 : Option AV → VV → Prop, Con mX11_fail 0 0 0 [(2, 47), (0, 1), (0, (w47 47 30))] X w47 (fun o X1 v1 => X1 = X ∧ P49 o v1) ∧ ∀ (w51 : VV), P49 none w51 → Ex mX11_select d 411 [(2, 47), (0, x1)] [] X w51 mc ms Q))))))) ∧ ((r38 = 0) → Q none X w39))) ∧ ((¬ x1 = 0) → (0 ≤ (v 47 0) ∧ (v 47 0) < 17) ∧ (((¬ (v 54 (v 47 0)) = 3) → Ex mX11_select d 261 [(2, 47), (0, x1)] [] X v mc ms Q) ∧ (((v 54 (v 47 0)) = 3) → ∃ P53 : Option AV → VV → Prop, Con mX11_fail 0 0 0 [(2, 47), (0, 1), (0, (v 47 30))] X v (fun o X1 v1 => X1 = X ∧ P53 o v1) ∧ ∀ (w55 : VV), P53 none w55 → Ex mX11_select d 261 [(2, 47), (0, x1)] [] X w55 mc ms Q))))) : Ex mX11_select d 235 [(2, 47), (0, x1)] [] X v mc ms Q := by
  refine x_li32 (i := 1) rfl (fun hx1 => ?_)
  have F := F hx1
  refine x_iload_n dX11_select_235 rfl ?_
  refine x_if_eq 355 dX11_select_236 rfl (fun hc => ?_) (fun hc => ?_)
  · have F := F.1 hc
    refine x_aload_n dX11_select_355 rfl ?_
    refine x_aload_n dX11_select_356 rfl ?_
    refine x_geti (e := (v 47 37)) 1 flX11_96 dX11_select_357 (sW47 hW) (gW47 hW) rfl rfl (Nat.le_of_ble_eq_true rfl) (tagn2 rfl) ?_
    obtain ⟨P37, hC, F⟩ := F
    refine x_inv dY401_select_360 mlY401_227 hC (sW47 hW) (Nat.le_of_ble_eq_true rfl) (gW47 hW) rfl rfl (by omega) (Nat.zero_le _) (Nat.zero_le _) (Nat.le_of_ble_eq_true rfl) (fun o1 Y40 w39 ht hP => ?_)
    obtain ⟨r38, rfl⟩ : ∃ i, o1 = some (0, i) := ht
    obtain ⟨rfl, hP⟩ := hP
    have F := F r38 w39 hP
    refine x_if_ne 367 dX11_select_363 rfl (fun hc => ?_) (fun hc => ?_)
    · have F := F.1 hc
      refine x_aload_n dX11_select_367 rfl ?_
      obtain ⟨P41, hC, F⟩ := F
      refine x_inv dY441_select_368 mlY441_213 hC (sW47 hW) (Nat.le_of_ble_eq_true rfl) (gW47 hW) rfl rfl (by omega) (Nat.zero_le _) (Nat.zero_le _) (Nat.le_of_ble_eq_true rfl) (fun o1 Y44 w43 ht hP => ?_)
      obtain rfl : o1 = none := ht
      obtain ⟨rfl, hP⟩ := hP
      have F := F w43 hP
      refine x_aload_n dX11_select_371 rfl ?_
      refine x_bipush dX11_select_372 kb_6 (i32_of rfl) ?_
      obtain ⟨P45, hC, F⟩ := F
      refine x_inv dY481_select_374 mlY481_246 hC (sW47 hW) (Nat.le_of_ble_eq_true rfl) (gW47 hW) rfl rfl (by omega) (Nat.zero_le _) (Nat.zero_le _) (Nat.le_of_ble_eq_true rfl) (fun o1 Y48 w47 ht hP => ?_)
      obtain rfl : o1 = none := ht
      obtain ⟨rfl, hP⟩ := hP
      have F := F w47 hP
      refine x_aload_n dX11_select_377 rfl ?_
      refine x_geti (e := (w47 47 25)) 0 flX11_169 dX11_select_378 (sW47 hW) (gW47 hW) rfl rfl (Nat.le_of_ble_eq_true rfl) (tagn2 rfl) ?_
      refine x_if_ne 411 dX11_select_381 rfl (fun hc => ?_) (fun hc => ?_)
      · have F := F.1 hc
        exact F
      · have F := F.2 hc
        refine x_aload_n dX11_select_384 rfl ?_
        refine x_geti (e := (w47 47 29)) 0 flX11_197 dX11_select_385 (sW47 hW) (gW47 hW) rfl rfl (Nat.le_of_ble_eq_true rfl) (tagn2 rfl) ?_
        refine x_bipush dX11_select_388 kb_60 (i32_of rfl) ?_
        refine x_icmp_eq 411 dX11_select_390 rfl (fun hc => ?_) (fun hc => ?_)
        · have F := F.1 hc
          exact F
        · have F := F.2 hc
          refine x_aload_n dX11_select_393 rfl ?_
          refine x_geti (e := (w47 47 29)) 0 flX11_197 dX11_select_394 (sW47 hW) (gW47 hW) rfl rfl (Nat.le_of_ble_eq_true rfl) (tagn2 rfl) ?_
          refine x_bipush dX11_select_397 kb_61 (i32_of rfl) ?_
          refine x_icmp_eq 411 dX11_select_399 rfl (fun hc => ?_) (fun hc => ?_)
          · have F := F.1 hc
            exact F
          · have F := F.2 hc
            refine x_aload_n dX11_select_402 rfl ?_
            refine x_iconst dX11_select_403 rfl (i32_of rfl) ?_
            refine x_aload_n dX11_select_404 rfl ?_
            refine x_geti (e := (w47 47 30)) 0 flX11_188 dX11_select_405 (sW47 hW) (gW47 hW) rfl rfl (Nat.le_of_ble_eq_true rfl) (tagn2 rfl) ?_
            obtain ⟨P49, hC, F⟩ := F
            refine x_inv dY521_select_408 mlY521_216 hC (sW47 hW) (Nat.le_of_ble_eq_true rfl) (gW47 hW) rfl rfl (by omega) (Nat.zero_le _) (Nat.zero_le _) (Nat.le_of_ble_eq_true rfl) (fun o1 Y52 w51 ht hP => ?_)
            obtain rfl : o1 = none := ht
            obtain ⟨rfl, hP⟩ := hP
            have F := F w51 hP
            exact F
    · have F := F.2 hc
      exact x_ret none rfl ⟨dX11_select_366, rfl⟩ F
  · have F := F.2 hc
    refine x_aload_n dX11_select_239 rfl ?_
    refine x_getr (r' := 54) flX11_30 dX11_select_240 (sW47 hW) (gW47 hW) (rW47_7 hW) rfl (Nat.le_of_ble_eq_true rfl) ?_
    refine x_aload_n dX11_select_243 rfl ?_
    refine x_geti (e := (v 47 0)) 0 flX11_159 dX11_select_244 (sW47 hW) (gW47 hW) rfl rfl (Nat.le_of_ble_eq_true rfl) (tagn2 rfl) ?_
    obtain ⟨hi, F⟩ := F
    refine x_iald (e := (v 54 (v 47 0))) dX11_select_247 (sW54 hW) (gW54 hW) hi rfl ?_
    refine x_iconst dX11_select_248 rfl (i32_of rfl) ?_
    refine x_icmp_ne 261 dX11_select_249 rfl (fun hc => ?_) (fun hc => ?_)
    · have F := F.1 hc
      exact F
    · have F := F.2 hc
      refine x_aload_n dX11_select_252 rfl ?_
      refine x_iconst dX11_select_253 rfl (i32_of rfl) ?_
      refine x_aload_n dX11_select_254 rfl ?_
      refine x_geti (e := (v 47 30)) 0 flX11_188 dX11_select_255 (sW47 hW) (gW47 hW) rfl rfl (Nat.le_of_ble_eq_true rfl) (tagn2 rfl) ?_
      obtain ⟨P53, hC, F⟩ := F
      refine x_inv dY561_select_258 mlY561_216 hC (sW47 hW) (Nat.le_of_ble_eq_true rfl) (gW47 hW) rfl rfl (by omega) (Nat.zero_le _) (Nat.zero_le _) (Nat.le_of_ble_eq_true rfl) (fun o1 Y56 w55 ht hP => ?_)
      obtain rfl : o1 = none := ht
      obtain ⟨rfl, hP⟩ := hP
      have F := F w55 hP
      exact F

set_option maxRecDepth 100000 in
set_option maxHeartbeats 4000000 in
theorem bX11_select_261 {d mc ms : Nat} {X : XX} {v : VV} {Q : QQ} (x1 : Int) (hd : 6 ≤ d) (hW : SW X) (F : i32 x1 → (((¬ (v 47 25) = 0) → Ex mX11_select d 308 [(2, 47), (0, x1)] [] X v mc ms Q) ∧ (((v 47 25) = 0) → (0 ≤ (v 47 0) ∧ (v 47 0) < 17) ∧ (0 ≤ (v 54 (v 47 0)) ∧ (v 54 (v 47 0)) < 3) ∧ (0 ≤ (v 47 0) ∧ (v 47 0) < 17) ∧ (0 ≤ (v 54 (v 47 0)) ∧ (v 54 (v 47 0)) < 3) ∧ ∃ P57 : Option AV → VV → Prop, Con mX11_name 3 0 0 [(2, 47)] X (upd2 (upd2 v 70 (v 54 (v 47 0)) (v 47 32)) 71 (v 54 (v 47 0)) (v 47 30)) (fun o X1 v1 => X1 = X ∧ P57 o v1) ∧ ∀ (w59 : VV), P57 none w59 → Ex mX11_select d 308 [(2, 47), (0, x1)] [] X w59 mc ms Q))) : Ex mX11_select d 261 [(2, 47), (0, x1)] [] X v mc ms Q := by
  refine x_li32 (i := 1) rfl (fun hx1 => ?_)
  have F := F hx1
  refine x_aload_n dX11_select_261 rfl ?_
  refine x_geti (e := (v 47 25)) 0 flX11_169 dX11_select_262 (sW47 hW) (gW47 hW) rfl rfl (Nat.le_of_ble_eq_true rfl) (tagn2 rfl) ?_
  refine x_if_ne 308 dX11_select_265 rfl (fun hc => ?_) (fun hc => ?_)
  · have F := F.1 hc
    exact F
  · have F := F.2 hc
    refine x_aload_n dX11_select_268 rfl ?_
    refine x_getr (r' := 70) flX11_108 dX11_select_269 (sW47 hW) (gW47 hW) (rW47_43 hW) rfl (Nat.le_of_ble_eq_true rfl) ?_
    refine x_aload_n dX11_select_272 rfl ?_
    refine x_getr (r' := 54) flX11_30 dX11_select_273 (sW47 hW) (gW47 hW) (rW47_7 hW) rfl (Nat.le_of_ble_eq_true rfl) ?_
    refine x_aload_n dX11_select_276 rfl ?_
    refine x_geti (e := (v 47 0)) 0 flX11_159 dX11_select_277 (sW47 hW) (gW47 hW) rfl rfl (Nat.le_of_ble_eq_true rfl) (tagn2 rfl) ?_
    obtain ⟨hi, F⟩ := F
    refine x_iald (e := (v 54 (v 47 0))) dX11_select_280 (sW54 hW) (gW54 hW) hi rfl ?_
    refine x_aload_n dX11_select_281 rfl ?_
    refine x_geti (e := (v 47 32)) 1 flX11_194 dX11_select_282 (sW47 hW) (gW47 hW) rfl rfl (Nat.le_of_ble_eq_true rfl) (tagn2 rfl) ?_
    obtain ⟨hi, F⟩ := F
    refine x_last dX11_select_285 (sW70 hW) (gW70 hW) hi ?_
    refine x_aload_n dX11_select_286 rfl ?_
    refine x_getr (r' := 71) flX11_111 dX11_select_287 (sW47 hW) (gW47 hW) (rW47_44 hW) rfl (Nat.le_of_ble_eq_true rfl) ?_
    refine x_aload_n dX11_select_290 rfl ?_
    refine x_getr (r' := 54) flX11_30 dX11_select_291 (sW47 hW) (gW47 hW) (rW47_7 hW) rfl (Nat.le_of_ble_eq_true rfl) ?_
    refine x_aload_n dX11_select_294 rfl ?_
    refine x_geti (e := (v 47 0)) 0 flX11_159 dX11_select_295 (sW47 hW) (gW47 hW) rfl rfl (Nat.le_of_ble_eq_true rfl) (tagn2 rfl) ?_
    obtain ⟨hi, F⟩ := F
    refine x_iald (e := (v 54 (v 47 0))) dX11_select_298 (sW54 hW) (gW54 hW) hi rfl ?_
    refine x_aload_n dX11_select_299 rfl ?_
    refine x_geti (e := (v 47 30)) 0 flX11_188 dX11_select_300 (sW47 hW) (gW47 hW) rfl rfl (Nat.le_of_ble_eq_true rfl) (tagn2 rfl) ?_
    obtain ⟨hi, F⟩ := F
    refine x_iast dX11_select_303 (sW71 hW) (gW71 hW) hi ?_
    refine x_aload_n dX11_select_304 rfl ?_
    obtain ⟨P57, hC, F⟩ := F
    refine x_inv dY601_select_305 mlY601_238 hC (sW47 hW) (Nat.le_of_ble_eq_true rfl) (gW47 hW) rfl rfl (by omega) (Nat.zero_le _) (Nat.zero_le _) (Nat.le_of_ble_eq_true rfl) (fun o1 Y60 w59 ht hP => ?_)
    obtain rfl : o1 = none := ht
    obtain ⟨rfl, hP⟩ := hP
    have F := F w59 hP
    exact F

set_option maxRecDepth 100000 in
set_option maxHeartbeats 4000000 in
theorem bX11_select_308 {d mc ms : Nat} {X : XX} {v : VV} {Q : QQ} (x1 : Int) (hd : 6 ≤ d) (hW : SW X) (F : i32 x1 → ((((v 47 25) = 0) → (0 ≤ (v 47 0) ∧ (v 47 0) < 17) ∧ (i32 (v 54 (v 47 0)) → i32 ((v 54 (v 47 0)) + 1)) ∧ (0 ≤ (v 47 0) ∧ (v 47 0) < 17) ∧ (((¬ (v 47 29) = 44) → Ex mX11_select d 235 [(2, 47), (0, 0)] [] X (upd2 v 54 (v 47 0) ((v 54 (v 47 0)) + 1)) mc ms Q) ∧ (((v 47 29) = 44) → ∃ P61 : Option AV → VV → Prop, Con mX11_keeps 2 0 0 [(2, 47)] X (upd2 v 54 (v 47 0) ((v 54 (v 47 0)) + 1)) (fun o X1 v1 => X1 = X ∧ P61 o v1) ∧ ∀ (w63 : VV), P61 none w63 → Ex mX11_select d 235 [(2, 47), (0, 1)] [] X w63 mc ms Q))) ∧ ((¬ (v 47 25) = 0) → Q none X v))) : Ex mX11_select d 308 [(2, 47), (0, x1)] [] X v mc ms Q := by
  refine x_li32 (i := 1) rfl (fun hx1 => ?_)
  have F := F hx1
  refine x_aload_n dX11_select_308 rfl ?_
  refine x_geti (e := (v 47 25)) 0 flX11_169 dX11_select_309 (sW47 hW) (gW47 hW) rfl rfl (Nat.le_of_ble_eq_true rfl) (tagn2 rfl) ?_
  refine x_if_eq 316 dX11_select_312 rfl (fun hc => ?_) (fun hc => ?_)
  · have F := F.1 hc
    refine x_aload_n dX11_select_316 rfl ?_
    refine x_getr (r' := 54) flX11_30 dX11_select_317 (sW47 hW) (gW47 hW) (rW47_7 hW) rfl (Nat.le_of_ble_eq_true rfl) ?_
    refine x_aload_n dX11_select_320 rfl ?_
    refine x_geti (e := (v 47 0)) 0 flX11_159 dX11_select_321 (sW47 hW) (gW47 hW) rfl rfl (Nat.le_of_ble_eq_true rfl) (tagn2 rfl) ?_
    refine x_dup2 dX11_select_324 (tag1 rfl) (tag1 rfl) ?_
    obtain ⟨hi, F⟩ := F
    refine x_iald (e := (v 54 (v 47 0))) dX11_select_325 (sW54 hW) (gW54 hW) hi rfl ?_
    refine x_iconst dX11_select_326 rfl (i32_of rfl) ?_
    refine x_si32 (i := 1) rfl (fun hk1 => ?_)
    obtain ⟨hz, F⟩ := F
    have hz := hz hk1
    refine x_iadd dX11_select_327 hz ?_
    obtain ⟨hi, F⟩ := F
    refine x_iast dX11_select_328 (sW54 hW) (gW54 hW) hi ?_
    refine x_aload_n dX11_select_329 rfl ?_
    refine x_geti (e := (v 47 29)) 0 flX11_197 dX11_select_330 (sW47 hW) (gW47 hW) rfl rfl (Nat.le_of_ble_eq_true rfl) (tagn2 rfl) ?_
    refine x_bipush dX11_select_333 kb_44 (i32_of rfl) ?_
    refine x_icmp_ne 342 dX11_select_335 rfl (fun hc => ?_) (fun hc => ?_)
    · have F := F.1 hc
      refine x_iconst dX11_select_342 rfl (i32_of rfl) ?_
      refine x_istore_n [(2, 47), (0, 0)] dX11_select_343 rfl (Nat.le_of_ble_eq_true rfl) ?_
      refine x_iload_n dX11_select_344 rfl ?_
      refine x_if_eq 235 dX11_select_345 rfl (fun _ => ?_) (fun hc => absurd hc (by decide))
      exact F
    · have F := F.2 hc
      refine x_iconst dX11_select_338 rfl (i32_of rfl) ?_
      refine x_goto 343 dX11_select_339 rfl ?_
      refine x_istore_n [(2, 47), (0, 1)] dX11_select_343 rfl (Nat.le_of_ble_eq_true rfl) ?_
      refine x_iload_n dX11_select_344 rfl ?_
      refine x_if_eq 235 dX11_select_345 rfl (fun hc => absurd hc (by decide)) (fun _ => ?_)
      refine x_aload_n dX11_select_348 rfl ?_
      obtain ⟨P61, hC, F⟩ := F
      refine x_inv dY641_select_349 mlY641_213 hC (sW47 hW) (Nat.le_of_ble_eq_true rfl) (gW47 hW) rfl rfl (by omega) (Nat.zero_le _) (Nat.zero_le _) (Nat.le_of_ble_eq_true rfl) (fun o1 Y64 w63 ht hP => ?_)
      obtain rfl : o1 = none := ht
      obtain ⟨rfl, hP⟩ := hP
      have F := F w63 hP
      refine x_goto 235 dX11_select_352 rfl ?_
      exact F
  · have F := F.2 hc
    exact x_ret none rfl ⟨dX11_select_315, rfl⟩ F

set_option maxRecDepth 100000 in
set_option maxHeartbeats 4000000 in
theorem bX11_select_411 {d mc ms : Nat} {X : XX} {v : VV} {Q : QQ} (x1 : Int) (hd : 6 ≤ d) (hW : SW X) (F : i32 x1 → ((((v 47 25) = 0) → ∃ P65 : Option AV → VV → Prop, Con mX11_keeps 2 0 0 [(2, 47)] X (upd2 v 47 42 (v 47 30)) (fun o X1 v1 => X1 = X ∧ P65 o v1) ∧ ∀ (w67 : VV), P65 none w67 → ∃ P69 : Option AV → VV → Prop, Con mX11_formula 5 0 0 [(2, 47), (0, 7)] X w67 (fun o X1 v1 => X1 = X ∧ P69 o v1) ∧ ∀ (w71 : VV), P69 none w71 → Q none X w71) ∧ ((¬ (v 47 25) = 0) → Q none X v))) : Ex mX11_select d 411 [(2, 47), (0, x1)] [] X v mc ms Q := by
  refine x_li32 (i := 1) rfl (fun hx1 => ?_)
  have F := F hx1
  refine x_aload_n dX11_select_411 rfl ?_
  refine x_geti (e := (v 47 25)) 0 flX11_169 dX11_select_412 (sW47 hW) (gW47 hW) rfl rfl (Nat.le_of_ble_eq_true rfl) (tagn2 rfl) ?_
  refine x_if_eq 419 dX11_select_415 rfl (fun hc => ?_) (fun hc => ?_)
  · have F := F.1 hc
    refine x_aload_n dX11_select_419 rfl ?_
    refine x_aload_n dX11_select_420 rfl ?_
    refine x_geti (e := (v 47 30)) 0 flX11_188 dX11_select_421 (sW47 hW) (gW47 hW) rfl rfl (Nat.le_of_ble_eq_true rfl) (tagn2 rfl) ?_
    refine x_puti 0 fwX11_252 dX11_select_424 (sW47 hW) (gW47 hW) (fun h => Bool.noConfusion h) (Nat.le_of_ble_eq_true rfl) rfl (Or.inl ⟨rfl, Or.inl rfl⟩) ?_
    refine x_aload_n dX11_select_427 rfl ?_
    obtain ⟨P65, hC, F⟩ := F
    refine x_inv dY681_select_428 mlY681_213 hC (sW47 hW) (Nat.le_of_ble_eq_true rfl) (gW47 hW) rfl rfl (by omega) (Nat.zero_le _) (Nat.zero_le _) (Nat.le_of_ble_eq_true rfl) (fun o1 Y68 w67 ht hP => ?_)
    obtain rfl : o1 = none := ht
    obtain ⟨rfl, hP⟩ := hP
    have F := F w67 hP
    refine x_aload_n dX11_select_431 rfl ?_
    refine x_bipush dX11_select_432 kb_7 (i32_of rfl) ?_
    obtain ⟨P69, hC, F⟩ := F
    refine x_inv dY721_select_434 mlY721_246 hC (sW47 hW) (Nat.le_of_ble_eq_true rfl) (gW47 hW) rfl rfl (by omega) (Nat.zero_le _) (Nat.zero_le _) (Nat.le_of_ble_eq_true rfl) (fun o1 Y72 w71 ht hP => ?_)
    obtain rfl : o1 = none := ht
    obtain ⟨rfl, hP⟩ := hP
    have F := F w71 hP
    exact x_ret none rfl ⟨dX11_select_437, rfl⟩ F
  · have F := F.2 hc
    exact x_ret none rfl ⟨dX11_select_418, rfl⟩ F

set_option maxRecDepth 100000 in
set_option maxHeartbeats 4000000 in
theorem bX11_means_0 {d mc ms : Nat} {X : XX} {v : VV} {Q : QQ} (a1 : Int) (a2 : Int) (hd : 0 ≤ d) (hW : SW X) (F : i32 a1 → i32 a2 → ((((v 47 25) = 0) → Ex mX11_means d 16 [(2, 47), (0, a1), (0, a2)] [] X v mc ms Q) ∧ ((¬ (v 47 25) = 0) → (((a2 < (v 47 26)) → Ex mX11_means d 16 [(2, 47), (0, a1), (0, a2)] [] X v mc ms Q) ∧ (((v 47 26) ≤ a2) → Q none X v))))) : Ex mX11_means d 0 [(2, 47), (0, a1), (0, a2)] [] X v mc ms Q := by
  refine x_li32 (i := 1) rfl (fun ha1 => ?_)
  have F := F ha1
  refine x_li32 (i := 2) rfl (fun ha2 => ?_)
  have F := F ha2
  refine x_aload_n dX11_means_0 rfl ?_
  refine x_geti (e := (v 47 25)) 0 flX11_169 dX11_means_1 (sW47 hW) (gW47 hW) rfl rfl (Nat.le_of_ble_eq_true rfl) (tagn2 rfl) ?_
  refine x_if_eq 16 dX11_means_4 rfl (fun hc => ?_) (fun hc => ?_)
  · have F := F.1 hc
    exact F
  · have F := F.2 hc
    refine x_aload_n dX11_means_7 rfl ?_
    refine x_geti (e := (v 47 26)) 0 flX11_172 dX11_means_8 (sW47 hW) (gW47 hW) rfl rfl (Nat.le_of_ble_eq_true rfl) (tagn2 rfl) ?_
    refine x_iload_n dX11_means_11 rfl ?_
    refine x_icmp_gt 16 dX11_means_12 rfl (fun hc => ?_) (fun hc => ?_)
    · have F := F.1 hc
      exact F
    · have F := F.2 hc
      exact x_ret none rfl ⟨dX11_means_15, rfl⟩ F

set_option maxRecDepth 100000 in
set_option maxHeartbeats 4000000 in
theorem bX11_means_16 {d mc ms : Nat} {X : XX} {v : VV} {Q : QQ} (a1 : Int) (a2 : Int) (hd : 0 ≤ d) (hW : SW X) (F : i32 a1 → i32 a2 → Q none X (upd2 (upd2 v 47 25 a1) 47 26 a2)) : Ex mX11_means d 16 [(2, 47), (0, a1), (0, a2)] [] X v mc ms Q := by
  refine x_li32 (i := 1) rfl (fun ha1 => ?_)
  have F := F ha1
  refine x_li32 (i := 2) rfl (fun ha2 => ?_)
  have F := F ha2
  refine x_aload_n dX11_means_16 rfl ?_
  refine x_iload_n dX11_means_17 rfl ?_
  refine x_puti 0 fwX11_169 dX11_means_18 (sW47 hW) (gW47 hW) (fun h => Bool.noConfusion h) (Nat.le_of_ble_eq_true rfl) rfl (Or.inl ⟨rfl, Or.inl rfl⟩) ?_
  refine x_aload_n dX11_means_21 rfl ?_
  refine x_iload_n dX11_means_22 rfl ?_
  refine x_puti 0 fwX11_172 dX11_means_23 (sW47 hW) (gW47 hW) (fun h => Bool.noConfusion h) (Nat.le_of_ble_eq_true rfl) rfl (Or.inl ⟨rfl, Or.inl rfl⟩) ?_
  exact x_ret none rfl ⟨dX11_means_26, rfl⟩ F
