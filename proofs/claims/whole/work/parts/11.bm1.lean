set_option maxRecDepth 100000 in
set_option maxHeartbeats 4000000 in
theorem bX11_isTable_0 {d mc ms : Nat} {X : XX} {v : VV} {Q : QQ} (a1 : Int) (hd : 0 ≤ d) (hW : SW X) (F : i32 a1 → (((a1 < 0) → Q (some (0, 0)) X v) ∧ ((0 ≤ a1) → ((((v 47 0) ≤ a1) → Q (some (0, 0)) X v) ∧ ((a1 < (v 47 0)) → (0 ≤ a1 ∧ a1 < 17) ∧ ((((v 48 a1) = 0) → Q (some (0, 0)) X v) ∧ ((¬ (v 48 a1) = 0) → Q (some (0, 1)) X v))))))) : Ex mX11_isTable d 0 [(2, 47), (0, a1)] [] X v mc ms Q := by
  refine x_li32 (i := 1) rfl (fun ha1 => ?_)
  have F := F ha1
  refine x_iload_n dX11_isTable_0 rfl ?_
  refine x_if_lt 25 dX11_isTable_1 rfl (fun hc => ?_) (fun hc => ?_)
  · have F := F.1 hc
    refine x_iconst dX11_isTable_25 rfl (i32_of rfl) ?_
    exact x_ret (some (0, 0)) rfl ⟨dX11_isTable_26, Or.inr ⟨rfl, Or.inl rfl⟩⟩ F
  · have F := F.2 hc
    refine x_iload_n dX11_isTable_4 rfl ?_
    refine x_aload_n dX11_isTable_5 rfl ?_
    refine x_geti (e := (v 47 0)) 0 flX11_159 dX11_isTable_6 (sW47 hW) (gW47 hW) rfl rfl (Nat.le_of_ble_eq_true rfl) (tagn2 rfl) ?_
    refine x_icmp_ge 25 dX11_isTable_9 rfl (fun hc => ?_) (fun hc => ?_)
    · have F := F.1 hc
      refine x_iconst dX11_isTable_25 rfl (i32_of rfl) ?_
      exact x_ret (some (0, 0)) rfl ⟨dX11_isTable_26, Or.inr ⟨rfl, Or.inl rfl⟩⟩ F
    · have F := F.2 hc
      refine x_aload_n dX11_isTable_12 rfl ?_
      refine x_getr (r' := 48) flX11_7 dX11_isTable_13 (sW47 hW) (gW47 hW) (rW47_1 hW) rfl (Nat.le_of_ble_eq_true rfl) ?_
      refine x_iload_n dX11_isTable_16 rfl ?_
      obtain ⟨hi, F⟩ := F
      refine x_zald (e := (v 48 a1)) dX11_isTable_17 (sW48 hW) (gW48 hW) hi rfl ?_
      refine x_if_eq 25 dX11_isTable_18 rfl (fun hc => ?_) (fun hc => ?_)
      · have F := F.1 hc
        refine x_iconst dX11_isTable_25 rfl (i32_of rfl) ?_
        exact x_ret (some (0, 0)) rfl ⟨dX11_isTable_26, Or.inr ⟨rfl, Or.inl rfl⟩⟩ F
      · have F := F.2 hc
        refine x_iconst dX11_isTable_21 rfl (i32_of rfl) ?_
        refine x_goto 26 dX11_isTable_22 rfl ?_
        exact x_ret (some (0, 1)) rfl ⟨dX11_isTable_26, Or.inr ⟨rfl, Or.inr rfl⟩⟩ F

set_option maxRecDepth 100000 in
set_option maxHeartbeats 4000000 in
theorem bX11_isColumn_0 {d mc ms : Nat} {X : XX} {v : VV} {Q : QQ} (a1 : Int) (a2 : Int) (hd : 1 ≤ d) (hW : SW X) (F : i32 a1 → i32 a2 → ∃ P1 : Option AV → VV → Prop, Con mX11_isTable 0 0 0 [(2, 47), (0, a1)] X v (fun o X1 v1 => X1 = X ∧ P1 o v1) ∧ ∀ (r2 : Int) (w3 : VV), P1 (some (0, r2)) w3 → (((r2 = 0) → Q (some (0, 0)) X w3) ∧ ((¬ r2 = 0) → (((a2 < 0) → Q (some (0, 0)) X w3) ∧ ((0 ≤ a2) → (0 ≤ a1 ∧ a1 < 17) ∧ ((((w3 51 a1) ≤ a2) → Q (some (0, 0)) X w3) ∧ ((a2 < (w3 51 a1)) → Q (some (0, 1)) X w3))))))) : Ex mX11_isColumn d 0 [(2, 47), (0, a1), (0, a2)] [] X v mc ms Q := by
  refine x_li32 (i := 1) rfl (fun ha1 => ?_)
  have F := F ha1
  refine x_li32 (i := 2) rfl (fun ha2 => ?_)
  have F := F ha2
  refine x_aload_n dX11_isColumn_0 rfl ?_
  refine x_iload_n dX11_isColumn_1 rfl ?_
  obtain ⟨P1, hC, F⟩ := F
  refine x_inv dX11_isColumn_2 mlX11_162 hC (sW47 hW) (Nat.le_of_ble_eq_true rfl) (gW47 hW) rfl rfl (by omega) (Nat.zero_le _) (Nat.zero_le _) (Nat.le_of_ble_eq_true rfl) (fun o1 Y4 w3 ht hP => ?_)
  obtain ⟨r2, rfl⟩ : ∃ i, o1 = some (0, i) := ht
  obtain ⟨rfl, hP⟩ := hP
  have F := F r2 w3 hP
  refine x_if_eq 26 dX11_isColumn_5 rfl (fun hc => ?_) (fun hc => ?_)
  · have F := F.1 hc
    refine x_iconst dX11_isColumn_26 rfl (i32_of rfl) ?_
    exact x_ret (some (0, 0)) rfl ⟨dX11_isColumn_27, Or.inr ⟨rfl, Or.inl rfl⟩⟩ F
  · have F := F.2 hc
    refine x_iload_n dX11_isColumn_8 rfl ?_
    refine x_if_lt 26 dX11_isColumn_9 rfl (fun hc => ?_) (fun hc => ?_)
    · have F := F.1 hc
      refine x_iconst dX11_isColumn_26 rfl (i32_of rfl) ?_
      exact x_ret (some (0, 0)) rfl ⟨dX11_isColumn_27, Or.inr ⟨rfl, Or.inl rfl⟩⟩ F
    · have F := F.2 hc
      refine x_iload_n dX11_isColumn_12 rfl ?_
      refine x_aload_n dX11_isColumn_13 rfl ?_
      refine x_getr (r' := 51) flX11_21 dX11_isColumn_14 (sW47 hW) (gW47 hW) (rW47_4 hW) rfl (Nat.le_of_ble_eq_true rfl) ?_
      refine x_iload_n dX11_isColumn_17 rfl ?_
      obtain ⟨hi, F⟩ := F
      refine x_iald (e := (w3 51 a1)) dX11_isColumn_18 (sW51 hW) (gW51 hW) hi rfl ?_
      refine x_icmp_ge 26 dX11_isColumn_19 rfl (fun hc => ?_) (fun hc => ?_)
      · have F := F.1 hc
        refine x_iconst dX11_isColumn_26 rfl (i32_of rfl) ?_
        exact x_ret (some (0, 0)) rfl ⟨dX11_isColumn_27, Or.inr ⟨rfl, Or.inl rfl⟩⟩ F
      · have F := F.2 hc
        refine x_iconst dX11_isColumn_22 rfl (i32_of rfl) ?_
        refine x_goto 27 dX11_isColumn_23 rfl ?_
        exact x_ret (some (0, 1)) rfl ⟨dX11_isColumn_27, Or.inr ⟨rfl, Or.inr rfl⟩⟩ F

set_option maxRecDepth 100000 in
set_option maxHeartbeats 4000000 in
theorem bX11_feed_0 {d mc ms : Nat} {X : XX} {v : VV} {Q : QQ} (a1 : Int) (a2 : Int) (a3 : Int) (a4 : Int) (a5 : Int) (hd : 0 ≤ d) (hW : SW X) (F : i32 a1 → i32 a2 → i32 a3 → i32 a4 → i32 a5 → (i32 (v 47 22) → i32 ((v 47 22) + 20)) ∧ (((((v 47 22) + 20) ≤ 400) → Ex mX11_feed d 18 [(2, 47), (0, a1), (0, a2), (0, a3), (0, a4), (0, a5), (0, 0), (3, 0)] [] X v mc ms Q) ∧ ((400 < ((v 47 22) + 20)) → Q (some (0, (-1))) X v))) : Ex mX11_feed d 0 [(2, 47), (0, a1), (0, a2), (0, a3), (0, a4), (0, a5), (3, 0), (3, 0)] [] X v mc ms Q := by
  refine x_li32 (i := 1) rfl (fun ha1 => ?_)
  have F := F ha1
  refine x_li32 (i := 2) rfl (fun ha2 => ?_)
  have F := F ha2
  refine x_li32 (i := 3) rfl (fun ha3 => ?_)
  have F := F ha3
  refine x_li32 (i := 4) rfl (fun ha4 => ?_)
  have F := F ha4
  refine x_li32 (i := 5) rfl (fun ha5 => ?_)
  have F := F ha5
  refine x_aload_n dX11_feed_0 rfl ?_
  refine x_geti (e := (v 47 22)) 0 flX11_166 dX11_feed_1 (sW47 hW) (gW47 hW) rfl rfl (Nat.le_of_ble_eq_true rfl) (tagn2 rfl) ?_
  refine x_bipush dX11_feed_4 kb_20 (i32_of rfl) ?_
  refine x_si32 (i := 1) rfl (fun hk1 => ?_)
  obtain ⟨hz, F⟩ := F
  have hz := hz hk1
  refine x_iadd dX11_feed_6 hz ?_
  refine x_sipush dX11_feed_7 ks_400 (i32_of rfl) ?_
  refine x_icmp_le 15 dX11_feed_10 rfl (fun hc => ?_) (fun hc => ?_)
  · have F := F.1 hc
    refine x_iconst dX11_feed_15 rfl (i32_of rfl) ?_
    refine x_istore [(2, 47), (0, a1), (0, a2), (0, a3), (0, a4), (0, a5), (0, 0), (3, 0)] dX11_feed_16 rfl (Nat.le_of_ble_eq_true rfl) ?_
    exact F
  · have F := F.2 hc
    refine x_iconst dX11_feed_13 rfl (i32_of rfl) ?_
    exact x_ret (some (0, (-1))) rfl ⟨dX11_feed_14, Or.inl rfl⟩ F

set_option maxRecDepth 100000 in
set_option maxHeartbeats 4000000 in
theorem bX11_feed_18 {d mc ms : Nat} {X : XX} {v : VV} {Q : QQ} (a1 : Int) (a2 : Int) (a3 : Int) (a4 : Int) (a5 : Int) (x6 : Int) (hd : 0 ≤ d) (hW : SW X) (F : i32 a1 → i32 a2 → i32 a3 → i32 a4 → i32 a5 → i32 x6 → (((20 ≤ x6) → Q (some (0, (v 47 22))) X v) ∧ ((x6 < 20) → (((4 ≤ x6) → (((8 ≤ x6) → (((12 ≤ x6) → (((16 ≤ x6) → (0 ≤ x6) ∧ (i32 (x6 % 4) → i32 (3 - (x6 % 4))) ∧ (i32 (3 - (x6 % 4)) → i32 (8 * (3 - (x6 % 4)))) ∧ ∀ z1 : Int, Int32.ofInt a5 >>> (Int32.ofInt (8 * (3 - (x6 % 4))) &&& 31) = Int32.ofInt z1 → i32 z1 → ∀ z2 : Int, Int32.ofInt z1 &&& Int32.ofInt 255 = Int32.ofInt z2 → i32 z2 → (0 ≤ (v 47 22) ∧ (v 47 22) < 400) ∧ (i32 (v 47 22) → i32 ((v 47 22) + 1)) ∧ i32 (x6 + 1) ∧ Ex mX11_feed d 18 [(2, 47), (0, a1), (0, a2), (0, a3), (0, a4), (0, a5), (0, (x6 + 1)), (3, 0)] [] X (upd2 (upd2 v 68 (v 47 22) z2) 47 22 ((v 47 22) + 1)) mc ms Q) ∧ ((x6 < 16) → (0 ≤ x6) ∧ (i32 (x6 % 4) → i32 (3 - (x6 % 4))) ∧ (i32 (3 - (x6 % 4)) → i32 (8 * (3 - (x6 % 4)))) ∧ ∀ z3 : Int, Int32.ofInt a4 >>> (Int32.ofInt (8 * (3 - (x6 % 4))) &&& 31) = Int32.ofInt z3 → i32 z3 → ∀ z4 : Int, Int32.ofInt z3 &&& Int32.ofInt 255 = Int32.ofInt z4 → i32 z4 → (0 ≤ (v 47 22) ∧ (v 47 22) < 400) ∧ (i32 (v 47 22) → i32 ((v 47 22) + 1)) ∧ i32 (x6 + 1) ∧ Ex mX11_feed d 18 [(2, 47), (0, a1), (0, a2), (0, a3), (0, a4), (0, a5), (0, (x6 + 1)), (3, 0)] [] X (upd2 (upd2 v 68 (v 47 22) z4) 47 22 ((v 47 22) + 1)) mc ms Q))) ∧ ((x6 < 12) → (0 ≤ x6) ∧ (i32 (x6 % 4) → i32 (3 - (x6 % 4))) ∧ (i32 (3 - (x6 % 4)) → i32 (8 * (3 - (x6 % 4)))) ∧ ∀ z5 : Int, Int32.ofInt a3 >>> (Int32.ofInt (8 * (3 - (x6 % 4))) &&& 31) = Int32.ofInt z5 → i32 z5 → ∀ z6 : Int, Int32.ofInt z5 &&& Int32.ofInt 255 = Int32.ofInt z6 → i32 z6 → (0 ≤ (v 47 22) ∧ (v 47 22) < 400) ∧ (i32 (v 47 22) → i32 ((v 47 22) + 1)) ∧ i32 (x6 + 1) ∧ Ex mX11_feed d 18 [(2, 47), (0, a1), (0, a2), (0, a3), (0, a4), (0, a5), (0, (x6 + 1)), (3, 0)] [] X (upd2 (upd2 v 68 (v 47 22) z6) 47 22 ((v 47 22) + 1)) mc ms Q))) ∧ ((x6 < 8) → (0 ≤ x6) ∧ (i32 (x6 % 4) → i32 (3 - (x6 % 4))) ∧ (i32 (3 - (x6 % 4)) → i32 (8 * (3 - (x6 % 4)))) ∧ ∀ z7 : Int, Int32.ofInt a2 >>> (Int32.ofInt (8 * (3 - (x6 % 4))) &&& 31) = Int32.ofInt z7 → i32 z7 → ∀ z8 : Int, Int32.ofInt z7 &&& Int32.ofInt 255 = Int32.ofInt z8 → i32 z8 → (0 ≤ (v 47 22) ∧ (v 47 22) < 400) ∧ (i32 (v 47 22) → i32 ((v 47 22) + 1)) ∧ i32 (x6 + 1) ∧ Ex mX11_feed d 18 [(2, 47), (0, a1), (0, a2), (0, a3), (0, a4), (0, a5), (0, (x6 + 1)), (3, 0)] [] X (upd2 (upd2 v 68 (v 47 22) z8) 47 22 ((v 47 22) + 1)) mc ms Q))) ∧ ((x6 < 4) → (0 ≤ x6) ∧ (i32 (x6 % 4) → i32 (3 - (x6 % 4))) ∧ (i32 (3 - (x6 % 4)) → i32 (8 * (3 - (x6 % 4)))) ∧ ∀ z9 : Int, Int32.ofInt a1 >>> (Int32.ofInt (8 * (3 - (x6 % 4))) &&& 31) = Int32.ofInt z9 → i32 z9 → ∀ z10 : Int, Int32.ofInt z9 &&& Int32.ofInt 255 = Int32.ofInt z10 → i32 z10 → (0 ≤ (v 47 22) ∧ (v 47 22) < 400) ∧ (i32 (v 47 22) → i32 ((v 47 22) + 1)) ∧ i32 (x6 + 1) ∧ Ex mX11_feed d 18 [(2, 47), (0, a1), (0, a2), (0, a3), (0, a4), (0, a5), (0, (x6 + 1)), (3, 0)] [] X (upd2 (upd2 v 68 (v 47 22) z10) 47 22 ((v 47 22) + 1)) mc ms Q))))) : Ex mX11_feed d 18 [(2, 47), (0, a1), (0, a2), (0, a3), (0, a4), (0, a5), (0, x6), (3, 0)] [] X v mc ms Q := by
  refine x_li32 (i := 1) rfl (fun ha1 => ?_)
  have F := F ha1
  refine x_li32 (i := 2) rfl (fun ha2 => ?_)
  have F := F ha2
  refine x_li32 (i := 3) rfl (fun ha3 => ?_)
  have F := F ha3
  refine x_li32 (i := 4) rfl (fun ha4 => ?_)
  have F := F ha4
  refine x_li32 (i := 5) rfl (fun ha5 => ?_)
  have F := F ha5
  refine x_li32 (i := 6) rfl (fun hx6 => ?_)
  have F := F hx6
  refine x_iload dX11_feed_18 rfl ?_
  refine x_bipush dX11_feed_20 kb_20 (i32_of rfl) ?_
  refine x_icmp_ge 114 dX11_feed_22 rfl (fun hc => ?_) (fun hc => ?_)
  · have F := F.1 hc
    refine x_aload_n dX11_feed_114 rfl ?_
    refine x_geti (e := (v 47 22)) 0 flX11_166 dX11_feed_115 (sW47 hW) (gW47 hW) rfl rfl (Nat.le_of_ble_eq_true rfl) (tagn2 rfl) ?_
    exact x_ret (some (0, (v 47 22))) rfl ⟨dX11_feed_118, Or.inl rfl⟩ F
  · have F := F.2 hc
    refine x_iload dX11_feed_25 rfl ?_
    refine x_iconst dX11_feed_27 rfl (i32_of rfl) ?_
    refine x_icmp_ge 35 dX11_feed_28 rfl (fun hc => ?_) (fun hc => ?_)
    · have F := F.1 hc
      refine x_iload dX11_feed_35 rfl ?_
      refine x_bipush dX11_feed_37 kb_8 (i32_of rfl) ?_
      refine x_icmp_ge 46 dX11_feed_39 rfl (fun hc => ?_) (fun hc => ?_)
      · have F := F.1 hc
        refine x_iload dX11_feed_46 rfl ?_
        refine x_bipush dX11_feed_48 kb_12 (i32_of rfl) ?_
        refine x_icmp_ge 57 dX11_feed_50 rfl (fun hc => ?_) (fun hc => ?_)
        · have F := F.1 hc
          refine x_iload dX11_feed_57 rfl ?_
          refine x_bipush dX11_feed_59 kb_16 (i32_of rfl) ?_
          refine x_icmp_ge 69 dX11_feed_61 rfl (fun hc => ?_) (fun hc => ?_)
          · have F := F.1 hc
            refine x_iload dX11_feed_69 rfl ?_
            refine x_istore [(2, 47), (0, a1), (0, a2), (0, a3), (0, a4), (0, a5), (0, x6), (0, a5)] dX11_feed_71 rfl (Nat.le_of_ble_eq_true rfl) ?_
            refine x_aload_n dX11_feed_73 rfl ?_
            refine x_getr (r' := 68) flX11_72 dX11_feed_74 (sW47 hW) (gW47 hW) (rW47_21 hW) rfl (Nat.le_of_ble_eq_true rfl) ?_
            refine x_aload_n dX11_feed_77 rfl ?_
            refine x_geti (e := (v 47 22)) 0 flX11_166 dX11_feed_78 (sW47 hW) (gW47 hW) rfl rfl (Nat.le_of_ble_eq_true rfl) (tagn2 rfl) ?_
            refine x_iload dX11_feed_81 rfl ?_
            refine x_bipush dX11_feed_83 kb_8 (i32_of rfl) ?_
            refine x_iconst dX11_feed_85 rfl (i32_of rfl) ?_
            refine x_iload dX11_feed_86 rfl ?_
            refine x_iconst dX11_feed_88 rfl (i32_of rfl) ?_
            obtain ⟨hz, F⟩ := F
            refine x_si32 (i := 0) rfl (fun hk0 => ?_)
            refine x_si32 (i := 1) rfl (fun hk1 => ?_)
            refine x_irem (z := (x6 % 4)) dX11_feed_89 (irem_ne hk0 (by decide)) (irem_nn hk1 hk0 hz (by decide)) (irem_ok hk1 hk0 hz (by decide)) ?_
            refine x_si32 (i := 0) rfl (fun hk0 => ?_)
            obtain ⟨hz, F⟩ := F
            have hz := hz hk0
            refine x_isub dX11_feed_90 hz ?_
            refine x_si32 (i := 0) rfl (fun hk0 => ?_)
            obtain ⟨hz, F⟩ := F
            have hz := hz hk0
            refine x_imul dX11_feed_91 hz ?_
            obtain ⟨z1, ez1, hz1⟩ := i32_ex (Int32.ofInt a5 >>> (Int32.ofInt (8 * (3 - (x6 % 4))) &&& 31))
            have F := F z1 ez1 hz1
            refine x_ishr (z := z1) dX11_feed_92 ez1 hz1 ?_
            refine x_sipush dX11_feed_93 ks_255 (i32_of rfl) ?_
            obtain ⟨z2, ez2, hz2⟩ := i32_ex (Int32.ofInt z1 &&& Int32.ofInt 255)
            have F := F z2 ez2 hz2
            refine x_iand (z := z2) dX11_feed_96 ez2 hz2 ?_
            obtain ⟨hi, F⟩ := F
            refine x_iast dX11_feed_97 (sW68 hW) (gW68 hW) hi ?_
            refine x_aload_n dX11_feed_98 rfl ?_
            refine x_dup dX11_feed_99 (tag1 rfl) ?_
            refine x_geti (e := (v 47 22)) 0 flX11_166 dX11_feed_100 (sW47 hW) (gW47 hW) rfl rfl (Nat.le_of_ble_eq_true rfl) (tagn2 rfl) ?_
            refine x_iconst dX11_feed_103 rfl (i32_of rfl) ?_
            refine x_si32 (i := 1) rfl (fun hk1 => ?_)
            obtain ⟨hz, F⟩ := F
            have hz := hz hk1
            refine x_iadd dX11_feed_104 hz ?_
            refine x_puti 0 fwX11_166 dX11_feed_105 (sW47 hW) (gW47 hW) (fun h => Bool.noConfusion h) (Nat.le_of_ble_eq_true rfl) rfl (Or.inl ⟨rfl, Or.inl rfl⟩) ?_
            obtain ⟨hz, F⟩ := F
            refine x_iinc [(2, 47), (0, a1), (0, a2), (0, a3), (0, a4), (0, a5), (0, (x6 + 1)), (0, a5)] dX11_feed_108 rfl rfl (Nat.le_of_ble_eq_true rfl) hz ?_
            refine x_goto 18 dX11_feed_111 rfl ?_
            exact x_less [(2, 47), (0, a1), (0, a2), (0, a3), (0, a4), (0, a5), (0, (x6 + 1)), (3, 0)] ⟨Or.inr rfl, ⟨Or.inr rfl, ⟨Or.inr rfl, ⟨Or.inr rfl, ⟨Or.inr rfl, ⟨Or.inr rfl, ⟨Or.inr rfl, ⟨Or.inl rfl, trivial⟩⟩⟩⟩⟩⟩⟩⟩ F
          · have F := F.2 hc
            refine x_iload dX11_feed_64 rfl ?_
            refine x_goto 71 dX11_feed_66 rfl ?_
            refine x_istore [(2, 47), (0, a1), (0, a2), (0, a3), (0, a4), (0, a5), (0, x6), (0, a4)] dX11_feed_71 rfl (Nat.le_of_ble_eq_true rfl) ?_
            refine x_aload_n dX11_feed_73 rfl ?_
            refine x_getr (r' := 68) flX11_72 dX11_feed_74 (sW47 hW) (gW47 hW) (rW47_21 hW) rfl (Nat.le_of_ble_eq_true rfl) ?_
            refine x_aload_n dX11_feed_77 rfl ?_
            refine x_geti (e := (v 47 22)) 0 flX11_166 dX11_feed_78 (sW47 hW) (gW47 hW) rfl rfl (Nat.le_of_ble_eq_true rfl) (tagn2 rfl) ?_
            refine x_iload dX11_feed_81 rfl ?_
            refine x_bipush dX11_feed_83 kb_8 (i32_of rfl) ?_
            refine x_iconst dX11_feed_85 rfl (i32_of rfl) ?_
            refine x_iload dX11_feed_86 rfl ?_
            refine x_iconst dX11_feed_88 rfl (i32_of rfl) ?_
            obtain ⟨hz, F⟩ := F
            refine x_si32 (i := 0) rfl (fun hk0 => ?_)
            refine x_si32 (i := 1) rfl (fun hk1 => ?_)
            refine x_irem (z := (x6 % 4)) dX11_feed_89 (irem_ne hk0 (by decide)) (irem_nn hk1 hk0 hz (by decide)) (irem_ok hk1 hk0 hz (by decide)) ?_
            refine x_si32 (i := 0) rfl (fun hk0 => ?_)
            obtain ⟨hz, F⟩ := F
            have hz := hz hk0
            refine x_isub dX11_feed_90 hz ?_
            refine x_si32 (i := 0) rfl (fun hk0 => ?_)
            obtain ⟨hz, F⟩ := F
            have hz := hz hk0
            refine x_imul dX11_feed_91 hz ?_
            obtain ⟨z3, ez3, hz3⟩ := i32_ex (Int32.ofInt a4 >>> (Int32.ofInt (8 * (3 - (x6 % 4))) &&& 31))
            have F := F z3 ez3 hz3
            refine x_ishr (z := z3) dX11_feed_92 ez3 hz3 ?_
            refine x_sipush dX11_feed_93 ks_255 (i32_of rfl) ?_
            obtain ⟨z4, ez4, hz4⟩ := i32_ex (Int32.ofInt z3 &&& Int32.ofInt 255)
            have F := F z4 ez4 hz4
            refine x_iand (z := z4) dX11_feed_96 ez4 hz4 ?_
            obtain ⟨hi, F⟩ := F
            refine x_iast dX11_feed_97 (sW68 hW) (gW68 hW) hi ?_
            refine x_aload_n dX11_feed_98 rfl ?_
            refine x_dup dX11_feed_99 (tag1 rfl) ?_
            refine x_geti (e := (v 47 22)) 0 flX11_166 dX11_feed_100 (sW47 hW) (gW47 hW) rfl rfl (Nat.le_of_ble_eq_true rfl) (tagn2 rfl) ?_
            refine x_iconst dX11_feed_103 rfl (i32_of rfl) ?_
            refine x_si32 (i := 1) rfl (fun hk1 => ?_)
            obtain ⟨hz, F⟩ := F
            have hz := hz hk1
            refine x_iadd dX11_feed_104 hz ?_
            refine x_puti 0 fwX11_166 dX11_feed_105 (sW47 hW) (gW47 hW) (fun h => Bool.noConfusion h) (Nat.le_of_ble_eq_true rfl) rfl (Or.inl ⟨rfl, Or.inl rfl⟩) ?_
            obtain ⟨hz, F⟩ := F
            refine x_iinc [(2, 47), (0, a1), (0, a2), (0, a3), (0, a4), (0, a5), (0, (x6 + 1)), (0, a4)] dX11_feed_108 rfl rfl (Nat.le_of_ble_eq_true rfl) hz ?_
            refine x_goto 18 dX11_feed_111 rfl ?_
            exact x_less [(2, 47), (0, a1), (0, a2), (0, a3), (0, a4), (0, a5), (0, (x6 + 1)), (3, 0)] ⟨Or.inr rfl, ⟨Or.inr rfl, ⟨Or.inr rfl, ⟨Or.inr rfl, ⟨Or.inr rfl, ⟨Or.inr rfl, ⟨Or.inr rfl, ⟨Or.inl rfl, trivial⟩⟩⟩⟩⟩⟩⟩⟩ F
        · have F := F.2 hc
          refine x_iload_n dX11_feed_53 rfl ?_
          refine x_goto 71 dX11_feed_54 rfl ?_
          refine x_istore [(2, 47), (0, a1), (0, a2), (0, a3), (0, a4), (0, a5), (0, x6), (0, a3)] dX11_feed_71 rfl (Nat.le_of_ble_eq_true rfl) ?_
          refine x_aload_n dX11_feed_73 rfl ?_
          refine x_getr (r' := 68) flX11_72 dX11_feed_74 (sW47 hW) (gW47 hW) (rW47_21 hW) rfl (Nat.le_of_ble_eq_true rfl) ?_
          refine x_aload_n dX11_feed_77 rfl ?_
          refine x_geti (e := (v 47 22)) 0 flX11_166 dX11_feed_78 (sW47 hW) (gW47 hW) rfl rfl (Nat.le_of_ble_eq_true rfl) (tagn2 rfl) ?_
          refine x_iload dX11_feed_81 rfl ?_
          refine x_bipush dX11_feed_83 kb_8 (i32_of rfl) ?_
          refine x_iconst dX11_feed_85 rfl (i32_of rfl) ?_
          refine x_iload dX11_feed_86 rfl ?_
          refine x_iconst dX11_feed_88 rfl (i32_of rfl) ?_
          obtain ⟨hz, F⟩ := F
          refine x_si32 (i := 0) rfl (fun hk0 => ?_)
          refine x_si32 (i := 1) rfl (fun hk1 => ?_)
          refine x_irem (z := (x6 % 4)) dX11_feed_89 (irem_ne hk0 (by decide)) (irem_nn hk1 hk0 hz (by decide)) (irem_ok hk1 hk0 hz (by decide)) ?_
          refine x_si32 (i := 0) rfl (fun hk0 => ?_)
          obtain ⟨hz, F⟩ := F
          have hz := hz hk0
          refine x_isub dX11_feed_90 hz ?_
          refine x_si32 (i := 0) rfl (fun hk0 => ?_)
          obtain ⟨hz, F⟩ := F
          have hz := hz hk0
          refine x_imul dX11_feed_91 hz ?_
          obtain ⟨z5, ez5, hz5⟩ := i32_ex (Int32.ofInt a3 >>> (Int32.ofInt (8 * (3 - (x6 % 4))) &&& 31))
          have F := F z5 ez5 hz5
          refine x_ishr (z := z5) dX11_feed_92 ez5 hz5 ?_
          refine x_sipush dX11_feed_93 ks_255 (i32_of rfl) ?_
          obtain ⟨z6, ez6, hz6⟩ := i32_ex (Int32.ofInt z5 &&& Int32.ofInt 255)
          have F := F z6 ez6 hz6
          refine x_iand (z := z6) dX11_feed_96 ez6 hz6 ?_
          obtain ⟨hi, F⟩ := F
          refine x_iast dX11_feed_97 (sW68 hW) (gW68 hW) hi ?_
          refine x_aload_n dX11_feed_98 rfl ?_
          refine x_dup dX11_feed_99 (tag1 rfl) ?_
          refine x_geti (e := (v 47 22)) 0 flX11_166 dX11_feed_100 (sW47 hW) (gW47 hW) rfl rfl (Nat.le_of_ble_eq_true rfl) (tagn2 rfl) ?_
          refine x_iconst dX11_feed_103 rfl (i32_of rfl) ?_
          refine x_si32 (i := 1) rfl (fun hk1 => ?_)
          obtain ⟨hz, F⟩ := F
          have hz := hz hk1
          refine x_iadd dX11_feed_104 hz ?_
          refine x_puti 0 fwX11_166 dX11_feed_105 (sW47 hW) (gW47 hW) (fun h => Bool.noConfusion h) (Nat.le_of_ble_eq_true rfl) rfl (Or.inl ⟨rfl, Or.inl rfl⟩) ?_
          obtain ⟨hz, F⟩ := F
          refine x_iinc [(2, 47), (0, a1), (0, a2), (0, a3), (0, a4), (0, a5), (0, (x6 + 1)), (0, a3)] dX11_feed_108 rfl rfl (Nat.le_of_ble_eq_true rfl) hz ?_
          refine x_goto 18 dX11_feed_111 rfl ?_
          exact x_less [(2, 47), (0, a1), (0, a2), (0, a3), (0, a4), (0, a5), (0, (x6 + 1)), (3, 0)] ⟨Or.inr rfl, ⟨Or.inr rfl, ⟨Or.inr rfl, ⟨Or.inr rfl, ⟨Or.inr rfl, ⟨Or.inr rfl, ⟨Or.inr rfl, ⟨Or.inl rfl, trivial⟩⟩⟩⟩⟩⟩⟩⟩ F
      · have F := F.2 hc
        refine x_iload_n dX11_feed_42 rfl ?_
        refine x_goto 71 dX11_feed_43 rfl ?_
        refine x_istore [(2, 47), (0, a1), (0, a2), (0, a3), (0, a4), (0, a5), (0, x6), (0, a2)] dX11_feed_71 rfl (Nat.le_of_ble_eq_true rfl) ?_
        refine x_aload_n dX11_feed_73 rfl ?_
        refine x_getr (r' := 68) flX11_72 dX11_feed_74 (sW47 hW) (gW47 hW) (rW47_21 hW) rfl (Nat.le_of_ble_eq_true rfl) ?_
        refine x_aload_n dX11_feed_77 rfl ?_
        refine x_geti (e := (v 47 22)) 0 flX11_166 dX11_feed_78 (sW47 hW) (gW47 hW) rfl rfl (Nat.le_of_ble_eq_true rfl) (tagn2 rfl) ?_
        refine x_iload dX11_feed_81 rfl ?_
        refine x_bipush dX11_feed_83 kb_8 (i32_of rfl) ?_
        refine x_iconst dX11_feed_85 rfl (i32_of rfl) ?_
        refine x_iload dX11_feed_86 rfl ?_
        refine x_iconst dX11_feed_88 rfl (i32_of rfl) ?_
        obtain ⟨hz, F⟩ := F
        refine x_si32 (i := 0) rfl (fun hk0 => ?_)
        refine x_si32 (i := 1) rfl (fun hk1 => ?_)
        refine x_irem (z := (x6 % 4)) dX11_feed_89 (irem_ne hk0 (by decide)) (irem_nn hk1 hk0 hz (by decide)) (irem_ok hk1 hk0 hz (by decide)) ?_
        refine x_si32 (i := 0) rfl (fun hk0 => ?_)
        obtain ⟨hz, F⟩ := F
        have hz := hz hk0
        refine x_isub dX11_feed_90 hz ?_
        refine x_si32 (i := 0) rfl (fun hk0 => ?_)
        obtain ⟨hz, F⟩ := F
        have hz := hz hk0
        refine x_imul dX11_feed_91 hz ?_
        obtain ⟨z7, ez7, hz7⟩ := i32_ex (Int32.ofInt a2 >>> (Int32.ofInt (8 * (3 - (x6 % 4))) &&& 31))
        have F := F z7 ez7 hz7
        refine x_ishr (z := z7) dX11_feed_92 ez7 hz7 ?_
        refine x_sipush dX11_feed_93 ks_255 (i32_of rfl) ?_
        obtain ⟨z8, ez8, hz8⟩ := i32_ex (Int32.ofInt z7 &&& Int32.ofInt 255)
        have F := F z8 ez8 hz8
        refine x_iand (z := z8) dX11_feed_96 ez8 hz8 ?_
        obtain ⟨hi, F⟩ := F
        refine x_iast dX11_feed_97 (sW68 hW) (gW68 hW) hi ?_
        refine x_aload_n dX11_feed_98 rfl ?_
        refine x_dup dX11_feed_99 (tag1 rfl) ?_
        refine x_geti (e := (v 47 22)) 0 flX11_166 dX11_feed_100 (sW47 hW) (gW47 hW) rfl rfl (Nat.le_of_ble_eq_true rfl) (tagn2 rfl) ?_
        refine x_iconst dX11_feed_103 rfl (i32_of rfl) ?_
        refine x_si32 (i := 1) rfl (fun hk1 => ?_)
        obtain ⟨hz, F⟩ := F
        have hz := hz hk1
        refine x_iadd dX11_feed_104 hz ?_
        refine x_puti 0 fwX11_166 dX11_feed_105 (sW47 hW) (gW47 hW) (fun h => Bool.noConfusion h) (Nat.le_of_ble_eq_true rfl) rfl (Or.inl ⟨rfl, Or.inl rfl⟩) ?_
        obtain ⟨hz, F⟩ := F
        refine x_iinc [(2, 47), (0, a1), (0, a2), (0, a3), (0, a4), (0, a5), (0, (x6 + 1)), (0, a2)] dX11_feed_108 rfl rfl (Nat.le_of_ble_eq_true rfl) hz ?_
        refine x_goto 18 dX11_feed_111 rfl ?_
        exact x_less [(2, 47), (0, a1), (0, a2), (0, a3), (0, a4), (0, a5), (0, (x6 + 1)), (3, 0)] ⟨Or.inr rfl, ⟨Or.inr rfl, ⟨Or.inr rfl, ⟨Or.inr rfl, ⟨Or.inr rfl, ⟨Or.inr rfl, ⟨Or.inr rfl, ⟨Or.inl rfl, trivial⟩⟩⟩⟩⟩⟩⟩⟩ F
    · have F := F.2 hc
      refine x_iload_n dX11_feed_31 rfl ?_
      refine x_goto 71 dX11_feed_32 rfl ?_
      refine x_istore [(2, 47), (0, a1), (0, a2), (0, a3), (0, a4), (0, a5), (0, x6), (0, a1)] dX11_feed_71 rfl (Nat.le_of_ble_eq_true rfl) ?_
      refine x_aload_n dX11_feed_73 rfl ?_
      refine x_getr (r' := 68) flX11_72 dX11_feed_74 (sW47 hW) (gW47 hW) (rW47_21 hW) rfl (Nat.le_of_ble_eq_true rfl) ?_
      refine x_aload_n dX11_feed_77 rfl ?_
      refine x_geti (e := (v 47 22)) 0 flX11_166 dX11_feed_78 (sW47 hW) (gW47 hW) rfl rfl (Nat.le_of_ble_eq_true rfl) (tagn2 rfl) ?_
      refine x_iload dX11_feed_81 rfl ?_
      refine x_bipush dX11_feed_83 kb_8 (i32_of rfl) ?_
      refine x_iconst dX11_feed_85 rfl (i32_of rfl) ?_
      refine x_iload dX11_feed_86 rfl ?_
      refine x_iconst dX11_feed_88 rfl (i32_of rfl) ?_
      obtain ⟨hz, F⟩ := F
      refine x_si32 (i := 0) rfl (fun hk0 => ?_)
      refine x_si32 (i := 1) rfl (fun hk1 => ?_)
      refine x_irem (z := (x6 % 4)) dX11_feed_89 (irem_ne hk0 (by decide)) (irem_nn hk1 hk0 hz (by decide)) (irem_ok hk1 hk0 hz (by decide)) ?_
      refine x_si32 (i := 0) rfl (fun hk0 => ?_)
      obtain ⟨hz, F⟩ := F
      have hz := hz hk0
      refine x_isub dX11_feed_90 hz ?_
      refine x_si32 (i := 0) rfl (fun hk0 => ?_)
      obtain ⟨hz, F⟩ := F
      have hz := hz hk0
      refine x_imul dX11_feed_91 hz ?_
      obtain ⟨z9, ez9, hz9⟩ := i32_ex (Int32.ofInt a1 >>> (Int32.ofInt (8 * (3 - (x6 % 4))) &&& 31))
      have F := F z9 ez9 hz9
      refine x_ishr (z := z9) dX11_feed_92 ez9 hz9 ?_
      refine x_sipush dX11_feed_93 ks_255 (i32_of rfl) ?_
      obtain ⟨z10, ez10, hz10⟩ := i32_ex (Int32.ofInt z9 &&& Int32.ofInt 255)
      have F := F z10 ez10 hz10
      refine x_iand (z := z10) dX11_feed_96 ez10 hz10 ?_
      obtain ⟨hi, F⟩ := F
      refine x_iast dX11_feed_97 (sW68 hW) (gW68 hW) hi ?_
      refine x_aload_n dX11_feed_98 rfl ?_
      refine x_dup dX11_feed_99 (tag1 rfl) ?_
      refine x_geti (e := (v 47 22)) 0 flX11_166 dX11_feed_100 (sW47 hW) (gW47 hW) rfl rfl (Nat.le_of_ble_eq_true rfl) (tagn2 rfl) ?_
      refine x_iconst dX11_feed_103 rfl (i32_of rfl) ?_
      refine x_si32 (i := 1) rfl (fun hk1 => ?_)
      obtain ⟨hz, F⟩ := F
      have hz := hz hk1
      refine x_iadd dX11_feed_104 hz ?_
      refine x_puti 0 fwX11_166 dX11_feed_105 (sW47 hW) (gW47 hW) (fun h => Bool.noConfusion h) (Nat.le_of_ble_eq_true rfl) rfl (Or.inl ⟨rfl, Or.inl rfl⟩) ?_
      obtain ⟨hz, F⟩ := F
      refine x_iinc [(2, 47), (0, a1), (0, a2), (0, a3), (0, a4), (0, a5), (0, (x6 + 1)), (0, a1)] dX11_feed_108 rfl rfl (Nat.le_of_ble_eq_true rfl) hz ?_
      refine x_goto 18 dX11_feed_111 rfl ?_
      exact x_less [(2, 47), (0, a1), (0, a2), (0, a3), (0, a4), (0, a5), (0, (x6 + 1)), (3, 0)] ⟨Or.inr rfl, ⟨Or.inr rfl, ⟨Or.inr rfl, ⟨Or.inr rfl, ⟨Or.inr rfl, ⟨Or.inr rfl, ⟨Or.inr rfl, ⟨Or.inl rfl, trivial⟩⟩⟩⟩⟩⟩⟩⟩ F

set_option maxRecDepth 100000 in
set_option maxHeartbeats 4000000 in
theorem bX11_end_0 {d mc ms : Nat} {X : XX} {v : VV} {Q : QQ} (a1 : Int) (hd : 0 ≤ d) (hW : SW X) (F : i32 a1 → (((a1 < 0) → Q (some (0, 0)) X v) ∧ ((0 ≤ a1) → (((a1 ≤ (v 47 22)) → Q (some (0, 1)) X (upd2 v 47 22 a1)) ∧ (((v 47 22) < a1) → Q (some (0, 0)) X v))))) : Ex mX11_end d 0 [(2, 47), (0, a1)] [] X v mc ms Q := by
  refine x_li32 (i := 1) rfl (fun ha1 => ?_)
  have F := F ha1
  refine x_iload_n dX11_end_0 rfl ?_
  refine x_if_lt 12 dX11_end_1 rfl (fun hc => ?_) (fun hc => ?_)
  · have F := F.1 hc
    refine x_iconst dX11_end_12 rfl (i32_of rfl) ?_
    exact x_ret (some (0, 0)) rfl ⟨dX11_end_13, Or.inr ⟨rfl, Or.inl rfl⟩⟩ F
  · have F := F.2 hc
    refine x_iload_n dX11_end_4 rfl ?_
    refine x_aload_n dX11_end_5 rfl ?_
    refine x_geti (e := (v 47 22)) 0 flX11_166 dX11_end_6 (sW47 hW) (gW47 hW) rfl rfl (Nat.le_of_ble_eq_true rfl) (tagn2 rfl) ?_
    refine x_icmp_le 14 dX11_end_9 rfl (fun hc => ?_) (fun hc => ?_)
    · have F := F.1 hc
      refine x_aload_n dX11_end_14 rfl ?_
      refine x_iload_n dX11_end_15 rfl ?_
      refine x_puti 0 fwX11_166 dX11_end_16 (sW47 hW) (gW47 hW) (fun h => Bool.noConfusion h) (Nat.le_of_ble_eq_true rfl) rfl (Or.inl ⟨rfl, Or.inl rfl⟩) ?_
      refine x_iconst dX11_end_19 rfl (i32_of rfl) ?_
      exact x_ret (some (0, 1)) rfl ⟨dX11_end_20, Or.inr ⟨rfl, Or.inr rfl⟩⟩ F
    · have F := F.2 hc
      refine x_iconst dX11_end_12 rfl (i32_of rfl) ?_
      exact x_ret (some (0, 0)) rfl ⟨dX11_end_13, Or.inr ⟨rfl, Or.inl rfl⟩⟩ F

set_option maxRecDepth 100000 in
set_option maxHeartbeats 4000000 in
theorem bX11_isLetter_0 {d mc ms : Nat} {X : XX} {v : VV} {Q : QQ} (a1 : Int) (hd : 0 ≤ d) (hW : SW X) (F : i32 a1 → (((a1 < 97) → Q (some (0, 0)) X v) ∧ ((97 ≤ a1) → (((122 < a1) → Q (some (0, 0)) X v) ∧ ((a1 ≤ 122) → Q (some (0, 1)) X v))))) : Ex mX11_isLetter d 0 [(0, a1)] [] X v mc ms Q := by
  refine x_li32 (i := 0) rfl (fun ha1 => ?_)
  have F := F ha1
  refine x_iload_n dX11_isLetter_0 rfl ?_
  refine x_bipush dX11_isLetter_1 kb_97 (i32_of rfl) ?_
  refine x_icmp_lt 16 dX11_isLetter_3 rfl (fun hc => ?_) (fun hc => ?_)
  · have F := F.1 hc
    refine x_iconst dX11_isLetter_16 rfl (i32_of rfl) ?_
    exact x_ret (some (0, 0)) rfl ⟨dX11_isLetter_17, Or.inr ⟨rfl, Or.inl rfl⟩⟩ F
  · have F := F.2 hc
    refine x_iload_n dX11_isLetter_6 rfl ?_
    refine x_bipush dX11_isLetter_7 kb_122 (i32_of rfl) ?_
    refine x_icmp_gt 16 dX11_isLetter_9 rfl (fun hc => ?_) (fun hc => ?_)
    · have F := F.1 hc
      refine x_iconst dX11_isLetter_16 rfl (i32_of rfl) ?_
      exact x_ret (some (0, 0)) rfl ⟨dX11_isLetter_17, Or.inr ⟨rfl, Or.inl rfl⟩⟩ F
    · have F := F.2 hc
      refine x_iconst dX11_isLetter_12 rfl (i32_of rfl) ?_
      refine x_goto 17 dX11_isLetter_13 rfl ?_
      exact x_ret (some (0, 1)) rfl ⟨dX11_isLetter_17, Or.inr ⟨rfl, Or.inr rfl⟩⟩ F

set_option maxRecDepth 100000 in
set_option maxHeartbeats 4000000 in
theorem bX11_isDigit_0 {d mc ms : Nat} {X : XX} {v : VV} {Q : QQ} (a1 : Int) (hd : 0 ≤ d) (hW : SW X) (F : i32 a1 → (((a1 < 48) → Q (some (0, 0)) X v) ∧ ((48 ≤ a1) → (((57 < a1) → Q (some (0, 0)) X v) ∧ ((a1 ≤ 57) → Q (some (0, 1)) X v))))) : Ex mX11_isDigit d 0 [(0, a1)] [] X v mc ms Q := by
  refine x_li32 (i := 0) rfl (fun ha1 => ?_)
  have F := F ha1
  refine x_iload_n dX11_isDigit_0 rfl ?_
  refine x_bipush dX11_isDigit_1 kb_48 (i32_of rfl) ?_
  refine x_icmp_lt 16 dX11_isDigit_3 rfl (fun hc => ?_) (fun hc => ?_)
  · have F := F.1 hc
    refine x_iconst dX11_isDigit_16 rfl (i32_of rfl) ?_
    exact x_ret (some (0, 0)) rfl ⟨dX11_isDigit_17, Or.inr ⟨rfl, Or.inl rfl⟩⟩ F
  · have F := F.2 hc
    refine x_iload_n dX11_isDigit_6 rfl ?_
    refine x_bipush dX11_isDigit_7 kb_57 (i32_of rfl) ?_
    refine x_icmp_gt 16 dX11_isDigit_9 rfl (fun hc => ?_) (fun hc => ?_)
    · have F := F.1 hc
      refine x_iconst dX11_isDigit_16 rfl (i32_of rfl) ?_
      exact x_ret (some (0, 0)) rfl ⟨dX11_isDigit_17, Or.inr ⟨rfl, Or.inl rfl⟩⟩ F
    · have F := F.2 hc
      refine x_iconst dX11_isDigit_12 rfl (i32_of rfl) ?_
      refine x_goto 17 dX11_isDigit_13 rfl ?_
      exact x_ret (some (0, 1)) rfl ⟨dX11_isDigit_17, Or.inr ⟨rfl, Or.inr rfl⟩⟩ F

set_option maxRecDepth 100000 in
set_option maxHeartbeats 4000000 in
theorem bX11_isBlank_0 {d mc ms : Nat} {X : XX} {v : VV} {Q : QQ} (a1 : Int) (hd : 0 ≤ d) (hW : SW X) (F : i32 a1 → (((a1 = 10) → Q (some (0, 1)) X v) ∧ ((¬ a1 = 10) → (((¬ a1 = 32) → Q (some (0, 0)) X v) ∧ ((a1 = 32) → Q (some (0, 1)) X v))))) : Ex mX11_isBlank d 0 [(0, a1)] [] X v mc ms Q := by
  refine x_li32 (i := 0) rfl (fun ha1 => ?_)
  have F := F ha1
  refine x_iload_n dX11_isBlank_0 rfl ?_
  refine x_bipush dX11_isBlank_1 kb_10 (i32_of rfl) ?_
  refine x_icmp_eq 12 dX11_isBlank_3 rfl (fun hc => ?_) (fun hc => ?_)
  · have F := F.1 hc
    refine x_iconst dX11_isBlank_12 rfl (i32_of rfl) ?_
    refine x_goto 17 dX11_isBlank_13 rfl ?_
    exact x_ret (some (0, 1)) rfl ⟨dX11_isBlank_17, Or.inr ⟨rfl, Or.inr rfl⟩⟩ F
  · have F := F.2 hc
    refine x_iload_n dX11_isBlank_6 rfl ?_
    refine x_bipush dX11_isBlank_7 kb_32 (i32_of rfl) ?_
    refine x_icmp_ne 16 dX11_isBlank_9 rfl (fun hc => ?_) (fun hc => ?_)
    · have F := F.1 hc
      refine x_iconst dX11_isBlank_16 rfl (i32_of rfl) ?_
      exact x_ret (some (0, 0)) rfl ⟨dX11_isBlank_17, Or.inr ⟨rfl, Or.inl rfl⟩⟩ F
    · have F := F.2 hc
      refine x_iconst dX11_isBlank_12 rfl (i32_of rfl) ?_
      refine x_goto 17 dX11_isBlank_13 rfl ?_
      exact x_ret (some (0, 1)) rfl ⟨dX11_isBlank_17, Or.inr ⟨rfl, Or.inr rfl⟩⟩ F

set_option maxRecDepth 100000 in
set_option maxHeartbeats 4000000 in
theorem bX11_fail_0 {d mc ms : Nat} {X : XX} {v : VV} {Q : QQ} (a1 : Int) (a2 : Int) (hd : 0 ≤ d) (hW : SW X) (F : i32 a1 → i32 a2 → ((((v 47 25) = 0) → Q none X (upd2 (upd2 v 47 25 a1) 47 26 a2)) ∧ ((¬ (v 47 25) = 0) → Q none X v))) : Ex mX11_fail d 0 [(2, 47), (0, a1), (0, a2)] [] X v mc ms Q := by
  refine x_li32 (i := 1) rfl (fun ha1 => ?_)
  have F := F ha1
  refine x_li32 (i := 2) rfl (fun ha2 => ?_)
  have F := F ha2
  refine x_aload_n dX11_fail_0 rfl ?_
  refine x_geti (e := (v 47 25)) 0 flX11_169 dX11_fail_1 (sW47 hW) (gW47 hW) rfl rfl (Nat.le_of_ble_eq_true rfl) (tagn2 rfl) ?_
  refine x_if_eq 8 dX11_fail_4 rfl (fun hc => ?_) (fun hc => ?_)
  · have F := F.1 hc
    refine x_aload_n dX11_fail_8 rfl ?_
    refine x_iload_n dX11_fail_9 rfl ?_
    refine x_puti 0 fwX11_169 dX11_fail_10 (sW47 hW) (gW47 hW) (fun h => Bool.noConfusion h) (Nat.le_of_ble_eq_true rfl) rfl (Or.inl ⟨rfl, Or.inl rfl⟩) ?_
    refine x_aload_n dX11_fail_13 rfl ?_
    refine x_iload_n dX11_fail_14 rfl ?_
    refine x_puti 0 fwX11_172 dX11_fail_15 (sW47 hW) (gW47 hW) (fun h => Bool.noConfusion h) (Nat.le_of_ble_eq_true rfl) rfl (Or.inl ⟨rfl, Or.inl rfl⟩) ?_
    exact x_ret none rfl ⟨dX11_fail_18, rfl⟩ F
  · have F := F.2 hc
    exact x_ret none rfl ⟨dX11_fail_7, rfl⟩ F

set_option maxRecDepth 100000 in
set_option maxHeartbeats 4000000 in
theorem bX11_wordFrom_0 {d mc ms : Nat} {X : XX} {v : VV} {Q : QQ} (a1 : Int) (a2 : Int) (hd : 0 ≤ d) (hW : SW X) (F : i32 a1 → i32 a2 → Ex mX11_wordFrom d 5 [(2, 47), (0, a1), (0, a2), (1, 0), (3, 0), (0, a1)] [] X v mc ms Q) : Ex mX11_wordFrom d 0 [(2, 47), (0, a1), (0, a2), (3, 0), (3, 0), (3, 0)] [] X v mc ms Q := by
  refine x_li32 (i := 1) rfl (fun ha1 => ?_)
  have F := F ha1
  refine x_li32 (i := 2) rfl (fun ha2 => ?_)
  have F := F ha2
  refine x_lconst (i := 0) dX11_wordFrom_0 rfl (i64_of rfl) ?_
  refine x_lstore_n [(2, 47), (0, a1), (0, a2), (1, 0), (3, 0), (3, 0)] dX11_wordFrom_1 rfl (Nat.le_of_ble_eq_true rfl) ?_
  refine x_iload_n dX11_wordFrom_2 rfl ?_
  refine x_istore [(2, 47), (0, a1), (0, a2), (1, 0), (3, 0), (0, a1)] dX11_wordFrom_3 rfl (Nat.le_of_ble_eq_true rfl) ?_
  exact F

set_option maxRecDepth 100000 in
set_option maxHeartbeats 4000000 in
theorem bX11_wordFrom_5 {d mc ms : Nat} {X : XX} {v : VV} {Q : QQ} (a1 : Int) (a2 : Int) (x3 : Int) (x5 : Int) (hd : 0 ≤ d) (hW : SW X) (F : i32 a1 → i32 a2 → i32 x5 → (((a2 ≤ x5) → Q (some (1, x3)) X v) ∧ ((x5 < a2) → i32 (a1 + 8) ∧ ((((a1 + 8) ≤ x5) → Q (some (1, x3)) X v) ∧ ((x5 < (a1 + 8)) → i64 (27 * x3) ∧ (0 ≤ x5 ∧ x5 < 400) ∧ i64 ((27 * x3) + (v 68 x5)) ∧ i64 (((27 * x3) + (v 68 x5)) - 97) ∧ i64 ((((27 * x3) + (v 68 x5)) - 97) + 1) ∧ i32 (x5 + 1) ∧ Ex mX11_wordFrom d 5 [(2, 47), (0, a1), (0, a2), (1, ((((27 * x3) + (v 68 x5)) - 97) + 1)), (3, 0), (0, (x5 + 1))] [] X v mc ms Q))))) : Ex mX11_wordFrom d 5 [(2, 47), (0, a1), (0, a2), (1, x3), (3, 0), (0, x5)] [] X v mc ms Q := by
  refine x_li32 (i := 1) rfl (fun ha1 => ?_)
  have F := F ha1
  refine x_li32 (i := 2) rfl (fun ha2 => ?_)
  have F := F ha2
  refine x_li32 (i := 5) rfl (fun hx5 => ?_)
  have F := F hx5
  refine x_iload dX11_wordFrom_5 rfl ?_
  refine x_iload_n dX11_wordFrom_7 rfl ?_
  refine x_icmp_ge 47 dX11_wordFrom_8 rfl (fun hc => ?_) (fun hc => ?_)
  · have F := F.1 hc
    refine x_lload_n dX11_wordFrom_47 rfl ?_
    exact x_ret (some (1, x3)) rfl ⟨dX11_wordFrom_48, rfl⟩ F
  · have F := F.2 hc
    refine x_iload dX11_wordFrom_11 rfl ?_
    refine x_iload_n dX11_wordFrom_13 rfl ?_
    refine x_bipush dX11_wordFrom_14 kb_8 (i32_of rfl) ?_
    obtain ⟨hz, F⟩ := F
    refine x_iadd dX11_wordFrom_16 hz ?_
    refine x_icmp_ge 47 dX11_wordFrom_17 rfl (fun hc => ?_) (fun hc => ?_)
    · have F := F.1 hc
      refine x_lload_n dX11_wordFrom_47 rfl ?_
      exact x_ret (some (1, x3)) rfl ⟨dX11_wordFrom_48, rfl⟩ F
    · have F := F.2 hc
      refine x_ldc2 (i := 27) 27 dX11_wordFrom_20 lcX11_175 rfl (i64_of rfl) ?_
      refine x_lload_n dX11_wordFrom_23 rfl ?_
      obtain ⟨hz, F⟩ := F
      refine x_lmul dX11_wordFrom_24 hz ?_
      refine x_aload_n dX11_wordFrom_25 rfl ?_
      refine x_getr (r' := 68) flX11_72 dX11_wordFrom_26 (sW47 hW) (gW47 hW) (rW47_21 hW) rfl (Nat.le_of_ble_eq_true rfl) ?_
      refine x_iload dX11_wordFrom_29 rfl ?_
      obtain ⟨hi, F⟩ := F
      refine x_iald (e := (v 68 x5)) dX11_wordFrom_31 (sW68 hW) (gW68 hW) hi rfl ?_
      refine x_i2l dX11_wordFrom_32 ?_
      obtain ⟨hz, F⟩ := F
      refine x_ladd dX11_wordFrom_33 hz ?_
      refine x_ldc2 (i := 97) 97 dX11_wordFrom_34 lcX11_177 rfl (i64_of rfl) ?_
      obtain ⟨hz, F⟩ := F
      refine x_lsub dX11_wordFrom_37 hz ?_
      refine x_lconst (i := 1) dX11_wordFrom_38 rfl (i64_of rfl) ?_
      obtain ⟨hz, F⟩ := F
      refine x_ladd dX11_wordFrom_39 hz ?_
      refine x_lstore_n [(2, 47), (0, a1), (0, a2), (1, ((((27 * x3) + (v 68 x5)) - 97) + 1)), (3, 0), (0, x5)] dX11_wordFrom_40 rfl (Nat.le_of_ble_eq_true rfl) ?_
      obtain ⟨hz, F⟩ := F
      refine x_iinc [(2, 47), (0, a1), (0, a2), (1, ((((27 * x3) + (v 68 x5)) - 97) + 1)), (3, 0), (0, (x5 + 1))] dX11_wordFrom_41 rfl rfl (Nat.le_of_ble_eq_true rfl) hz ?_
      refine x_goto 5 dX11_wordFrom_44 rfl ?_
      exact F

set_option maxRecDepth 100000 in
set_option maxHeartbeats 4000000 in
theorem bX11_next_0 {d mc ms : Nat} {X : XX} {v : VV} {Q : QQ} (hd : 1 ≤ d) (hW : SW X) (F : ((((v 47 24) ≤ (v 47 23)) → Ex mX11_next d 39 [(2, 47)] [] X v mc ms Q) ∧ (((v 47 23) < (v 47 24)) → (0 ≤ (v 47 23) ∧ (v 47 23) < 400) ∧ ∃ P1 : Option AV → VV → Prop, Con mX11_isBlank 0 0 0 [(0, (v 68 (v 47 23)))] X v (fun o X1 v1 => X1 = X ∧ P1 o v1) ∧ ∀ (r2 : Int) (w3 : VV), P1 (some (0, r2)) w3 → (((r2 = 0) → Ex mX11_next d 39 [(2, 47)] [] X w3 mc ms Q) ∧ ((¬ r2 = 0) → (i32 (w3 47 23) → i32 ((w3 47 23) + 1)) ∧ Ex mX11_next d 0 [(2, 47)] [] X (upd2 w3 47 23 ((w3 47 23) + 1)) mc ms Q))))) : Ex mX11_next d 0 [(2, 47)] [] X v mc ms Q := by
  refine x_aload_n dX11_next_0 rfl ?_
  refine x_geti (e := (v 47 23)) 0 flX11_179 dX11_next_1 (sW47 hW) (gW47 hW) rfl rfl (Nat.le_of_ble_eq_true rfl) (tagn2 rfl) ?_
  refine x_aload_n dX11_next_4 rfl ?_
  refine x_geti (e := (v 47 24)) 0 flX11_182 dX11_next_5 (sW47 hW) (gW47 hW) rfl rfl (Nat.le_of_ble_eq_true rfl) (tagn2 rfl) ?_
  refine x_icmp_ge 39 dX11_next_8 rfl (fun hc => ?_) (fun hc => ?_)
  · have F := F.1 hc
    exact F
  · have F := F.2 hc
    refine x_aload_n dX11_next_11 rfl ?_
    refine x_getr (r' := 68) flX11_72 dX11_next_12 (sW47 hW) (gW47 hW) (rW47_21 hW) rfl (Nat.le_of_ble_eq_true rfl) ?_
    refine x_aload_n dX11_next_15 rfl ?_
    refine x_geti (e := (v 47 23)) 0 flX11_179 dX11_next_16 (sW47 hW) (gW47 hW) rfl rfl (Nat.le_of_ble_eq_true rfl) (tagn2 rfl) ?_
    obtain ⟨hi, F⟩ := F
    refine x_iald (e := (v 68 (v 47 23))) dX11_next_19 (sW68 hW) (gW68 hW) hi rfl ?_
    obtain ⟨P1, hC, F⟩ := F
    refine x_static dX11_next_20 mlX11_185 hC rfl rfl (by omega) (Nat.zero_le _) (Nat.zero_le _) (Nat.le_of_ble_eq_true rfl) (fun o1 Y4 w3 ht hP => ?_)
    obtain ⟨r2, rfl⟩ : ∃ i, o1 = some (0, i) := ht
    obtain ⟨rfl, hP⟩ := hP
    have F := F r2 w3 hP
    refine x_if_eq 39 dX11_next_23 rfl (fun hc => ?_) (fun hc => ?_)
    · have F := F.1 hc
      exact F
    · have F := F.2 hc
      refine x_aload_n dX11_next_26 rfl ?_
      refine x_dup dX11_next_27 (tag1 rfl) ?_
      refine x_geti (e := (w3 47 23)) 0 flX11_179 dX11_next_28 (sW47 hW) (gW47 hW) rfl rfl (Nat.le_of_ble_eq_true rfl) (tagn2 rfl) ?_
      refine x_iconst dX11_next_31 rfl (i32_of rfl) ?_
      refine x_si32 (i := 1) rfl (fun hk1 => ?_)
      obtain ⟨hz, F⟩ := F
      have hz := hz hk1
      refine x_iadd dX11_next_32 hz ?_
      refine x_puti 0 fwX11_179 dX11_next_33 (sW47 hW) (gW47 hW) (fun h => Bool.noConfusion h) (Nat.le_of_ble_eq_true rfl) rfl (Or.inl ⟨rfl, Or.inl rfl⟩) ?_
      refine x_goto 0 dX11_next_36 rfl ?_
      exact F

set_option maxRecDepth 100000 in
set_option maxHeartbeats 4000000 in
theorem bX11_next_39 {d mc ms : Nat} {X : XX} {v : VV} {Q : QQ} (hd : 1 ≤ d) (hW : SW X) (F : (((¬ (v 47 23) = (v 47 24)) → (0 ≤ (v 47 23) ∧ (v 47 23) < 400) ∧ ∃ P5 : Option AV → VV → Prop, Con mX11_isLetter 0 0 0 [(0, (v 68 (v 47 23)))] X (upd2 (upd2 (upd2 v 47 30 (v 47 23)) 47 31 (-1)) 47 32 0) (fun o X1 v1 => X1 = X ∧ P5 o v1) ∧ ∀ (r6 : Int) (w7 : VV), P5 (some (0, r6)) w7 → (((r6 = 0) → (0 ≤ (w7 47 23) ∧ (w7 47 23) < 400) ∧ ∃ P9 : Option AV → VV → Prop, Con mX11_isDigit 0 0 0 [(0, (w7 68 (w7 47 23)))] X w7 (fun o X1 v1 => X1 = X ∧ P9 o v1) ∧ ∀ (r10 : Int) (w11 : VV), P9 (some (0, r10)) w11 → (((r10 = 0) → (0 ≤ (w11 47 23) ∧ (w11 47 23) < 400) ∧ (((¬ (w11 68 (w11 47 23)) = 39) → (0 ≤ (w11 47 23) ∧ (w11 47 23) < 400) ∧ (((32 ≤ (w11 68 (w11 47 23))) → (0 ≤ (w11 47 23) ∧ (w11 47 23) < 400) ∧ (i32 (w11 47 23) → i32 ((w11 47 23) + 1)) ∧ Q none X (upd2 (upd2 w11 47 29 (w11 68 (w11 47 23))) 47 23 ((w11 47 23) + 1))) ∧ (((w11 68 (w11 47 23)) < 32) → (i32 (w11 47 23) → i32 ((w11 47 23) + 1)) ∧ Q none X (upd2 (upd2 w11 47 29 (-1)) 47 23 ((w11 47 23) + 1))))) ∧ (((w11 68 (w11 47 23)) = 39) → (i32 (w11 47 23) → i32 ((w11 47 23) + 1)) ∧ Q none X (upd2 (upd2 w11 47 29 3) 47 23 ((w11 47 23) + 1))))) ∧ ((¬ r10 = 0) → Ex mX11_next d 202 [(2, 47)] [] X (upd2 w11 47 29 2) mc ms Q))) ∧ ((¬ r6 = 0) → Ex mX11_next d 96 [(2, 47)] [] X (upd2 w7 47 29 1) mc ms Q))) ∧ (((v 47 23) = (v 47 24)) → Q none X (upd2 (upd2 (upd2 (upd2 v 47 30 (v 47 23)) 47 31 (-1)) 47 32 0) 47 29 0)))) : Ex mX11_next d 39 [(2, 47)] [] X v mc ms Q := by
  refine x_aload_n dX11_next_39 rfl ?_
  refine x_aload_n dX11_next_40 rfl ?_
  refine x_geti (e := (v 47 23)) 0 flX11_179 dX11_next_41 (sW47 hW) (gW47 hW) rfl rfl (Nat.le_of_ble_eq_true rfl) (tagn2 rfl) ?_
  refine x_puti 0 fwX11_188 dX11_next_44 (sW47 hW) (gW47 hW) (fun h => Bool.noConfusion h) (Nat.le_of_ble_eq_true rfl) rfl (Or.inl ⟨rfl, Or.inl rfl⟩) ?_
  refine x_aload_n dX11_next_47 rfl ?_
  refine x_iconst dX11_next_48 rfl (i32_of rfl) ?_
  refine x_puti 0 fwX11_191 dX11_next_49 (sW47 hW) (gW47 hW) (fun h => Bool.noConfusion h) (Nat.le_of_ble_eq_true rfl) rfl (Or.inl ⟨rfl, Or.inl rfl⟩) ?_
  refine x_aload_n dX11_next_52 rfl ?_
  refine x_lconst (i := 0) dX11_next_53 rfl (i64_of rfl) ?_
  refine x_puti 1 fwX11_194 dX11_next_54 (sW47 hW) (gW47 hW) (fun h => Bool.noConfusion h) (Nat.le_of_ble_eq_true rfl) rfl (Or.inr ⟨rfl, rfl⟩) ?_
  refine x_aload_n dX11_next_57 rfl ?_
  refine x_geti (e := (v 47 23)) 0 flX11_179 dX11_next_58 (sW47 hW) (gW47 hW) rfl rfl (Nat.le_of_ble_eq_true rfl) (tagn2 rfl) ?_
  refine x_aload_n dX11_next_61 rfl ?_
  refine x_geti (e := (v 47 24)) 0 flX11_182 dX11_next_62 (sW47 hW) (gW47 hW) rfl rfl (Nat.le_of_ble_eq_true rfl) (tagn2 rfl) ?_
  refine x_icmp_ne 76 dX11_next_65 rfl (fun hc => ?_) (fun hc => ?_)
  · have F := F.1 hc
    refine x_aload_n dX11_next_76 rfl ?_
    refine x_getr (r' := 68) flX11_72 dX11_next_77 (sW47 hW) (gW47 hW) (rW47_21 hW) rfl (Nat.le_of_ble_eq_true rfl) ?_
    refine x_aload_n dX11_next_80 rfl ?_
    refine x_geti (e := (v 47 23)) 0 flX11_179 dX11_next_81 (sW47 hW) (gW47 hW) rfl rfl (Nat.le_of_ble_eq_true rfl) (tagn2 rfl) ?_
    obtain ⟨hi, F⟩ := F
    refine x_iald (e := (v 68 (v 47 23))) dX11_next_84 (sW68 hW) (gW68 hW) hi rfl ?_
    obtain ⟨P5, hC, F⟩ := F
    refine x_static dX11_next_85 mlX11_200 hC rfl rfl (by omega) (Nat.zero_le _) (Nat.zero_le _) (Nat.le_of_ble_eq_true rfl) (fun o1 Y8 w7 ht hP => ?_)
    obtain ⟨r6, rfl⟩ : ∃ i, o1 = some (0, i) := ht
    obtain ⟨rfl, hP⟩ := hP
    have F := F r6 w7 hP
    refine x_if_eq 182 dX11_next_88 rfl (fun hc => ?_) (fun hc => ?_)
    · have F := F.1 hc
      refine x_aload_n dX11_next_182 rfl ?_
      refine x_getr (r' := 68) flX11_72 dX11_next_183 (sW47 hW) (gW47 hW) (rW47_21 hW) rfl (Nat.le_of_ble_eq_true rfl) ?_
      refine x_aload_n dX11_next_186 rfl ?_
      refine x_geti (e := (w7 47 23)) 0 flX11_179 dX11_next_187 (sW47 hW) (gW47 hW) rfl rfl (Nat.le_of_ble_eq_true rfl) (tagn2 rfl) ?_
      obtain ⟨hi, F⟩ := F
      refine x_iald (e := (w7 68 (w7 47 23))) dX11_next_190 (sW68 hW) (gW68 hW) hi rfl ?_
      obtain ⟨P9, hC, F⟩ := F
      refine x_static dX11_next_191 mlX11_207 hC rfl rfl (by omega) (Nat.zero_le _) (Nat.zero_le _) (Nat.le_of_ble_eq_true rfl) (fun o1 Y12 w11 ht hP => ?_)
      obtain ⟨r10, rfl⟩ : ∃ i, o1 = some (0, i) := ht
      obtain ⟨rfl, hP⟩ := hP
      have F := F r10 w11 hP
      refine x_if_eq 267 dX11_next_194 rfl (fun hc => ?_) (fun hc => ?_)
      · have F := F.1 hc
        refine x_aload_n dX11_next_267 rfl ?_
        refine x_aload_n dX11_next_268 rfl ?_
        refine x_getr (r' := 68) flX11_72 dX11_next_269 (sW47 hW) (gW47 hW) (rW47_21 hW) rfl (Nat.le_of_ble_eq_true rfl) ?_
        refine x_aload_n dX11_next_272 rfl ?_
        refine x_geti (e := (w11 47 23)) 0 flX11_179 dX11_next_273 (sW47 hW) (gW47 hW) rfl rfl (Nat.le_of_ble_eq_true rfl) (tagn2 rfl) ?_
        obtain ⟨hi, F⟩ := F
        refine x_iald (e := (w11 68 (w11 47 23))) dX11_next_276 (sW68 hW) (gW68 hW) hi rfl ?_
        refine x_bipush dX11_next_277 kb_39 (i32_of rfl) ?_
        refine x_icmp_ne 286 dX11_next_279 rfl (fun hc => ?_) (fun hc => ?_)
        · have F := F.1 hc
          refine x_aload_n dX11_next_286 rfl ?_
          refine x_getr (r' := 68) flX11_72 dX11_next_287 (sW47 hW) (gW47 hW) (rW47_21 hW) rfl (Nat.le_of_ble_eq_true rfl) ?_
          refine x_aload_n dX11_next_290 rfl ?_
          refine x_geti (e := (w11 47 23)) 0 flX11_179 dX11_next_291 (sW47 hW) (gW47 hW) rfl rfl (Nat.le_of_ble_eq_true rfl) (tagn2 rfl) ?_
          obtain ⟨hi, F⟩ := F
          refine x_iald (e := (w11 68 (w11 47 23))) dX11_next_294 (sW68 hW) (gW68 hW) hi rfl ?_
          refine x_bipush dX11_next_295 kb_32 (i32_of rfl) ?_
          refine x_icmp_ge 304 dX11_next_297 rfl (fun hc => ?_) (fun hc => ?_)
          · have F := F.1 hc
            refine x_aload_n dX11_next_304 rfl ?_
            refine x_getr (r' := 68) flX11_72 dX11_next_305 (sW47 hW) (gW47 hW) (rW47_21 hW) rfl (Nat.le_of_ble_eq_true rfl) ?_
            refine x_aload_n dX11_next_308 rfl ?_
            refine x_geti (e := (w11 47 23)) 0 flX11_179 dX11_next_309 (sW47 hW) (gW47 hW) rfl rfl (Nat.le_of_ble_eq_true rfl) (tagn2 rfl) ?_
            obtain ⟨hi, F⟩ := F
            refine x_iald (e := (w11 68 (w11 47 23))) dX11_next_312 (sW68 hW) (gW68 hW) hi rfl ?_
            refine x_puti 0 fwX11_197 dX11_next_313 (sW47 hW) (gW47 hW) (fun h => Bool.noConfusion h) (Nat.le_of_ble_eq_true rfl) rfl (Or.inl ⟨rfl, Or.inl rfl⟩) ?_
            refine x_aload_n dX11_next_316 rfl ?_
            refine x_dup dX11_next_317 (tag1 rfl) ?_
            refine x_geti (e := (w11 47 23)) 0 flX11_179 dX11_next_318 (sW47 hW) (gW47 hW) rfl rfl (Nat.le_of_ble_eq_true rfl) (tagn2 rfl) ?_
            refine x_iconst dX11_next_321 rfl (i32_of rfl) ?_
            refine x_si32 (i := 1) rfl (fun hk1 => ?_)
            obtain ⟨hz, F⟩ := F
            have hz := hz hk1
            refine x_iadd dX11_next_322 hz ?_
            refine x_puti 0 fwX11_179 dX11_next_323 (sW47 hW) (gW47 hW) (fun h => Bool.noConfusion h) (Nat.le_of_ble_eq_true rfl) rfl (Or.inl ⟨rfl, Or.inl rfl⟩) ?_
            exact x_ret none rfl ⟨dX11_next_326, rfl⟩ F
          · have F := F.2 hc
            refine x_iconst dX11_next_300 rfl (i32_of rfl) ?_
            refine x_goto 313 dX11_next_301 rfl ?_
            refine x_puti 0 fwX11_197 dX11_next_313 (sW47 hW) (gW47 hW) (fun h => Bool.noConfusion h) (Nat.le_of_ble_eq_true rfl) rfl (Or.inl ⟨rfl, Or.inl rfl⟩) ?_
            refine x_aload_n dX11_next_316 rfl ?_
            refine x_dup dX11_next_317 (tag1 rfl) ?_
            refine x_geti (e := (w11 47 23)) 0 flX11_179 dX11_next_318 (sW47 hW) (gW47 hW) rfl rfl (Nat.le_of_ble_eq_true rfl) (tagn2 rfl) ?_
            refine x_iconst dX11_next_321 rfl (i32_of rfl) ?_
            refine x_si32 (i := 1) rfl (fun hk1 => ?_)
            obtain ⟨hz, F⟩ := F
            have hz := hz hk1
            refine x_iadd dX11_next_322 hz ?_
            refine x_puti 0 fwX11_179 dX11_next_323 (sW47 hW) (gW47 hW) (fun h => Bool.noConfusion h) (Nat.le_of_ble_eq_true rfl) rfl (Or.inl ⟨rfl, Or.inl rfl⟩) ?_
            exact x_ret none rfl ⟨dX11_next_326, rfl⟩ F
        · have F := F.2 hc
          refine x_iconst dX11_next_282 rfl (i32_of rfl) ?_
          refine x_goto 313 dX11_next_283 rfl ?_
          refine x_puti 0 fwX11_197 dX11_next_313 (sW47 hW) (gW47 hW) (fun h => Bool.noConfusion h) (Nat.le_of_ble_eq_true rfl) rfl (Or.inl ⟨rfl, Or.inl rfl⟩) ?_
          refine x_aload_n dX11_next_316 rfl ?_
          refine x_dup dX11_next_317 (tag1 rfl) ?_
          refine x_geti (e := (w11 47 23)) 0 flX11_179 dX11_next_318 (sW47 hW) (gW47 hW) rfl rfl (Nat.le_of_ble_eq_true rfl) (tagn2 rfl) ?_
          refine x_iconst dX11_next_321 rfl (i32_of rfl) ?_
          refine x_si32 (i := 1) rfl (fun hk1 => ?_)
          obtain ⟨hz, F⟩ := F
          have hz := hz hk1
          refine x_iadd dX11_next_322 hz ?_
          refine x_puti 0 fwX11_179 dX11_next_323 (sW47 hW) (gW47 hW) (fun h => Bool.noConfusion h) (Nat.le_of_ble_eq_true rfl) rfl (Or.inl ⟨rfl, Or.inl rfl⟩) ?_
          exact x_ret none rfl ⟨dX11_next_326, rfl⟩ F
      · have F := F.2 hc
        refine x_aload_n dX11_next_197 rfl ?_
        refine x_iconst dX11_next_198 rfl (i32_of rfl) ?_
        refine x_puti 0 fwX11_197 dX11_next_199 (sW47 hW) (gW47 hW) (fun h => Bool.noConfusion h) (Nat.le_of_ble_eq_true rfl) rfl (Or.inl ⟨rfl, Or.inl rfl⟩) ?_
        exact F
    · have F := F.2 hc
      refine x_aload_n dX11_next_91 rfl ?_
      refine x_iconst dX11_next_92 rfl (i32_of rfl) ?_
      refine x_puti 0 fwX11_197 dX11_next_93 (sW47 hW) (gW47 hW) (fun h => Bool.noConfusion h) (Nat.le_of_ble_eq_true rfl) rfl (Or.inl ⟨rfl, Or.inl rfl⟩) ?_
      exact F
  · have F := F.2 hc
    refine x_aload_n dX11_next_68 rfl ?_
    refine x_iconst dX11_next_69 rfl (i32_of rfl) ?_
    refine x_puti 0 fwX11_197 dX11_next_70 (sW47 hW) (gW47 hW) (fun h => Bool.noConfusion h) (Nat.le_of_ble_eq_true rfl) rfl (Or.inl ⟨rfl, Or.inl rfl⟩) ?_
    refine x_goto 326 dX11_next_73 rfl ?_
    exact x_ret none rfl ⟨dX11_next_326, rfl⟩ F

set_option maxRecDepth 100000 in
set_option maxHeartbeats 4000000 in
theorem bX11_next_96 {d mc ms : Nat} {X : XX} {v : VV} {Q : QQ} (hd : 1 ≤ d) (hW : SW X) (F : ((((v 47 24) ≤ (v 47 23)) → Ex mX11_next d 135 [(2, 47)] [] X v mc ms Q) ∧ (((v 47 23) < (v 47 24)) → (0 ≤ (v 47 23) ∧ (v 47 23) < 400) ∧ ∃ P13 : Option AV → VV → Prop, Con mX11_isLetter 0 0 0 [(0, (v 68 (v 47 23)))] X v (fun o X1 v1 => X1 = X ∧ P13 o v1) ∧ ∀ (r14 : Int) (w15 : VV), P13 (some (0, r14)) w15 → (((r14 = 0) → Ex mX11_next d 135 [(2, 47)] [] X w15 mc ms Q) ∧ ((¬ r14 = 0) → (i32 (w15 47 23) → i32 ((w15 47 23) + 1)) ∧ Ex mX11_next d 96 [(2, 47)] [] X (upd2 w15 47 23 ((w15 47 23) + 1)) mc ms Q))))) : Ex mX11_next d 96 [(2, 47)] [] X v mc ms Q := by
  refine x_aload_n dX11_next_96 rfl ?_
  refine x_geti (e := (v 47 23)) 0 flX11_179 dX11_next_97 (sW47 hW) (gW47 hW) rfl rfl (Nat.le_of_ble_eq_true rfl) (tagn2 rfl) ?_
  refine x_aload_n dX11_next_100 rfl ?_
  refine x_geti (e := (v 47 24)) 0 flX11_182 dX11_next_101 (sW47 hW) (gW47 hW) rfl rfl (Nat.le_of_ble_eq_true rfl) (tagn2 rfl) ?_
  refine x_icmp_ge 135 dX11_next_104 rfl (fun hc => ?_) (fun hc => ?_)
  · have F := F.1 hc
    exact F
  · have F := F.2 hc
    refine x_aload_n dX11_next_107 rfl ?_
    refine x_getr (r' := 68) flX11_72 dX11_next_108 (sW47 hW) (gW47 hW) (rW47_21 hW) rfl (Nat.le_of_ble_eq_true rfl) ?_
    refine x_aload_n dX11_next_111 rfl ?_
    refine x_geti (e := (v 47 23)) 0 flX11_179 dX11_next_112 (sW47 hW) (gW47 hW) rfl rfl (Nat.le_of_ble_eq_true rfl) (tagn2 rfl) ?_
    obtain ⟨hi, F⟩ := F
    refine x_iald (e := (v 68 (v 47 23))) dX11_next_115 (sW68 hW) (gW68 hW) hi rfl ?_
    obtain ⟨P13, hC, F⟩ := F
    refine x_static dX11_next_116 mlX11_200 hC rfl rfl (by omega) (Nat.zero_le _) (Nat.zero_le _) (Nat.le_of_ble_eq_true rfl) (fun o1 Y16 w15 ht hP => ?_)
    obtain ⟨r14, rfl⟩ : ∃ i, o1 = some (0, i) := ht
    obtain ⟨rfl, hP⟩ := hP
    have F := F r14 w15 hP
    refine x_if_eq 135 dX11_next_119 rfl (fun hc => ?_) (fun hc => ?_)
    · have F := F.1 hc
      exact F
    · have F := F.2 hc
      refine x_aload_n dX11_next_122 rfl ?_
      refine x_dup dX11_next_123 (tag1 rfl) ?_
      refine x_geti (e := (w15 47 23)) 0 flX11_179 dX11_next_124 (sW47 hW) (gW47 hW) rfl rfl (Nat.le_of_ble_eq_true rfl) (tagn2 rfl) ?_
      refine x_iconst dX11_next_127 rfl (i32_of rfl) ?_
      refine x_si32 (i := 1) rfl (fun hk1 => ?_)
      obtain ⟨hz, F⟩ := F
      have hz := hz hk1
      refine x_iadd dX11_next_128 hz ?_
      refine x_puti 0 fwX11_179 dX11_next_129 (sW47 hW) (gW47 hW) (fun h => Bool.noConfusion h) (Nat.le_of_ble_eq_true rfl) rfl (Or.inl ⟨rfl, Or.inl rfl⟩) ?_
      refine x_goto 96 dX11_next_132 rfl ?_
      exact F

set_option maxRecDepth 100000 in
set_option maxHeartbeats 4000000 in
theorem bX11_next_135 {d mc ms : Nat} {X : XX} {v : VV} {Q : QQ} (hd : 1 ≤ d) (hW : SW X) (F : (i32 (v 47 30) → i32 (v 47 23) → i32 ((v 47 23) - (v 47 30))) ∧ (((((v 47 23) - (v 47 30)) ≤ 8) → ∃ P17 : Option AV → VV → Prop, Con mX11_wordFrom 0 0 0 [(2, 47), (0, (v 47 30)), (0, (v 47 23))] X v (fun o X1 v1 => X1 = X ∧ P17 o v1) ∧ ∀ (r18 : Int) (w19 : VV), P17 (some (1, r18)) w19 → Q none X (upd2 w19 47 32 r18)) ∧ ((8 < ((v 47 23) - (v 47 30))) → (i32 (v 47 30) → i32 ((v 47 30) + 8)) ∧ Q none X (upd2 v 47 31 ((v 47 30) + 8))))) : Ex mX11_next d 135 [(2, 47)] [] X v mc ms Q := by
  refine x_aload_n dX11_next_135 rfl ?_
  refine x_geti (e := (v 47 23)) 0 flX11_179 dX11_next_136 (sW47 hW) (gW47 hW) rfl rfl (Nat.le_of_ble_eq_true rfl) (tagn2 rfl) ?_
  refine x_aload_n dX11_next_139 rfl ?_
  refine x_geti (e := (v 47 30)) 0 flX11_188 dX11_next_140 (sW47 hW) (gW47 hW) rfl rfl (Nat.le_of_ble_eq_true rfl) (tagn2 rfl) ?_
  refine x_si32 (i := 0) rfl (fun hk0 => ?_)
  refine x_si32 (i := 1) rfl (fun hk1 => ?_)
  obtain ⟨hz, F⟩ := F
  have hz := hz hk0 hk1
  refine x_isub dX11_next_143 hz ?_
  refine x_bipush dX11_next_144 kb_8 (i32_of rfl) ?_
  refine x_icmp_le 163 dX11_next_146 rfl (fun hc => ?_) (fun hc => ?_)
  · have F := F.1 hc
    refine x_aload_n dX11_next_163 rfl ?_
    refine x_aload_n dX11_next_164 rfl ?_
    refine x_aload_n dX11_next_165 rfl ?_
    refine x_geti (e := (v 47 30)) 0 flX11_188 dX11_next_166 (sW47 hW) (gW47 hW) rfl rfl (Nat.le_of_ble_eq_true rfl) (tagn2 rfl) ?_
    refine x_aload_n dX11_next_169 rfl ?_
    refine x_geti (e := (v 47 23)) 0 flX11_179 dX11_next_170 (sW47 hW) (gW47 hW) rfl rfl (Nat.le_of_ble_eq_true rfl) (tagn2 rfl) ?_
    obtain ⟨P17, hC, F⟩ := F
    refine x_inv dX11_next_173 mlX11_203 hC (sW47 hW) (Nat.le_of_ble_eq_true rfl) (gW47 hW) rfl rfl (by omega) (Nat.zero_le _) (Nat.zero_le _) (Nat.le_of_ble_eq_true rfl) (fun o1 Y20 w19 ht hP => ?_)
    obtain ⟨r18, rfl⟩ : ∃ i, o1 = some (1, i) := ht
    obtain ⟨rfl, hP⟩ := hP
    have F := F r18 w19 hP
    refine x_puti 1 fwX11_194 dX11_next_176 (sW47 hW) (gW47 hW) (fun h => Bool.noConfusion h) (Nat.le_of_ble_eq_true rfl) rfl (Or.inr ⟨rfl, rfl⟩) ?_
    refine x_goto 326 dX11_next_179 rfl ?_
    exact x_ret none rfl ⟨dX11_next_326, rfl⟩ F
  · have F := F.2 hc
    refine x_aload_n dX11_next_149 rfl ?_
    refine x_aload_n dX11_next_150 rfl ?_
    refine x_geti (e := (v 47 30)) 0 flX11_188 dX11_next_151 (sW47 hW) (gW47 hW) rfl rfl (Nat.le_of_ble_eq_true rfl) (tagn2 rfl) ?_
    refine x_bipush dX11_next_154 kb_8 (i32_of rfl) ?_
    refine x_si32 (i := 1) rfl (fun hk1 => ?_)
    obtain ⟨hz, F⟩ := F
    have hz := hz hk1
    refine x_iadd dX11_next_156 hz ?_
    refine x_puti 0 fwX11_191 dX11_next_157 (sW47 hW) (gW47 hW) (fun h => Bool.noConfusion h) (Nat.le_of_ble_eq_true rfl) rfl (Or.inl ⟨rfl, Or.inl rfl⟩) ?_
    refine x_goto 326 dX11_next_160 rfl ?_
    exact x_ret none rfl ⟨dX11_next_326, rfl⟩ F

set_option maxRecDepth 100000 in
set_option maxHeartbeats 4000000 in
theorem bX11_next_202 {d mc ms : Nat} {X : XX} {v : VV} {Q : QQ} (hd : 1 ≤ d) (hW : SW X) (F : ((((v 47 24) ≤ (v 47 23)) → Ex mX11_next d 241 [(2, 47)] [] X v mc ms Q) ∧ (((v 47 23) < (v 47 24)) → (0 ≤ (v 47 23) ∧ (v 47 23) < 400) ∧ ∃ P21 : Option AV → VV → Prop, Con mX11_isDigit 0 0 0 [(0, (v 68 (v 47 23)))] X v (fun o X1 v1 => X1 = X ∧ P21 o v1) ∧ ∀ (r22 : Int) (w23 : VV), P21 (some (0, r22)) w23 → (((r22 = 0) → Ex mX11_next d 241 [(2, 47)] [] X w23 mc ms Q) ∧ ((¬ r22 = 0) → (i32 (w23 47 23) → i32 ((w23 47 23) + 1)) ∧ Ex mX11_next d 202 [(2, 47)] [] X (upd2 w23 47 23 ((w23 47 23) + 1)) mc ms Q))))) : Ex mX11_next d 202 [(2, 47)] [] X v mc ms Q := by
  refine x_aload_n dX11_next_202 rfl ?_
  refine x_geti (e := (v 47 23)) 0 flX11_179 dX11_next_203 (sW47 hW) (gW47 hW) rfl rfl (Nat.le_of_ble_eq_true rfl) (tagn2 rfl) ?_
  refine x_aload_n dX11_next_206 rfl ?_
  refine x_geti (e := (v 47 24)) 0 flX11_182 dX11_next_207 (sW47 hW) (gW47 hW) rfl rfl (Nat.le_of_ble_eq_true rfl) (tagn2 rfl) ?_
  refine x_icmp_ge 241 dX11_next_210 rfl (fun hc => ?_) (fun hc => ?_)
  · have F := F.1 hc
    exact F
  · have F := F.2 hc
    refine x_aload_n dX11_next_213 rfl ?_
    refine x_getr (r' := 68) flX11_72 dX11_next_214 (sW47 hW) (gW47 hW) (rW47_21 hW) rfl (Nat.le_of_ble_eq_true rfl) ?_
    refine x_aload_n dX11_next_217 rfl ?_
    refine x_geti (e := (v 47 23)) 0 flX11_179 dX11_next_218 (sW47 hW) (gW47 hW) rfl rfl (Nat.le_of_ble_eq_true rfl) (tagn2 rfl) ?_
    obtain ⟨hi, F⟩ := F
    refine x_iald (e := (v 68 (v 47 23))) dX11_next_221 (sW68 hW) (gW68 hW) hi rfl ?_
    obtain ⟨P21, hC, F⟩ := F
    refine x_static dX11_next_222 mlX11_207 hC rfl rfl (by omega) (Nat.zero_le _) (Nat.zero_le _) (Nat.le_of_ble_eq_true rfl) (fun o1 Y24 w23 ht hP => ?_)
    obtain ⟨r22, rfl⟩ : ∃ i, o1 = some (0, i) := ht
    obtain ⟨rfl, hP⟩ := hP
    have F := F r22 w23 hP
    refine x_if_eq 241 dX11_next_225 rfl (fun hc => ?_) (fun hc => ?_)
    · have F := F.1 hc
      exact F
    · have F := F.2 hc
      refine x_aload_n dX11_next_228 rfl ?_
      refine x_dup dX11_next_229 (tag1 rfl) ?_
      refine x_geti (e := (w23 47 23)) 0 flX11_179 dX11_next_230 (sW47 hW) (gW47 hW) rfl rfl (Nat.le_of_ble_eq_true rfl) (tagn2 rfl) ?_
      refine x_iconst dX11_next_233 rfl (i32_of rfl) ?_
      refine x_si32 (i := 1) rfl (fun hk1 => ?_)
      obtain ⟨hz, F⟩ := F
      have hz := hz hk1
      refine x_iadd dX11_next_234 hz ?_
      refine x_puti 0 fwX11_179 dX11_next_235 (sW47 hW) (gW47 hW) (fun h => Bool.noConfusion h) (Nat.le_of_ble_eq_true rfl) rfl (Or.inl ⟨rfl, Or.inl rfl⟩) ?_
      refine x_goto 202 dX11_next_238 rfl ?_
      exact F

set_option maxRecDepth 100000 in
set_option maxHeartbeats 4000000 in
theorem bX11_next_241 {d mc ms : Nat} {X : XX} {v : VV} {Q : QQ} (hd : 1 ≤ d) (hW : SW X) (F : (i32 (v 47 30) → i32 (v 47 23) → i32 ((v 47 23) - (v 47 30))) ∧ (((((v 47 23) - (v 47 30)) ≤ 4) → Q none X v) ∧ ((4 < ((v 47 23) - (v 47 30))) → (i32 (v 47 30) → i32 ((v 47 30) + 4)) ∧ Q none X (upd2 v 47 31 ((v 47 30) + 4))))) : Ex mX11_next d 241 [(2, 47)] [] X v mc ms Q := by
  refine x_aload_n dX11_next_241 rfl ?_
  refine x_geti (e := (v 47 23)) 0 flX11_179 dX11_next_242 (sW47 hW) (gW47 hW) rfl rfl (Nat.le_of_ble_eq_true rfl) (tagn2 rfl) ?_
  refine x_aload_n dX11_next_245 rfl ?_
  refine x_geti (e := (v 47 30)) 0 flX11_188 dX11_next_246 (sW47 hW) (gW47 hW) rfl rfl (Nat.le_of_ble_eq_true rfl) (tagn2 rfl) ?_
  refine x_si32 (i := 0) rfl (fun hk0 => ?_)
  refine x_si32 (i := 1) rfl (fun hk1 => ?_)
  obtain ⟨hz, F⟩ := F
  have hz := hz hk0 hk1
  refine x_isub dX11_next_249 hz ?_
  refine x_iconst dX11_next_250 rfl (i32_of rfl) ?_
  refine x_icmp_le 326 dX11_next_251 rfl (fun hc => ?_) (fun hc => ?_)
  · have F := F.1 hc
    exact x_ret none rfl ⟨dX11_next_326, rfl⟩ F
  · have F := F.2 hc
    refine x_aload_n dX11_next_254 rfl ?_
    refine x_aload_n dX11_next_255 rfl ?_
    refine x_geti (e := (v 47 30)) 0 flX11_188 dX11_next_256 (sW47 hW) (gW47 hW) rfl rfl (Nat.le_of_ble_eq_true rfl) (tagn2 rfl) ?_
    refine x_iconst dX11_next_259 rfl (i32_of rfl) ?_
    refine x_si32 (i := 1) rfl (fun hk1 => ?_)
    obtain ⟨hz, F⟩ := F
    have hz := hz hk1
    refine x_iadd dX11_next_260 hz ?_
    refine x_puti 0 fwX11_191 dX11_next_261 (sW47 hW) (gW47 hW) (fun h => Bool.noConfusion h) (Nat.le_of_ble_eq_true rfl) rfl (Or.inl ⟨rfl, Or.inl rfl⟩) ?_
    refine x_goto 326 dX11_next_264 rfl ?_
    exact x_ret none rfl ⟨dX11_next_326, rfl⟩ F

set_option maxRecDepth 100000 in
set_option maxHeartbeats 4000000 in
theorem bX11_keeps_0 {d mc ms : Nat} {X : XX} {v : VV} {Q : QQ} (hd : 2 ≤ d) (hW : SW X) (F : (i32 (v 47 0) → i32 (400 * (v 47 0))) ∧ (0 ≤ (v 47 0) ∧ (v 47 0) < 17) ∧ (i32 (v 60 (v 47 0)) → i32 (400 * (v 47 0)) → i32 ((400 * (v 47 0)) + (v 60 (v 47 0)))) ∧ (0 ≤ ((400 * (v 47 0)) + (v 60 (v 47 0))) ∧ ((400 * (v 47 0)) + (v 60 (v 47 0))) < 6800) ∧ (0 ≤ ((400 * (v 47 0)) + (v 60 (v 47 0))) ∧ ((400 * (v 47 0)) + (v 60 (v 47 0))) < 6800) ∧ (i32 (v 47 30) → i32 (v 47 23) → i32 ((v 47 23) - (v 47 30))) ∧ (0 ≤ ((400 * (v 47 0)) + (v 60 (v 47 0))) ∧ ((400 * (v 47 0)) + (v 60 (v 47 0))) < 6800) ∧ (0 ≤ (v 47 0) ∧ (v 47 0) < 17) ∧ (i32 (v 60 (v 47 0)) → i32 ((v 60 (v 47 0)) + 1)) ∧ (0 ≤ (v 47 0) ∧ (v 47 0) < 17) ∧ ∃ P1 : Option AV → VV → Prop, Con mX11_next 1 0 0 [(2, 47)] X (upd2 (upd2 (upd2 (upd2 v 61 ((400 * (v 47 0)) + (v 60 (v 47 0))) (v 47 29)) 62 ((400 * (v 47 0)) + (v 60 (v 47 0))) (v 47 30)) 63 ((400 * (v 47 0)) + (v 60 (v 47 0))) ((v 47 23) - (v 47 30))) 60 (v 47 0) ((v 60 (v 47 0)) + 1)) (fun o X1 v1 => X1 = X ∧ P1 o v1) ∧ ∀ (w3 : VV), P1 none w3 → Q none X w3) : Ex mX11_keeps d 0 [(2, 47), (3, 0)] [] X v mc ms Q := by
  refine x_sipush dX11_keeps_0 ks_400 (i32_of rfl) ?_
  refine x_aload_n dX11_keeps_3 rfl ?_
  refine x_geti (e := (v 47 0)) 0 flX11_159 dX11_keeps_4 (sW47 hW) (gW47 hW) rfl rfl (Nat.le_of_ble_eq_true rfl) (tagn2 rfl) ?_
  refine x_si32 (i := 0) rfl (fun hk0 => ?_)
  obtain ⟨hz, F⟩ := F
  have hz := hz hk0
  refine x_imul dX11_keeps_7 hz ?_
  refine x_aload_n dX11_keeps_8 rfl ?_
  refine x_getr (r' := 60) flX11_48 dX11_keeps_9 (sW47 hW) (gW47 hW) (rW47_13 hW) rfl (Nat.le_of_ble_eq_true rfl) ?_
  refine x_aload_n dX11_keeps_12 rfl ?_
  refine x_geti (e := (v 47 0)) 0 flX11_159 dX11_keeps_13 (sW47 hW) (gW47 hW) rfl rfl (Nat.le_of_ble_eq_true rfl) (tagn2 rfl) ?_
  obtain ⟨hi, F⟩ := F
  refine x_iald (e := (v 60 (v 47 0))) dX11_keeps_16 (sW60 hW) (gW60 hW) hi rfl ?_
  refine x_si32 (i := 0) rfl (fun hk0 => ?_)
  refine x_si32 (i := 1) rfl (fun hk1 => ?_)
  obtain ⟨hz, F⟩ := F
  have hz := hz hk0 hk1
  refine x_iadd dX11_keeps_17 hz ?_
  refine x_istore_n [(2, 47), (0, ((400 * (v 47 0)) + (v 60 (v 47 0))))] dX11_keeps_18 rfl (Nat.le_of_ble_eq_true rfl) ?_
  refine x_aload_n dX11_keeps_19 rfl ?_
  refine x_getr (r' := 61) flX11_51 dX11_keeps_20 (sW47 hW) (gW47 hW) (rW47_14 hW) rfl (Nat.le_of_ble_eq_true rfl) ?_
  refine x_iload_n dX11_keeps_23 rfl ?_
  refine x_aload_n dX11_keeps_24 rfl ?_
  refine x_geti (e := (v 47 29)) 0 flX11_197 dX11_keeps_25 (sW47 hW) (gW47 hW) rfl rfl (Nat.le_of_ble_eq_true rfl) (tagn2 rfl) ?_
  obtain ⟨hi, F⟩ := F
  refine x_iast dX11_keeps_28 (sW61 hW) (gW61 hW) hi ?_
  refine x_aload_n dX11_keeps_29 rfl ?_
  refine x_getr (r' := 62) flX11_54 dX11_keeps_30 (sW47 hW) (gW47 hW) (rW47_15 hW) rfl (Nat.le_of_ble_eq_true rfl) ?_
  refine x_iload_n dX11_keeps_33 rfl ?_
  refine x_aload_n dX11_keeps_34 rfl ?_
  refine x_geti (e := (v 47 30)) 0 flX11_188 dX11_keeps_35 (sW47 hW) (gW47 hW) rfl rfl (Nat.le_of_ble_eq_true rfl) (tagn2 rfl) ?_
  obtain ⟨hi, F⟩ := F
  refine x_iast dX11_keeps_38 (sW62 hW) (gW62 hW) hi ?_
  refine x_aload_n dX11_keeps_39 rfl ?_
  refine x_getr (r' := 63) flX11_57 dX11_keeps_40 (sW47 hW) (gW47 hW) (rW47_16 hW) rfl (Nat.le_of_ble_eq_true rfl) ?_
  refine x_iload_n dX11_keeps_43 rfl ?_
  refine x_aload_n dX11_keeps_44 rfl ?_
  refine x_geti (e := (v 47 23)) 0 flX11_179 dX11_keeps_45 (sW47 hW) (gW47 hW) rfl rfl (Nat.le_of_ble_eq_true rfl) (tagn2 rfl) ?_
  refine x_aload_n dX11_keeps_48 rfl ?_
  refine x_geti (e := (v 47 30)) 0 flX11_188 dX11_keeps_49 (sW47 hW) (gW47 hW) rfl rfl (Nat.le_of_ble_eq_true rfl) (tagn2 rfl) ?_
  refine x_si32 (i := 0) rfl (fun hk0 => ?_)
  refine x_si32 (i := 1) rfl (fun hk1 => ?_)
  obtain ⟨hz, F⟩ := F
  have hz := hz hk0 hk1
  refine x_isub dX11_keeps_52 hz ?_
  obtain ⟨hi, F⟩ := F
  refine x_iast dX11_keeps_53 (sW63 hW) (gW63 hW) hi ?_
  refine x_aload_n dX11_keeps_54 rfl ?_
  refine x_getr (r' := 60) flX11_48 dX11_keeps_55 (sW47 hW) (gW47 hW) (rW47_13 hW) rfl (Nat.le_of_ble_eq_true rfl) ?_
  refine x_aload_n dX11_keeps_58 rfl ?_
  refine x_geti (e := (v 47 0)) 0 flX11_159 dX11_keeps_59 (sW47 hW) (gW47 hW) rfl rfl (Nat.le_of_ble_eq_true rfl) (tagn2 rfl) ?_
  refine x_dup2 dX11_keeps_62 (tag1 rfl) (tag1 rfl) ?_
  obtain ⟨hi, F⟩ := F
  refine x_iald (e := (v 60 (v 47 0))) dX11_keeps_63 (sW60 hW) (gW60 hW) hi rfl ?_
  refine x_iconst dX11_keeps_64 rfl (i32_of rfl) ?_
  refine x_si32 (i := 1) rfl (fun hk1 => ?_)
  obtain ⟨hz, F⟩ := F
  have hz := hz hk1
  refine x_iadd dX11_keeps_65 hz ?_
  obtain ⟨hi, F⟩ := F
  refine x_iast dX11_keeps_66 (sW60 hW) (gW60 hW) hi ?_
  refine x_aload_n dX11_keeps_67 rfl ?_
  obtain ⟨P1, hC, F⟩ := F
  refine x_inv dX11_keeps_68 mlX11_210 hC (sW47 hW) (Nat.le_of_ble_eq_true rfl) (gW47 hW) rfl rfl (by omega) (Nat.zero_le _) (Nat.zero_le _) (Nat.le_of_ble_eq_true rfl) (fun o1 Y4 w3 ht hP => ?_)
  obtain rfl : o1 = none := ht
  obtain ⟨rfl, hP⟩ := hP
  have F := F w3 hP
  exact x_ret none rfl ⟨dX11_keeps_71, rfl⟩ F

set_option maxRecDepth 100000 in
set_option maxHeartbeats 4000000 in
theorem bX11_named_0 {d mc ms : Nat} {X : XX} {v : VV} {Q : QQ} (a1 : Int) (a2 : Int) (a3 : Int) (a4 : Int) (a5 : Int) (hd : 0 ≤ d) (hW : SW X) (F : i32 a1 → i32 a2 → i32 a3 → i32 a4 → i32 a5 → Ex mX11_named d 6 [(0, a1), (0, a2), (0, a3), (0, a4), (0, a5), (1, 0), (3, 0), (0, 0), (3, 0)] [] X v mc ms Q) : Ex mX11_named d 0 [(0, a1), (0, a2), (0, a3), (0, a4), (0, a5), (3, 0), (3, 0), (3, 0), (3, 0)] [] X v mc ms Q := by
  refine x_li32 (i := 0) rfl (fun ha1 => ?_)
  have F := F ha1
  refine x_li32 (i := 1) rfl (fun ha2 => ?_)
  have F := F ha2
  refine x_li32 (i := 2) rfl (fun ha3 => ?_)
  have F := F ha3
  refine x_li32 (i := 3) rfl (fun ha4 => ?_)
  have F := F ha4
  refine x_li32 (i := 4) rfl (fun ha5 => ?_)
  have F := F ha5
  refine x_lconst (i := 0) dX11_named_0 rfl (i64_of rfl) ?_
  refine x_lstore [(0, a1), (0, a2), (0, a3), (0, a4), (0, a5), (1, 0), (3, 0), (3, 0), (3, 0)] dX11_named_1 rfl (Nat.le_of_ble_eq_true rfl) ?_
  refine x_iconst dX11_named_3 rfl (i32_of rfl) ?_
  refine x_istore [(0, a1), (0, a2), (0, a3), (0, a4), (0, a5), (1, 0), (3, 0), (0, 0), (3, 0)] dX11_named_4 rfl (Nat.le_of_ble_eq_true rfl) ?_
  exact F

set_option maxRecDepth 100000 in
set_option maxHeartbeats 4000000 in
theorem bX11_named_6 {d mc ms : Nat} {X : XX} {v : VV} {Q : QQ} (a1 : Int) (a2 : Int) (a3 : Int) (a4 : Int) (a5 : Int) (x5 : Int) (x7 : Int) (hd : 0 ≤ d) (hW : SW X) (F : i32 a1 → i32 a2 → i32 a3 → i32 a4 → i32 a5 → i32 x7 → (((5 ≤ x7) → Q (some (1, x5)) X v) ∧ ((x7 < 5) → (((¬ x7 = 0) → (((¬ x7 = 1) → (((¬ x7 = 2) → (((¬ x7 = 3) → (((a5 = 32) → i32 (x7 + 1) ∧ Ex mX11_named d 6 [(0, a1), (0, a2), (0, a3), (0, a4), (0, a5), (1, x5), (3, 0), (0, (x7 + 1)), (3, 0)] [] X v mc ms Q) ∧ ((¬ a5 = 32) → i64 (27 * x5) ∧ i64 ((27 * x5) + a5) ∧ i64 (((27 * x5) + a5) - 97) ∧ i64 ((((27 * x5) + a5) - 97) + 1) ∧ i32 (x7 + 1) ∧ Ex mX11_named d 6 [(0, a1), (0, a2), (0, a3), (0, a4), (0, a5), (1, ((((27 * x5) + a5) - 97) + 1)), (3, 0), (0, (x7 + 1)), (3, 0)] [] X v mc ms Q))) ∧ ((x7 = 3) → (((a4 = 32) → i32 (x7 + 1) ∧ Ex mX11_named d 6 [(0, a1), (0, a2), (0, a3), (0, a4), (0, a5), (1, x5), (3, 0), (0, (x7 + 1)), (3, 0)] [] X v mc ms Q) ∧ ((¬ a4 = 32) → i64 (27 * x5) ∧ i64 ((27 * x5) + a4) ∧ i64 (((27 * x5) + a4) - 97) ∧ i64 ((((27 * x5) + a4) - 97) + 1) ∧ i32 (x7 + 1) ∧ Ex mX11_named d 6 [(0, a1), (0, a2), (0, a3), (0, a4), (0, a5), (1, ((((27 * x5) + a4) - 97) + 1)), (3, 0), (0, (x7 + 1)), (3, 0)] [] X v mc ms Q))))) ∧ ((x7 = 2) → (((a3 = 32) → i32 (x7 + 1) ∧ Ex mX11_named d 6 [(0, a1), (0, a2), (0, a3), (0, a4), (0, a5), (1, x5), (3, 0), (0, (x7 + 1)), (3, 0)] [] X v mc ms Q) ∧ ((¬ a3 = 32) → i64 (27 * x5) ∧ i64 ((27 * x5) + a3) ∧ i64 (((27 * x5) + a3) - 97) ∧ i64 ((((27 * x5) + a3) - 97) + 1) ∧ i32 (x7 + 1) ∧ Ex mX11_named d 6 [(0, a1), (0, a2), (0, a3), (0, a4), (0, a5), (1, ((((27 * x5) + a3) - 97) + 1)), (3, 0), (0, (x7 + 1)), (3, 0)] [] X v mc ms Q))))) ∧ ((x7 = 1) → (((a2 = 32) → i32 (x7 + 1) ∧ Ex mX11_named d 6 [(0, a1), (0, a2), (0, a3), (0, a4), (0, a5), (1, x5), (3, 0), (0, (x7 + 1)), (3, 0)] [] X v mc ms Q) ∧ ((¬ a2 = 32) → i64 (27 * x5) ∧ i64 ((27 * x5) + a2) ∧ i64 (((27 * x5) + a2) - 97) ∧ i64 ((((27 * x5) + a2) - 97) + 1) ∧ i32 (x7 + 1) ∧ Ex mX11_named d 6 [(0, a1), (0, a2), (0, a3), (0, a4), (0, a5), (1, ((((27 * x5) + a2) - 97) + 1)), (3, 0), (0, (x7 + 1)), (3, 0)] [] X v mc ms Q))))) ∧ ((x7 = 0) → (((a1 = 32) → i32 (x7 + 1) ∧ Ex mX11_named d 6 [(0, a1), (0, a2), (0, a3), (0, a4), (0, a5), (1, x5), (3, 0), (0, (x7 + 1)), (3, 0)] [] X v mc ms Q) ∧ ((¬ a1 = 32) → i64 (27 * x5) ∧ i64 ((27 * x5) + a1) ∧ i64 (((27 * x5) + a1) - 97) ∧ i64 ((((27 * x5) + a1) - 97) + 1) ∧ i32 (x7 + 1) ∧ Ex mX11_named d 6 [(0, a1), (0, a2), (0, a3), (0, a4), (0, a5), (1, ((((27 * x5) + a1) - 97) + 1)), (3, 0), (0, (x7 + 1)), (3, 0)] [] X v mc ms Q))))))) : Ex mX11_named d 6 [(0, a1), (0, a2), (0, a3), (0, a4), (0, a5), (1, x5), (3, 0), (0, x7), (3, 0)] [] X v mc ms Q := by
  refine x_li32 (i := 0) rfl (fun ha1 => ?_)
  have F := F ha1
  refine x_li32 (i := 1) rfl (fun ha2 => ?_)
  have F := F ha2
  refine x_li32 (i := 2) rfl (fun ha3 => ?_)
  have F := F ha3
  refine x_li32 (i := 3) rfl (fun ha4 => ?_)
  have F := F ha4
  refine x_li32 (i := 4) rfl (fun ha5 => ?_)
  have F := F ha5
  refine x_li32 (i := 7) rfl (fun hx7 => ?_)
  have F := F hx7
  refine x_iload dX11_named_6 rfl ?_
  refine x_iconst dX11_named_8 rfl (i32_of rfl) ?_
  refine x_icmp_ge 86 dX11_named_9 rfl (fun hc => ?_) (fun hc => ?_)
  · have F := F.1 hc
    refine x_lload dX11_named_86 rfl ?_
    exact x_ret (some (1, x5)) rfl ⟨dX11_named_88, rfl⟩ F
  · have F := F.2 hc
    refine x_iload dX11_named_12 rfl ?_
    refine x_if_ne 21 dX11_named_14 rfl (fun hc => ?_) (fun hc => ?_)
    · have F := F.1 hc
      refine x_iload dX11_named_21 rfl ?_
      refine x_iconst dX11_named_23 rfl (i32_of rfl) ?_
      refine x_icmp_ne 31 dX11_named_24 rfl (fun hc => ?_) (fun hc => ?_)
      · have F := F.1 hc
        refine x_iload dX11_named_31 rfl ?_
        refine x_iconst dX11_named_33 rfl (i32_of rfl) ?_
        refine x_icmp_ne 41 dX11_named_34 rfl (fun hc => ?_) (fun hc => ?_)
        · have F := F.1 hc
          refine x_iload dX11_named_41 rfl ?_
          refine x_iconst dX11_named_43 rfl (i32_of rfl) ?_
          refine x_icmp_ne 51 dX11_named_44 rfl (fun hc => ?_) (fun hc => ?_)
          · have F := F.1 hc
            refine x_iload dX11_named_51 rfl ?_
            refine x_istore [(0, a1), (0, a2), (0, a3), (0, a4), (0, a5), (1, x5), (3, 0), (0, x7), (0, a5)] dX11_named_53 rfl (Nat.le_of_ble_eq_true rfl) ?_
            refine x_iload dX11_named_55 rfl ?_
            refine x_bipush dX11_named_57 kb_32 (i32_of rfl) ?_
            refine x_icmp_eq 80 dX11_named_59 rfl (fun hc => ?_) (fun hc => ?_)
            · have F := F.1 hc
              obtain ⟨hz, F⟩ := F
              refine x_iinc [(0, a1), (0, a2), (0, a3), (0, a4), (0, a5), (1, x5), (3, 0), (0, (x7 + 1)), (0, a5)] dX11_named_80 rfl rfl (Nat.le_of_ble_eq_true rfl) hz ?_
              refine x_goto 6 dX11_named_83 rfl ?_
              exact x_less [(0, a1), (0, a2), (0, a3), (0, a4), (0, a5), (1, x5), (3, 0), (0, (x7 + 1)), (3, 0)] ⟨Or.inr rfl, ⟨Or.inr rfl, ⟨Or.inr rfl, ⟨Or.inr rfl, ⟨Or.inr rfl, ⟨Or.inr rfl, ⟨Or.inr rfl, ⟨Or.inr rfl, ⟨Or.inl rfl, trivial⟩⟩⟩⟩⟩⟩⟩⟩⟩ F
            · have F := F.2 hc
              refine x_ldc2 (i := 27) 27 dX11_named_62 lcX11_175 rfl (i64_of rfl) ?_
              refine x_lload dX11_named_65 rfl ?_
              obtain ⟨hz, F⟩ := F
              refine x_lmul dX11_named_67 hz ?_
              refine x_iload dX11_named_68 rfl ?_
              refine x_i2l dX11_named_70 ?_
              obtain ⟨hz, F⟩ := F
              refine x_ladd dX11_named_71 hz ?_
              refine x_ldc2 (i := 97) 97 dX11_named_72 lcX11_177 rfl (i64_of rfl) ?_
              obtain ⟨hz, F⟩ := F
              refine x_lsub dX11_named_75 hz ?_
              refine x_lconst (i := 1) dX11_named_76 rfl (i64_of rfl) ?_
              obtain ⟨hz, F⟩ := F
              refine x_ladd dX11_named_77 hz ?_
              refine x_lstore [(0, a1), (0, a2), (0, a3), (0, a4), (0, a5), (1, ((((27 * x5) + a5) - 97) + 1)), (3, 0), (0, x7), (0, a5)] dX11_named_78 rfl (Nat.le_of_ble_eq_true rfl) ?_
              obtain ⟨hz, F⟩ := F
              refine x_iinc [(0, a1), (0, a2), (0, a3), (0, a4), (0, a5), (1, ((((27 * x5) + a5) - 97) + 1)), (3, 0), (0, (x7 + 1)), (0, a5)] dX11_named_80 rfl rfl (Nat.le_of_ble_eq_true rfl) hz ?_
              refine x_goto 6 dX11_named_83 rfl ?_
              exact x_less [(0, a1), (0, a2), (0, a3), (0, a4), (0, a5), (1, ((((27 * x5) + a5) - 97) + 1)), (3, 0), (0, (x7 + 1)), (3, 0)] ⟨Or.inr rfl, ⟨Or.inr rfl, ⟨Or.inr rfl, ⟨Or.inr rfl, ⟨Or.inr rfl, ⟨Or.inr rfl, ⟨Or.inr rfl, ⟨Or.inr rfl, ⟨Or.inl rfl, trivial⟩⟩⟩⟩⟩⟩⟩⟩⟩ F
          · have F := F.2 hc
            refine x_iload_n dX11_named_47 rfl ?_
            refine x_goto 53 dX11_named_48 rfl ?_
            refine x_istore [(0, a1), (0, a2), (0, a3), (0, a4), (0, a5), (1, x5), (3, 0), (0, x7), (0, a4)] dX11_named_53 rfl (Nat.le_of_ble_eq_true rfl) ?_
            refine x_iload dX11_named_55 rfl ?_
            refine x_bipush dX11_named_57 kb_32 (i32_of rfl) ?_
            refine x_icmp_eq 80 dX11_named_59 rfl (fun hc => ?_) (fun hc => ?_)
            · have F := F.1 hc
              obtain ⟨hz, F⟩ := F
              refine x_iinc [(0, a1), (0, a2), (0, a3), (0, a4), (0, a5), (1, x5), (3, 0), (0, (x7 + 1)), (0, a4)] dX11_named_80 rfl rfl (Nat.le_of_ble_eq_true rfl) hz ?_
              refine x_goto 6 dX11_named_83 rfl ?_
              exact x_less [(0, a1), (0, a2), (0, a3), (0, a4), (0, a5), (1, x5), (3, 0), (0, (x7 + 1)), (3, 0)] ⟨Or.inr rfl, ⟨Or.inr rfl, ⟨Or.inr rfl, ⟨Or.inr rfl, ⟨Or.inr rfl, ⟨Or.inr rfl, ⟨Or.inr rfl, ⟨Or.inr rfl, ⟨Or.inl rfl, trivial⟩⟩⟩⟩⟩⟩⟩⟩⟩ F
            · have F := F.2 hc
              refine x_ldc2 (i := 27) 27 dX11_named_62 lcX11_175 rfl (i64_of rfl) ?_
              refine x_lload dX11_named_65 rfl ?_
              obtain ⟨hz, F⟩ := F
              refine x_lmul dX11_named_67 hz ?_
              refine x_iload dX11_named_68 rfl ?_
              refine x_i2l dX11_named_70 ?_
              obtain ⟨hz, F⟩ := F
              refine x_ladd dX11_named_71 hz ?_
              refine x_ldc2 (i := 97) 97 dX11_named_72 lcX11_177 rfl (i64_of rfl) ?_
              obtain ⟨hz, F⟩ := F
              refine x_lsub dX11_named_75 hz ?_
              refine x_lconst (i := 1) dX11_named_76 rfl (i64_of rfl) ?_
              obtain ⟨hz, F⟩ := F
              refine x_ladd dX11_named_77 hz ?_
              refine x_lstore [(0, a1), (0, a2), (0, a3), (0, a4), (0, a5), (1, ((((27 * x5) + a4) - 97) + 1)), (3, 0), (0, x7), (0, a4)] dX11_named_78 rfl (Nat.le_of_ble_eq_true rfl) ?_
              obtain ⟨hz, F⟩ := F
              refine x_iinc [(0, a1), (0, a2), (0, a3), (0, a4), (0, a5), (1, ((((27 * x5) + a4) - 97) + 1)), (3, 0), (0, (x7 + 1)), (0, a4)] dX11_named_80 rfl rfl (Nat.le_of_ble_eq_true rfl) hz ?_
              refine x_goto 6 dX11_named_83 rfl ?_
              exact x_less [(0, a1), (0, a2), (0, a3), (0, a4), (0, a5), (1, ((((27 * x5) + a4) - 97) + 1)), (3, 0), (0, (x7 + 1)), (3, 0)] ⟨Or.inr rfl, ⟨Or.inr rfl, ⟨Or.inr rfl, ⟨Or.inr rfl, ⟨Or.inr rfl, ⟨Or.inr rfl, ⟨Or.inr rfl, ⟨Or.inr rfl, ⟨Or.inl rfl, trivial⟩⟩⟩⟩⟩⟩⟩⟩⟩ F
        · have F := F.2 hc
          refine x_iload_n dX11_named_37 rfl ?_
          refine x_goto 53 dX11_named_38 rfl ?_
          refine x_istore [(0, a1), (0, a2), (0, a3), (0, a4), (0, a5), (1, x5), (3, 0), (0, x7), (0, a3)] dX11_named_53 rfl (Nat.le_of_ble_eq_true rfl) ?_
          refine x_iload dX11_named_55 rfl ?_
          refine x_bipush dX11_named_57 kb_32 (i32_of rfl) ?_
          refine x_icmp_eq 80 dX11_named_59 rfl (fun hc => ?_) (fun hc => ?_)
          · have F := F.1 hc
            obtain ⟨hz, F⟩ := F
            refine x_iinc [(0, a1), (0, a2), (0, a3), (0, a4), (0, a5), (1, x5), (3, 0), (0, (x7 + 1)), (0, a3)] dX11_named_80 rfl rfl (Nat.le_of_ble_eq_true rfl) hz ?_
            refine x_goto 6 dX11_named_83 rfl ?_
            exact x_less [(0, a1), (0, a2), (0, a3), (0, a4), (0, a5), (1, x5), (3, 0), (0, (x7 + 1)), (3, 0)] ⟨Or.inr rfl, ⟨Or.inr rfl, ⟨Or.inr rfl, ⟨Or.inr rfl, ⟨Or.inr rfl, ⟨Or.inr rfl, ⟨Or.inr rfl, ⟨Or.inr rfl, ⟨Or.inl rfl, trivial⟩⟩⟩⟩⟩⟩⟩⟩⟩ F
          · have F := F.2 hc
            refine x_ldc2 (i := 27) 27 dX11_named_62 lcX11_175 rfl (i64_of rfl) ?_
            refine x_lload dX11_named_65 rfl ?_
            obtain ⟨hz, F⟩ := F
            refine x_lmul dX11_named_67 hz ?_
            refine x_iload dX11_named_68 rfl ?_
            refine x_i2l dX11_named_70 ?_
            obtain ⟨hz, F⟩ := F
            refine x_ladd dX11_named_71 hz ?_
            refine x_ldc2 (i := 97) 97 dX11_named_72 lcX11_177 rfl (i64_of rfl) ?_
            obtain ⟨hz, F⟩ := F
            refine x_lsub dX11_named_75 hz ?_
            refine x_lconst (i := 1) dX11_named_76 rfl (i64_of rfl) ?_
            obtain ⟨hz, F⟩ := F
            refine x_ladd dX11_named_77 hz ?_
            refine x_lstore [(0, a1), (0, a2), (0, a3), (0, a4), (0, a5), (1, ((((27 * x5) + a3) - 97) + 1)), (3, 0), (0, x7), (0, a3)] dX11_named_78 rfl (Nat.le_of_ble_eq_true rfl) ?_
            obtain ⟨hz, F⟩ := F
            refine x_iinc [(0, a1), (0, a2), (0, a3), (0, a4), (0, a5), (1, ((((27 * x5) + a3) - 97) + 1)), (3, 0), (0, (x7 + 1)), (0, a3)] dX11_named_80 rfl rfl (Nat.le_of_ble_eq_true rfl) hz ?_
            refine x_goto 6 dX11_named_83 rfl ?_
            exact x_less [(0, a1), (0, a2), (0, a3), (0, a4), (0, a5), (1, ((((27 * x5) + a3) - 97) + 1)), (3, 0), (0, (x7 + 1)), (3, 0)] ⟨Or.inr rfl, ⟨Or.inr rfl, ⟨Or.inr rfl, ⟨Or.inr rfl, ⟨Or.inr rfl, ⟨Or.inr rfl, ⟨Or.inr rfl, ⟨Or.inr rfl, ⟨Or.inl rfl, trivial⟩⟩⟩⟩⟩⟩⟩⟩⟩ F
      · have F := F.2 hc
        refine x_iload_n dX11_named_27 rfl ?_
        refine x_goto 53 dX11_named_28 rfl ?_
        refine x_istore [(0, a1), (0, a2), (0, a3), (0, a4), (0, a5), (1, x5), (3, 0), (0, x7), (0, a2)] dX11_named_53 rfl (Nat.le_of_ble_eq_true rfl) ?_
        refine x_iload dX11_named_55 rfl ?_
        refine x_bipush dX11_named_57 kb_32 (i32_of rfl) ?_
        refine x_icmp_eq 80 dX11_named_59 rfl (fun hc => ?_) (fun hc => ?_)
        · have F := F.1 hc
          obtain ⟨hz, F⟩ := F
          refine x_iinc [(0, a1), (0, a2), (0, a3), (0, a4), (0, a5), (1, x5), (3, 0), (0, (x7 + 1)), (0, a2)] dX11_named_80 rfl rfl (Nat.le_of_ble_eq_true rfl) hz ?_
          refine x_goto 6 dX11_named_83 rfl ?_
          exact x_less [(0, a1), (0, a2), (0, a3), (0, a4), (0, a5), (1, x5), (3, 0), (0, (x7 + 1)), (3, 0)] ⟨Or.inr rfl, ⟨Or.inr rfl, ⟨Or.inr rfl, ⟨Or.inr rfl, ⟨Or.inr rfl, ⟨Or.inr rfl, ⟨Or.inr rfl, ⟨Or.inr rfl, ⟨Or.inl rfl, trivial⟩⟩⟩⟩⟩⟩⟩⟩⟩ F
        · have F := F.2 hc
          refine x_ldc2 (i := 27) 27 dX11_named_62 lcX11_175 rfl (i64_of rfl) ?_
          refine x_lload dX11_named_65 rfl ?_
          obtain ⟨hz, F⟩ := F
          refine x_lmul dX11_named_67 hz ?_
          refine x_iload dX11_named_68 rfl ?_
          refine x_i2l dX11_named_70 ?_
          obtain ⟨hz, F⟩ := F
          refine x_ladd dX11_named_71 hz ?_
          refine x_ldc2 (i := 97) 97 dX11_named_72 lcX11_177 rfl (i64_of rfl) ?_
          obtain ⟨hz, F⟩ := F
          refine x_lsub dX11_named_75 hz ?_
          refine x_lconst (i := 1) dX11_named_76 rfl (i64_of rfl) ?_
          obtain ⟨hz, F⟩ := F
          refine x_ladd dX11_named_77 hz ?_
          refine x_lstore [(0, a1), (0, a2), (0, a3), (0, a4), (0, a5), (1, ((((27 * x5) + a2) - 97) + 1)), (3, 0), (0, x7), (0, a2)] dX11_named_78 rfl (Nat.le_of_ble_eq_true rfl) ?_
          obtain ⟨hz, F⟩ := F
          refine x_iinc [(0, a1), (0, a2), (0, a3), (0, a4), (0, a5), (1, ((((27 * x5) + a2) - 97) + 1)), (3, 0), (0, (x7 + 1)), (0, a2)] dX11_named_80 rfl rfl (Nat.le_of_ble_eq_true rfl) hz ?_
          refine x_goto 6 dX11_named_83 rfl ?_
          exact x_less [(0, a1), (0, a2), (0, a3), (0, a4), (0, a5), (1, ((((27 * x5) + a2) - 97) + 1)), (3, 0), (0, (x7 + 1)), (3, 0)] ⟨Or.inr rfl, ⟨Or.inr rfl, ⟨Or.inr rfl, ⟨Or.inr rfl, ⟨Or.inr rfl, ⟨Or.inr rfl, ⟨Or.inr rfl, ⟨Or.inr rfl, ⟨Or.inl rfl, trivial⟩⟩⟩⟩⟩⟩⟩⟩⟩ F
    · have F := F.2 hc
      refine x_iload_n dX11_named_17 rfl ?_
      refine x_goto 53 dX11_named_18 rfl ?_
      refine x_istore [(0, a1), (0, a2), (0, a3), (0, a4), (0, a5), (1, x5), (3, 0), (0, x7), (0, a1)] dX11_named_53 rfl (Nat.le_of_ble_eq_true rfl) ?_
      refine x_iload dX11_named_55 rfl ?_
      refine x_bipush dX11_named_57 kb_32 (i32_of rfl) ?_
      refine x_icmp_eq 80 dX11_named_59 rfl (fun hc => ?_) (fun hc => ?_)
      · have F := F.1 hc
        obtain ⟨hz, F⟩ := F
        refine x_iinc [(0, a1), (0, a2), (0, a3), (0, a4), (0, a5), (1, x5), (3, 0), (0, (x7 + 1)), (0, a1)] dX11_named_80 rfl rfl (Nat.le_of_ble_eq_true rfl) hz ?_
        refine x_goto 6 dX11_named_83 rfl ?_
        exact x_less [(0, a1), (0, a2), (0, a3), (0, a4), (0, a5), (1, x5), (3, 0), (0, (x7 + 1)), (3, 0)] ⟨Or.inr rfl, ⟨Or.inr rfl, ⟨Or.inr rfl, ⟨Or.inr rfl, ⟨Or.inr rfl, ⟨Or.inr rfl, ⟨Or.inr rfl, ⟨Or.inr rfl, ⟨Or.inl rfl, trivial⟩⟩⟩⟩⟩⟩⟩⟩⟩ F
      · have F := F.2 hc
        refine x_ldc2 (i := 27) 27 dX11_named_62 lcX11_175 rfl (i64_of rfl) ?_
        refine x_lload dX11_named_65 rfl ?_
        obtain ⟨hz, F⟩ := F
        refine x_lmul dX11_named_67 hz ?_
        refine x_iload dX11_named_68 rfl ?_
        refine x_i2l dX11_named_70 ?_
        obtain ⟨hz, F⟩ := F
        refine x_ladd dX11_named_71 hz ?_
        refine x_ldc2 (i := 97) 97 dX11_named_72 lcX11_177 rfl (i64_of rfl) ?_
        obtain ⟨hz, F⟩ := F
        refine x_lsub dX11_named_75 hz ?_
        refine x_lconst (i := 1) dX11_named_76 rfl (i64_of rfl) ?_
        obtain ⟨hz, F⟩ := F
        refine x_ladd dX11_named_77 hz ?_
        refine x_lstore [(0, a1), (0, a2), (0, a3), (0, a4), (0, a5), (1, ((((27 * x5) + a1) - 97) + 1)), (3, 0), (0, x7), (0, a1)] dX11_named_78 rfl (Nat.le_of_ble_eq_true rfl) ?_
        obtain ⟨hz, F⟩ := F
        refine x_iinc [(0, a1), (0, a2), (0, a3), (0, a4), (0, a5), (1, ((((27 * x5) + a1) - 97) + 1)), (3, 0), (0, (x7 + 1)), (0, a1)] dX11_named_80 rfl rfl (Nat.le_of_ble_eq_true rfl) hz ?_
        refine x_goto 6 dX11_named_83 rfl ?_
        exact x_less [(0, a1), (0, a2), (0, a3), (0, a4), (0, a5), (1, ((((27 * x5) + a1) - 97) + 1)), (3, 0), (0, (x7 + 1)), (3, 0)] ⟨Or.inr rfl, ⟨Or.inr rfl, ⟨Or.inr rfl, ⟨Or.inr rfl, ⟨Or.inr rfl, ⟨Or.inr rfl, ⟨Or.inr rfl, ⟨Or.inr rfl, ⟨Or.inl rfl, trivial⟩⟩⟩⟩⟩⟩⟩⟩⟩ F

set_option maxRecDepth 100000 in
set_option maxHeartbeats 4000000 in
theorem bX11_isWord_0 {d mc ms : Nat} {X : XX} {v : VV} {Q : QQ} (a1 : Int) (hd : 0 ≤ d) (hW : SW X) (F : (((¬ (v 47 29) = 1) → Q (some (0, 0)) X v) ∧ (((v 47 29) = 1) → (((¬ (v 47 32) = a1) → Q (some (0, 0)) X v) ∧ (((v 47 32) = a1) → Q (some (0, 1)) X v))))) : Ex mX11_isWord d 0 [(2, 47), (1, a1), (3, 0)] [] X v mc ms Q := by
  refine x_aload_n dX11_isWord_0 rfl ?_
  refine x_geti (e := (v 47 29)) 0 flX11_197 dX11_isWord_1 (sW47 hW) (gW47 hW) rfl rfl (Nat.le_of_ble_eq_true rfl) (tagn2 rfl) ?_
  refine x_iconst dX11_isWord_4 rfl (i32_of rfl) ?_
  refine x_icmp_ne 21 dX11_isWord_5 rfl (fun hc => ?_) (fun hc => ?_)
  · have F := F.1 hc
    refine x_iconst dX11_isWord_21 rfl (i32_of rfl) ?_
    exact x_ret (some (0, 0)) rfl ⟨dX11_isWord_22, Or.inr ⟨rfl, Or.inl rfl⟩⟩ F
  · have F := F.2 hc
    refine x_aload_n dX11_isWord_8 rfl ?_
    refine x_geti (e := (v 47 32)) 1 flX11_194 dX11_isWord_9 (sW47 hW) (gW47 hW) rfl rfl (Nat.le_of_ble_eq_true rfl) (tagn2 rfl) ?_
    refine x_lload_n dX11_isWord_12 rfl ?_
    refine x_lcmp dX11_isWord_13 (fun z1 hz11 hz12 hz13 => ?_)
    refine x_if_ne 21 dX11_isWord_14 rfl (fun hc => ?_) (fun hc => ?_)
    · have F := F.1 (fun q => hc (hz11.mpr q))
      refine x_iconst dX11_isWord_21 rfl (i32_of rfl) ?_
      exact x_ret (some (0, 0)) rfl ⟨dX11_isWord_22, Or.inr ⟨rfl, Or.inl rfl⟩⟩ F
    · have F := F.2 (hz11.mp hc)
      refine x_iconst dX11_isWord_17 rfl (i32_of rfl) ?_
      refine x_goto 22 dX11_isWord_18 rfl ?_
      exact x_ret (some (0, 1)) rfl ⟨dX11_isWord_22, Or.inr ⟨rfl, Or.inr rfl⟩⟩ F

set_option maxRecDepth 100000 in
set_option maxHeartbeats 4000000 in
theorem bX11_isName_0 {d mc ms : Nat} {X : XX} {v : VV} {Q : QQ} (hd : 0 ≤ d) (hW : SW X) (F : (((¬ (v 47 29) = 1) → Q (some (0, 0)) X v) ∧ (((v 47 29) = 1) → (((¬ (v 47 31) = (-1)) → Q (some (0, 0)) X v) ∧ (((v 47 31) = (-1)) → ((((v 47 32) = (v 47 33)) → Q (some (0, 0)) X v) ∧ ((¬ (v 47 32) = (v 47 33)) → ((((v 47 32) = (v 47 34)) → Q (some (0, 0)) X v) ∧ ((¬ (v 47 32) = (v 47 34)) → ((((v 47 32) = (v 47 35)) → Q (some (0, 0)) X v) ∧ ((¬ (v 47 32) = (v 47 35)) → ((((v 47 32) = (v 47 36)) → Q (some (0, 0)) X v) ∧ ((¬ (v 47 32) = (v 47 36)) → ((((v 47 32) = (v 47 37)) → Q (some (0, 0)) X v) ∧ ((¬ (v 47 32) = (v 47 37)) → ((((v 47 32) = (v 47 38)) → Q (some (0, 0)) X v) ∧ ((¬ (v 47 32) = (v 47 38)) → ((((v 47 32) = (v 47 39)) → Q (some (0, 0)) X v) ∧ ((¬ (v 47 32) = (v 47 39)) → Q (some (0, 1)) X v))))))))))))))))))) : Ex mX11_isName d 0 [(2, 47)] [] X v mc ms Q := by
  refine x_aload_n dX11_isName_0 rfl ?_
  refine x_geti (e := (v 47 29)) 0 flX11_197 dX11_isName_1 (sW47 hW) (gW47 hW) rfl rfl (Nat.le_of_ble_eq_true rfl) (tagn2 rfl) ?_
  refine x_iconst dX11_isName_4 rfl (i32_of rfl) ?_
  refine x_icmp_ne 104 dX11_isName_5 rfl (fun hc => ?_) (fun hc => ?_)
  · have F := F.1 hc
    refine x_iconst dX11_isName_104 rfl (i32_of rfl) ?_
    exact x_ret (some (0, 0)) rfl ⟨dX11_isName_105, Or.inr ⟨rfl, Or.inl rfl⟩⟩ F
  · have F := F.2 hc
    refine x_aload_n dX11_isName_8 rfl ?_
    refine x_geti (e := (v 47 31)) 0 flX11_191 dX11_isName_9 (sW47 hW) (gW47 hW) rfl rfl (Nat.le_of_ble_eq_true rfl) (tagn2 rfl) ?_
    refine x_iconst dX11_isName_12 rfl (i32_of rfl) ?_
    refine x_icmp_ne 104 dX11_isName_13 rfl (fun hc => ?_) (fun hc => ?_)
    · have F := F.1 hc
      refine x_iconst dX11_isName_104 rfl (i32_of rfl) ?_
      exact x_ret (some (0, 0)) rfl ⟨dX11_isName_105, Or.inr ⟨rfl, Or.inl rfl⟩⟩ F
    · have F := F.2 hc
      refine x_aload_n dX11_isName_16 rfl ?_
      refine x_geti (e := (v 47 32)) 1 flX11_194 dX11_isName_17 (sW47 hW) (gW47 hW) rfl rfl (Nat.le_of_ble_eq_true rfl) (tagn2 rfl) ?_
      refine x_aload_n dX11_isName_20 rfl ?_
      refine x_geti (e := (v 47 33)) 1 flX11_83 dX11_isName_21 (sW47 hW) (gW47 hW) rfl rfl (Nat.le_of_ble_eq_true rfl) (tagn2 rfl) ?_
      refine x_lcmp dX11_isName_24 (fun z1 hz11 hz12 hz13 => ?_)
      refine x_if_eq 104 dX11_isName_25 rfl (fun hc => ?_) (fun hc => ?_)
      · have F := F.1 (hz11.mp hc)
        refine x_iconst dX11_isName_104 rfl (i32_of rfl) ?_
        exact x_ret (some (0, 0)) rfl ⟨dX11_isName_105, Or.inr ⟨rfl, Or.inl rfl⟩⟩ F
      · have F := F.2 (fun q => hc (hz11.mpr q))
        refine x_aload_n dX11_isName_28 rfl ?_
        refine x_geti (e := (v 47 32)) 1 flX11_194 dX11_isName_29 (sW47 hW) (gW47 hW) rfl rfl (Nat.le_of_ble_eq_true rfl) (tagn2 rfl) ?_
        refine x_aload_n dX11_isName_32 rfl ?_
        refine x_geti (e := (v 47 34)) 1 flX11_87 dX11_isName_33 (sW47 hW) (gW47 hW) rfl rfl (Nat.le_of_ble_eq_true rfl) (tagn2 rfl) ?_
        refine x_lcmp dX11_isName_36 (fun z2 hz21 hz22 hz23 => ?_)
        refine x_if_eq 104 dX11_isName_37 rfl (fun hc => ?_) (fun hc => ?_)
        · have F := F.1 (hz21.mp hc)
          refine x_iconst dX11_isName_104 rfl (i32_of rfl) ?_
          exact x_ret (some (0, 0)) rfl ⟨dX11_isName_105, Or.inr ⟨rfl, Or.inl rfl⟩⟩ F
        · have F := F.2 (fun q => hc (hz21.mpr q))
          refine x_aload_n dX11_isName_40 rfl ?_
          refine x_geti (e := (v 47 32)) 1 flX11_194 dX11_isName_41 (sW47 hW) (gW47 hW) rfl rfl (Nat.le_of_ble_eq_true rfl) (tagn2 rfl) ?_
          refine x_aload_n dX11_isName_44 rfl ?_
          refine x_geti (e := (v 47 35)) 1 flX11_90 dX11_isName_45 (sW47 hW) (gW47 hW) rfl rfl (Nat.le_of_ble_eq_true rfl) (tagn2 rfl) ?_
          refine x_lcmp dX11_isName_48 (fun z3 hz31 hz32 hz33 => ?_)
          refine x_if_eq 104 dX11_isName_49 rfl (fun hc => ?_) (fun hc => ?_)
          · have F := F.1 (hz31.mp hc)
            refine x_iconst dX11_isName_104 rfl (i32_of rfl) ?_
            exact x_ret (some (0, 0)) rfl ⟨dX11_isName_105, Or.inr ⟨rfl, Or.inl rfl⟩⟩ F
          · have F := F.2 (fun q => hc (hz31.mpr q))
            refine x_aload_n dX11_isName_52 rfl ?_
            refine x_geti (e := (v 47 32)) 1 flX11_194 dX11_isName_53 (sW47 hW) (gW47 hW) rfl rfl (Nat.le_of_ble_eq_true rfl) (tagn2 rfl) ?_
            refine x_aload_n dX11_isName_56 rfl ?_
            refine x_geti (e := (v 47 36)) 1 flX11_93 dX11_isName_57 (sW47 hW) (gW47 hW) rfl rfl (Nat.le_of_ble_eq_true rfl) (tagn2 rfl) ?_
            refine x_lcmp dX11_isName_60 (fun z4 hz41 hz42 hz43 => ?_)
            refine x_if_eq 104 dX11_isName_61 rfl (fun hc => ?_) (fun hc => ?_)
            · have F := F.1 (hz41.mp hc)
              refine x_iconst dX11_isName_104 rfl (i32_of rfl) ?_
              exact x_ret (some (0, 0)) rfl ⟨dX11_isName_105, Or.inr ⟨rfl, Or.inl rfl⟩⟩ F
            · have F := F.2 (fun q => hc (hz41.mpr q))
              refine x_aload_n dX11_isName_64 rfl ?_
              refine x_geti (e := (v 47 32)) 1 flX11_194 dX11_isName_65 (sW47 hW) (gW47 hW) rfl rfl (Nat.le_of_ble_eq_true rfl) (tagn2 rfl) ?_
              refine x_aload_n dX11_isName_68 rfl ?_
              refine x_geti (e := (v 47 37)) 1 flX11_96 dX11_isName_69 (sW47 hW) (gW47 hW) rfl rfl (Nat.le_of_ble_eq_true rfl) (tagn2 rfl) ?_
              refine x_lcmp dX11_isName_72 (fun z5 hz51 hz52 hz53 => ?_)
              refine x_if_eq 104 dX11_isName_73 rfl (fun hc => ?_) (fun hc => ?_)
              · have F := F.1 (hz51.mp hc)
                refine x_iconst dX11_isName_104 rfl (i32_of rfl) ?_
                exact x_ret (some (0, 0)) rfl ⟨dX11_isName_105, Or.inr ⟨rfl, Or.inl rfl⟩⟩ F
              · have F := F.2 (fun q => hc (hz51.mpr q))
                refine x_aload_n dX11_isName_76 rfl ?_
                refine x_geti (e := (v 47 32)) 1 flX11_194 dX11_isName_77 (sW47 hW) (gW47 hW) rfl rfl (Nat.le_of_ble_eq_true rfl) (tagn2 rfl) ?_
                refine x_aload_n dX11_isName_80 rfl ?_
                refine x_geti (e := (v 47 38)) 1 flX11_99 dX11_isName_81 (sW47 hW) (gW47 hW) rfl rfl (Nat.le_of_ble_eq_true rfl) (tagn2 rfl) ?_
                refine x_lcmp dX11_isName_84 (fun z6 hz61 hz62 hz63 => ?_)
                refine x_if_eq 104 dX11_isName_85 rfl (fun hc => ?_) (fun hc => ?_)
                · have F := F.1 (hz61.mp hc)
                  refine x_iconst dX11_isName_104 rfl (i32_of rfl) ?_
                  exact x_ret (some (0, 0)) rfl ⟨dX11_isName_105, Or.inr ⟨rfl, Or.inl rfl⟩⟩ F
                · have F := F.2 (fun q => hc (hz61.mpr q))
                  refine x_aload_n dX11_isName_88 rfl ?_
                  refine x_geti (e := (v 47 32)) 1 flX11_194 dX11_isName_89 (sW47 hW) (gW47 hW) rfl rfl (Nat.le_of_ble_eq_true rfl) (tagn2 rfl) ?_
                  refine x_aload_n dX11_isName_92 rfl ?_
                  refine x_geti (e := (v 47 39)) 1 flX11_102 dX11_isName_93 (sW47 hW) (gW47 hW) rfl rfl (Nat.le_of_ble_eq_true rfl) (tagn2 rfl) ?_
                  refine x_lcmp dX11_isName_96 (fun z7 hz71 hz72 hz73 => ?_)
                  refine x_if_eq 104 dX11_isName_97 rfl (fun hc => ?_) (fun hc => ?_)
                  · have F := F.1 (hz71.mp hc)
                    refine x_iconst dX11_isName_104 rfl (i32_of rfl) ?_
                    exact x_ret (some (0, 0)) rfl ⟨dX11_isName_105, Or.inr ⟨rfl, Or.inl rfl⟩⟩ F
                  · have F := F.2 (fun q => hc (hz71.mpr q))
                    refine x_iconst dX11_isName_100 rfl (i32_of rfl) ?_
                    refine x_goto 105 dX11_isName_101 rfl ?_
                    exact x_ret (some (0, 1)) rfl ⟨dX11_isName_105, Or.inr ⟨rfl, Or.inr rfl⟩⟩ F

set_option maxRecDepth 100000 in
set_option maxHeartbeats 4000000 in
theorem bX11_sign_0 {d mc ms : Nat} {X : XX} {v : VV} {Q : QQ} (a1 : Int) (hd : 3 ≤ d) (hW : SW X) (F : i32 a1 → (((¬ (v 47 29) = a1) → ∃ P1 : Option AV → VV → Prop, Con mX11_fail 0 0 0 [(2, 47), (0, 1), (0, (v 47 30))] X v (fun o X1 v1 => X1 = X ∧ P1 o v1) ∧ ∀ (w3 : VV), P1 none w3 → Q none X w3) ∧ (((v 47 29) = a1) → ∃ P5 : Option AV → VV → Prop, Con mX11_keeps 2 0 0 [(2, 47)] X v (fun o X1 v1 => X1 = X ∧ P5 o v1) ∧ ∀ (w7 : VV), P5 none w7 → Q none X w7))) : Ex mX11_sign d 0 [(2, 47), (0, a1)] [] X v mc ms Q := by
  refine x_li32 (i := 1) rfl (fun ha1 => ?_)
  have F := F ha1
  refine x_aload_n dX11_sign_0 rfl ?_
  refine x_geti (e := (v 47 29)) 0 flX11_197 dX11_sign_1 (sW47 hW) (gW47 hW) rfl rfl (Nat.le_of_ble_eq_true rfl) (tagn2 rfl) ?_
  refine x_iload_n dX11_sign_4 rfl ?_
  refine x_icmp_ne 15 dX11_sign_5 rfl (fun hc => ?_) (fun hc => ?_)
  · have F := F.1 hc
    refine x_aload_n dX11_sign_15 rfl ?_
    refine x_iconst dX11_sign_16 rfl (i32_of rfl) ?_
    refine x_aload_n dX11_sign_17 rfl ?_
    refine x_geti (e := (v 47 30)) 0 flX11_188 dX11_sign_18 (sW47 hW) (gW47 hW) rfl rfl (Nat.le_of_ble_eq_true rfl) (tagn2 rfl) ?_
    obtain ⟨P1, hC, F⟩ := F
    refine x_inv dX11_sign_21 mlX11_216 hC (sW47 hW) (Nat.le_of_ble_eq_true rfl) (gW47 hW) rfl rfl (by omega) (Nat.zero_le _) (Nat.zero_le _) (Nat.le_of_ble_eq_true rfl) (fun o1 Y4 w3 ht hP => ?_)
    obtain rfl : o1 = none := ht
    obtain ⟨rfl, hP⟩ := hP
    have F := F w3 hP
    exact x_ret none rfl ⟨dX11_sign_24, rfl⟩ F
  · have F := F.2 hc
    refine x_aload_n dX11_sign_8 rfl ?_
    obtain ⟨P5, hC, F⟩ := F
    refine x_inv dX11_sign_9 mlX11_213 hC (sW47 hW) (Nat.le_of_ble_eq_true rfl) (gW47 hW) rfl rfl (by omega) (Nat.zero_le _) (Nat.zero_le _) (Nat.le_of_ble_eq_true rfl) (fun o1 Y8 w7 ht hP => ?_)
    obtain rfl : o1 = none := ht
    obtain ⟨rfl, hP⟩ := hP
    have F := F w7 hP
    refine x_goto 24 dX11_sign_12 rfl ?_
    exact x_ret none rfl ⟨dX11_sign_24, rfl⟩ F

set_option maxRecDepth 100000 in
set_option maxHeartbeats 4000000 in
theorem bX11_name_0 {d mc ms : Nat} {X : XX} {v : VV} {Q : QQ} (hd : 3 ≤ d) (hW : SW X) (F : (((¬ (v 47 29) = 1) → Ex mX11_name d 28 [(2, 47)] [] X v mc ms Q) ∧ (((v 47 29) = 1) → ((((v 47 31) = (-1)) → Ex mX11_name d 28 [(2, 47)] [] X v mc ms Q) ∧ ((¬ (v 47 31) = (-1)) → ∃ P1 : Option AV → VV → Prop, Con mX11_fail 0 0 0 [(2, 47), (0, 1), (0, (v 47 31))] X v (fun o X1 v1 => X1 = X ∧ P1 o v1) ∧ ∀ (w3 : VV), P1 none w3 → Q none X w3))))) : Ex mX11_name d 0 [(2, 47)] [] X v mc ms Q := by
  refine x_aload_n dX11_name_0 rfl ?_
  refine x_geti (e := (v 47 29)) 0 flX11_197 dX11_name_1 (sW47 hW) (gW47 hW) rfl rfl (Nat.le_of_ble_eq_true rfl) (tagn2 rfl) ?_
  refine x_iconst dX11_name_4 rfl (i32_of rfl) ?_
  refine x_icmp_ne 28 dX11_name_5 rfl (fun hc => ?_) (fun hc => ?_)
  · have F := F.1 hc
    exact F
  · have F := F.2 hc
    refine x_aload_n dX11_name_8 rfl ?_
    refine x_geti (e := (v 47 31)) 0 flX11_191 dX11_name_9 (sW47 hW) (gW47 hW) rfl rfl (Nat.le_of_ble_eq_true rfl) (tagn2 rfl) ?_
    refine x_iconst dX11_name_12 rfl (i32_of rfl) ?_
    refine x_icmp_eq 28 dX11_name_13 rfl (fun hc => ?_) (fun hc => ?_)
    · have F := F.1 hc
      exact F
    · have F := F.2 hc
      refine x_aload_n dX11_name_16 rfl ?_
      refine x_iconst dX11_name_17 rfl (i32_of rfl) ?_
      refine x_aload_n dX11_name_18 rfl ?_
      refine x_geti (e := (v 47 31)) 0 flX11_191 dX11_name_19 (sW47 hW) (gW47 hW) rfl rfl (Nat.le_of_ble_eq_true rfl) (tagn2 rfl) ?_
      obtain ⟨P1, hC, F⟩ := F
      refine x_inv dX11_name_22 mlX11_216 hC (sW47 hW) (Nat.le_of_ble_eq_true rfl) (gW47 hW) rfl rfl (by omega) (Nat.zero_le _) (Nat.zero_le _) (Nat.le_of_ble_eq_true rfl) (fun o1 Y4 w3 ht hP => ?_)
      obtain rfl : o1 = none := ht
      obtain ⟨rfl, hP⟩ := hP
      have F := F w3 hP
      refine x_goto 51 dX11_name_25 rfl ?_
      exact x_ret none rfl ⟨dX11_name_51, rfl⟩ F

set_option maxRecDepth 100000 in
set_option maxHeartbeats 4000000 in
theorem bX11_name_28 {d mc ms : Nat} {X : XX} {v : VV} {Q : QQ} (hd : 3 ≤ d) (hW : SW X) (F : ∃ P5 : Option AV → VV → Prop, Con mX11_isName 0 0 0 [(2, 47)] X v (fun o X1 v1 => X1 = X ∧ P5 o v1) ∧ ∀ (r6 : Int) (w7 : VV), P5 (some (0, r6)) w7 → (((¬ r6 = 0) → ∃ P9 : Option AV → VV → Prop, Con mX11_keeps 2 0 0 [(2, 47)] X w7 (fun o X1 v1 => X1 = X ∧ P9 o v1) ∧ ∀ (w11 : VV), P9 none w11 → Q none X w11) ∧ ((r6 = 0) → ∃ P13 : Option AV → VV → Prop, Con mX11_fail 0 0 0 [(2, 47), (0, 1), (0, (w7 47 30))] X w7 (fun o X1 v1 => X1 = X ∧ P13 o v1) ∧ ∀ (w15 : VV), P13 none w15 → Q none X w15))) : Ex mX11_name d 28 [(2, 47)] [] X v mc ms Q := by
  refine x_aload_n dX11_name_28 rfl ?_
  obtain ⟨P5, hC, F⟩ := F
  refine x_inv dX11_name_29 mlX11_220 hC (sW47 hW) (Nat.le_of_ble_eq_true rfl) (gW47 hW) rfl rfl (by omega) (Nat.zero_le _) (Nat.zero_le _) (Nat.le_of_ble_eq_true rfl) (fun o1 Y8 w7 ht hP => ?_)
  obtain ⟨r6, rfl⟩ : ∃ i, o1 = some (0, i) := ht
  obtain ⟨rfl, hP⟩ := hP
  have F := F r6 w7 hP
  refine x_if_ne 47 dX11_name_32 rfl (fun hc => ?_) (fun hc => ?_)
  · have F := F.1 hc
    refine x_aload_n dX11_name_47 rfl ?_
    obtain ⟨P9, hC, F⟩ := F
    refine x_inv dX11_name_48 mlX11_213 hC (sW47 hW) (Nat.le_of_ble_eq_true rfl) (gW47 hW) rfl rfl (by omega) (Nat.zero_le _) (Nat.zero_le _) (Nat.le_of_ble_eq_true rfl) (fun o1 Y12 w11 ht hP => ?_)
    obtain rfl : o1 = none := ht
    obtain ⟨rfl, hP⟩ := hP
    have F := F w11 hP
    exact x_ret none rfl ⟨dX11_name_51, rfl⟩ F
  · have F := F.2 hc
    refine x_aload_n dX11_name_35 rfl ?_
    refine x_iconst dX11_name_36 rfl (i32_of rfl) ?_
    refine x_aload_n dX11_name_37 rfl ?_
    refine x_geti (e := (w7 47 30)) 0 flX11_188 dX11_name_38 (sW47 hW) (gW47 hW) rfl rfl (Nat.le_of_ble_eq_true rfl) (tagn2 rfl) ?_
    obtain ⟨P13, hC, F⟩ := F
    refine x_inv dX11_name_41 mlX11_216 hC (sW47 hW) (Nat.le_of_ble_eq_true rfl) (gW47 hW) rfl rfl (by omega) (Nat.zero_le _) (Nat.zero_le _) (Nat.le_of_ble_eq_true rfl) (fun o1 Y16 w15 ht hP => ?_)
    obtain rfl : o1 = none := ht
    obtain ⟨rfl, hP⟩ := hP
    have F := F w15 hP
    refine x_goto 51 dX11_name_44 rfl ?_
    exact x_ret none rfl ⟨dX11_name_51, rfl⟩ F

set_option maxRecDepth 100000 in
set_option maxHeartbeats 4000000 in
theorem bX11_formula_0 {d mc ms : Nat} {X : XX} {v : VV} {Q : QQ} (a1 : Int) (hd : 5 ≤ d) (hW : SW X) (F : i32 a1 → (i32 (v 47 0) → i32 (8 * (v 47 0))) ∧ (i32 (8 * (v 47 0)) → i32 ((8 * (v 47 0)) + a1)) ∧ (0 ≤ (v 47 0) ∧ (v 47 0) < 17) ∧ (0 ≤ ((8 * (v 47 0)) + a1) ∧ ((8 * (v 47 0)) + a1) < 136) ∧ Ex mX11_formula d 34 [(2, 47), (0, a1), (0, 0), (0, 1), (3, 0)] [] X (upd2 (upd2 v 65 ((8 * (v 47 0)) + a1) (v 60 (v 47 0))) 69 0 0) mc ms Q) : Ex mX11_formula d 0 [(2, 47), (0, a1), (3, 0), (3, 0), (3, 0)] [] X v mc ms Q := by
  refine x_li32 (i := 1) rfl (fun ha1 => ?_)
  have F := F ha1
  refine x_aload_n dX11_formula_0 rfl ?_
  refine x_getr (r' := 65) flX11_63 dX11_formula_1 (sW47 hW) (gW47 hW) (rW47_18 hW) rfl (Nat.le_of_ble_eq_true rfl) ?_
  refine x_bipush dX11_formula_4 kb_8 (i32_of rfl) ?_
  refine x_aload_n dX11_formula_6 rfl ?_
  refine x_geti (e := (v 47 0)) 0 flX11_159 dX11_formula_7 (sW47 hW) (gW47 hW) rfl rfl (Nat.le_of_ble_eq_true rfl) (tagn2 rfl) ?_
  refine x_si32 (i := 0) rfl (fun hk0 => ?_)
  obtain ⟨hz, F⟩ := F
  have hz := hz hk0
  refine x_imul dX11_formula_10 hz ?_
  refine x_iload_n dX11_formula_11 rfl ?_
  refine x_si32 (i := 1) rfl (fun hk1 => ?_)
  obtain ⟨hz, F⟩ := F
  have hz := hz hk1
  refine x_iadd dX11_formula_12 hz ?_
  refine x_aload_n dX11_formula_13 rfl ?_
  refine x_getr (r' := 60) flX11_48 dX11_formula_14 (sW47 hW) (gW47 hW) (rW47_13 hW) rfl (Nat.le_of_ble_eq_true rfl) ?_
  refine x_aload_n dX11_formula_17 rfl ?_
  refine x_geti (e := (v 47 0)) 0 flX11_159 dX11_formula_18 (sW47 hW) (gW47 hW) rfl rfl (Nat.le_of_ble_eq_true rfl) (tagn2 rfl) ?_
  obtain ⟨hi, F⟩ := F
  refine x_iald (e := (v 60 (v 47 0))) dX11_formula_21 (sW60 hW) (gW60 hW) hi rfl ?_
  obtain ⟨hi, F⟩ := F
  refine x_iast dX11_formula_22 (sW65 hW) (gW65 hW) hi ?_
  refine x_iconst dX11_formula_23 rfl (i32_of rfl) ?_
  refine x_istore_n [(2, 47), (0, a1), (0, 0), (3, 0), (3, 0)] dX11_formula_24 rfl (Nat.le_of_ble_eq_true rfl) ?_
  refine x_aload_n dX11_formula_25 rfl ?_
  refine x_getr (r' := 69) flX11_105 dX11_formula_26 (sW47 hW) (gW47 hW) (rW47_40 hW) rfl (Nat.le_of_ble_eq_true rfl) ?_
  refine x_iconst dX11_formula_29 rfl (i32_of rfl) ?_
  refine x_iconst dX11_formula_30 rfl (i32_of rfl) ?_
  refine x_iast dX11_formula_31 (sW69 hW) (gW69 hW) ⟨by decide, by decide⟩ ?_
  refine x_iconst dX11_formula_32 rfl (i32_of rfl) ?_
  refine x_istore_n [(2, 47), (0, a1), (0, 0), (0, 1), (3, 0)] dX11_formula_33 rfl (Nat.le_of_ble_eq_true rfl) ?_
  exact F

set_option maxRecDepth 100000 in
set_option maxHeartbeats 4000000 in
theorem bX11_formula_34 {d mc ms : Nat} {X : XX} {v : VV} {Q : QQ} (a1 : Int) (x2 : Int) (x3 : Int) (hd : 5 ≤ d) (hW : SW X) (F : i32 a1 → i32 x2 → i32 x3 → (((¬ (v 47 25) = 0) → Ex mX11_formula d 252 [(2, 47), (0, a1), (0, x2), (0, x3), (3, 0)] [] X v mc ms Q) ∧ (((v 47 25) = 0) → (((¬ x3 = 0) → Ex mX11_formula d 56 [(2, 47), (0, a1), (0, x2), (0, x3), (3, 0)] [] X v mc ms Q) ∧ ((x3 = 0) → (((0 < x2) → Ex mX11_formula d 56 [(2, 47), (0, a1), (0, x2), (0, x3), (3, 0)] [] X v mc ms Q) ∧ ((x2 ≤ 0) → ∃ P1 : Option AV → VV → Prop, Con mX11_isMore 0 0 0 [(2, 47)] X v (fun o X1 v1 => X1 = X ∧ P1 o v1) ∧ ∀ (r2 : Int) (w3 : VV), P1 (some (0, r2)) w3 → (((r2 = 0) → Ex mX11_formula d 252 [(2, 47), (0, a1), (0, x2), (0, x3), (3, 0)] [] X w3 mc ms Q) ∧ ((¬ r2 = 0) → Ex mX11_formula d 56 [(2, 47), (0, a1), (0, x2), (0, x3), (3, 0)] [] X w3 mc ms Q))))))))) : Ex mX11_formula d 34 [(2, 47), (0, a1), (0, x2), (0, x3), (3, 0)] [] X v mc ms Q := by
  refine x_li32 (i := 1) rfl (fun ha1 => ?_)
  have F := F ha1
  refine x_li32 (i := 2) rfl (fun hx2 => ?_)
  have F := F hx2
  refine x_li32 (i := 3) rfl (fun hx3 => ?_)
  have F := F hx3
  refine x_aload_n dX11_formula_34 rfl ?_
  refine x_geti (e := (v 47 25)) 0 flX11_169 dX11_formula_35 (sW47 hW) (gW47 hW) rfl rfl (Nat.le_of_ble_eq_true rfl) (tagn2 rfl) ?_
  refine x_if_ne 252 dX11_formula_38 rfl (fun hc => ?_) (fun hc => ?_)
  · have F := F.1 hc
    exact F
  · have F := F.2 hc
    refine x_iload_n dX11_formula_41 rfl ?_
    refine x_if_ne 56 dX11_formula_42 rfl (fun hc => ?_) (fun hc => ?_)
    · have F := F.1 hc
      exact F
    · have F := F.2 hc
      refine x_iload_n dX11_formula_45 rfl ?_
      refine x_if_gt 56 dX11_formula_46 rfl (fun hc => ?_) (fun hc => ?_)
      · have F := F.1 hc
        exact F
      · have F := F.2 hc
        refine x_aload_n dX11_formula_49 rfl ?_
        obtain ⟨P1, hC, F⟩ := F
        refine x_inv dX11_formula_50 mlX11_224 hC (sW47 hW) (Nat.le_of_ble_eq_true rfl) (gW47 hW) rfl rfl (by omega) (Nat.zero_le _) (Nat.zero_le _) (Nat.le_of_ble_eq_true rfl) (fun o1 Y4 w3 ht hP => ?_)
        obtain ⟨r2, rfl⟩ : ∃ i, o1 = some (0, i) := ht
        obtain ⟨rfl, hP⟩ := hP
        have F := F r2 w3 hP
        refine x_if_eq 252 dX11_formula_53 rfl (fun hc => ?_) (fun hc => ?_)
        · have F := F.1 hc
          exact F
        · have F := F.2 hc
          exact F

set_option maxRecDepth 100000 in
set_option maxHeartbeats 4000000 in
theorem bX11_formula_56 {d mc ms : Nat} {X : XX} {v : VV} {Q : QQ} (a1 : Int) (x2 : Int) (x3 : Int) (hd : 5 ≤ d) (hW : SW X) (F : i32 a1 → i32 x2 → i32 x3 → (((x3 = 0) → ∃ P5 : Option AV → VV → Prop, Con mX11_isMore 0 0 0 [(2, 47)] X v (fun o X1 v1 => X1 = X ∧ P5 o v1) ∧ ∀ (r6 : Int) (w7 : VV), P5 (some (0, r6)) w7 → (((r6 = 0) → ((((w7 47 29) = 41) → Ex mX11_formula d 235 [(2, 47), (0, a1), (0, x2), (0, x3), (3, 0)] [] X w7 mc ms Q) ∧ ((¬ (w7 47 29) = 41) → ∃ P9 : Option AV → VV → Prop, Con mX11_fail 0 0 0 [(2, 47), (0, 1), (0, (w7 47 30))] X w7 (fun o X1 v1 => X1 = X ∧ P9 o v1) ∧ ∀ (w11 : VV), P9 none w11 → Ex mX11_formula d 235 [(2, 47), (0, a1), (0, x2), (0, x3), (3, 0)] [] X w11 mc ms Q))) ∧ ((¬ r6 = 0) → (0 ≤ x2 ∧ x2 < 4) ∧ (i32 (w7 69 x2) → i32 ((w7 69 x2) + 1)) ∧ (0 ≤ x2 ∧ x2 < 4) ∧ (0 ≤ x2 ∧ x2 < 4) ∧ (((¬ ((w7 69 x2) + 1) = 6) → Ex mX11_formula d 201 [(2, 47), (0, a1), (0, x2), (0, x3), (3, 0)] [] X (upd2 w7 69 x2 ((w7 69 x2) + 1)) mc ms Q) ∧ ((((w7 69 x2) + 1) = 6) → ∃ P13 : Option AV → VV → Prop, Con mX11_fail 0 0 0 [(2, 47), (0, 1), (0, (w7 47 30))] X (upd2 w7 69 x2 ((w7 69 x2) + 1)) (fun o X1 v1 => X1 = X ∧ P13 o v1) ∧ ∀ (w15 : VV), P13 none w15 → Ex mX11_formula d 201 [(2, 47), (0, a1), (0, x2), (0, x3), (3, 0)] [] X w15 mc ms Q))))) ∧ ((¬ x3 = 0) → ∃ P17 : Option AV → VV → Prop, Con mX11_isWord 0 0 0 [(2, 47), (1, (v 47 38))] X v (fun o X1 v1 => X1 = X ∧ P17 o v1) ∧ ∀ (r18 : Int) (w19 : VV), P17 (some (0, r18)) w19 → (((¬ r18 = 0) → Ex mX11_formula d 82 [(2, 47), (0, a1), (0, x2), (0, x3), (3, 0)] [] X w19 mc ms Q) ∧ ((r18 = 0) → ∃ P21 : Option AV → VV → Prop, Con mX11_isWord 0 0 0 [(2, 47), (1, (w19 47 39))] X w19 (fun o X1 v1 => X1 = X ∧ P21 o v1) ∧ ∀ (r22 : Int) (w23 : VV), P21 (some (0, r22)) w23 → (((r22 = 0) → ∃ P25 : Option AV → VV → Prop, Con mX11_term 4 0 0 [(2, 47)] X w23 (fun o X1 v1 => X1 = X ∧ P25 o v1) ∧ ∀ (w27 : VV), P25 none w27 → Ex mX11_formula d 34 [(2, 47), (0, a1), (0, x2), (0, 0), (3, 0)] [] X w27 mc ms Q) ∧ ((¬ r22 = 0) → Ex mX11_formula d 82 [(2, 47), (0, a1), (0, x2), (0, x3), (3, 0)] [] X w23 mc ms Q))))))) : Ex mX11_formula d 56 [(2, 47), (0, a1), (0, x2), (0, x3), (3, 0)] [] X v mc ms Q := by
  refine x_li32 (i := 1) rfl (fun ha1 => ?_)
  have F := F ha1
  refine x_li32 (i := 2) rfl (fun hx2 => ?_)
  have F := F hx2
  refine x_li32 (i := 3) rfl (fun hx3 => ?_)
  have F := F hx3
  refine x_iload_n dX11_formula_56 rfl ?_
  refine x_if_eq 164 dX11_formula_57 rfl (fun hc => ?_) (fun hc => ?_)
  · have F := F.1 hc
    refine x_aload_n dX11_formula_164 rfl ?_
    obtain ⟨P5, hC, F⟩ := F
    refine x_inv dX11_formula_165 mlX11_224 hC (sW47 hW) (Nat.le_of_ble_eq_true rfl) (gW47 hW) rfl rfl (by omega) (Nat.zero_le _) (Nat.zero_le _) (Nat.le_of_ble_eq_true rfl) (fun o1 Y8 w7 ht hP => ?_)
    obtain ⟨r6, rfl⟩ : ∃ i, o1 = some (0, i) := ht
    obtain ⟨rfl, hP⟩ := hP
    have F := F r6 w7 hP
    refine x_if_eq 217 dX11_formula_168 rfl (fun hc => ?_) (fun hc => ?_)
    · have F := F.1 hc
      refine x_aload_n dX11_formula_217 rfl ?_
      refine x_geti (e := (w7 47 29)) 0 flX11_197 dX11_formula_218 (sW47 hW) (gW47 hW) rfl rfl (Nat.le_of_ble_eq_true rfl) (tagn2 rfl) ?_
      refine x_bipush dX11_formula_221 kb_41 (i32_of rfl) ?_
      refine x_icmp_eq 235 dX11_formula_223 rfl (fun hc => ?_) (fun hc => ?_)
      · have F := F.1 hc
        exact F
      · have F := F.2 hc
        refine x_aload_n dX11_formula_226 rfl ?_
        refine x_iconst dX11_formula_227 rfl (i32_of rfl) ?_
        refine x_aload_n dX11_formula_228 rfl ?_
        refine x_geti (e := (w7 47 30)) 0 flX11_188 dX11_formula_229 (sW47 hW) (gW47 hW) rfl rfl (Nat.le_of_ble_eq_true rfl) (tagn2 rfl) ?_
        obtain ⟨P9, hC, F⟩ := F
        refine x_inv dX11_formula_232 mlX11_216 hC (sW47 hW) (Nat.le_of_ble_eq_true rfl) (gW47 hW) rfl rfl (by omega) (Nat.zero_le _) (Nat.zero_le _) (Nat.le_of_ble_eq_true rfl) (fun o1 Y12 w11 ht hP => ?_)
        obtain rfl : o1 = none := ht
        obtain ⟨rfl, hP⟩ := hP
        have F := F w11 hP
        exact F
    · have F := F.2 hc
      refine x_aload_n dX11_formula_171 rfl ?_
      refine x_getr (r' := 69) flX11_105 dX11_formula_172 (sW47 hW) (gW47 hW) (rW47_40 hW) rfl (Nat.le_of_ble_eq_true rfl) ?_
      refine x_iload_n dX11_formula_175 rfl ?_
      refine x_dup2 dX11_formula_176 (tag1 rfl) (tag1 rfl) ?_
      obtain ⟨hi, F⟩ := F
      refine x_iald (e := (w7 69 x2)) dX11_formula_177 (sW69 hW) (gW69 hW) hi rfl ?_
      refine x_iconst dX11_formula_178 rfl (i32_of rfl) ?_
      refine x_si32 (i := 1) rfl (fun hk1 => ?_)
      obtain ⟨hz, F⟩ := F
      have hz := hz hk1
      refine x_iadd dX11_formula_179 hz ?_
      obtain ⟨hi, F⟩ := F
      refine x_iast dX11_formula_180 (sW69 hW) (gW69 hW) hi ?_
      refine x_aload_n dX11_formula_181 rfl ?_
      refine x_getr (r' := 69) flX11_105 dX11_formula_182 (sW47 hW) (gW47 hW) (rW47_40 hW) rfl (Nat.le_of_ble_eq_true rfl) ?_
      refine x_iload_n dX11_formula_185 rfl ?_
      obtain ⟨hi, F⟩ := F
      refine x_iald (e := ((w7 69 x2) + 1)) dX11_formula_186 (sW69 hW) (gW69 hW) hi (by simp [upd2]) ?_
      refine x_bipush dX11_formula_187 kb_6 (i32_of rfl) ?_
      refine x_icmp_ne 201 dX11_formula_189 rfl (fun hc => ?_) (fun hc => ?_)
      · have F := F.1 hc
        exact F
      · have F := F.2 hc
        refine x_aload_n dX11_formula_192 rfl ?_
        refine x_iconst dX11_formula_193 rfl (i32_of rfl) ?_
        refine x_aload_n dX11_formula_194 rfl ?_
        refine x_geti (e := (w7 47 30)) 0 flX11_188 dX11_formula_195 (sW47 hW) (gW47 hW) rfl rfl (Nat.le_of_ble_eq_true rfl) (tagn2 rfl) ?_
        obtain ⟨P13, hC, F⟩ := F
        refine x_inv dX11_formula_198 mlX11_216 hC (sW47 hW) (Nat.le_of_ble_eq_true rfl) (gW47 hW) rfl rfl (by omega) (Nat.zero_le _) (Nat.zero_le _) (Nat.le_of_ble_eq_true rfl) (fun o1 Y16 w15 ht hP => ?_)
        obtain rfl : o1 = none := ht
        obtain ⟨rfl, hP⟩ := hP
        have F := F w15 hP
        exact F
  · have F := F.2 hc
    refine x_aload_n dX11_formula_60 rfl ?_
    refine x_aload_n dX11_formula_61 rfl ?_
    refine x_geti (e := (v 47 38)) 1 flX11_99 dX11_formula_62 (sW47 hW) (gW47 hW) rfl rfl (Nat.le_of_ble_eq_true rfl) (tagn2 rfl) ?_
    obtain ⟨P17, hC, F⟩ := F
    refine x_inv dX11_formula_65 mlX11_227 hC (sW47 hW) (Nat.le_of_ble_eq_true rfl) (gW47 hW) rfl rfl (by omega) (Nat.zero_le _) (Nat.zero_le _) (Nat.le_of_ble_eq_true rfl) (fun o1 Y20 w19 ht hP => ?_)
    obtain ⟨r18, rfl⟩ : ∃ i, o1 = some (0, i) := ht
    obtain ⟨rfl, hP⟩ := hP
    have F := F r18 w19 hP
    refine x_if_ne 82 dX11_formula_68 rfl (fun hc => ?_) (fun hc => ?_)
    · have F := F.1 hc
      exact F
    · have F := F.2 hc
      refine x_aload_n dX11_formula_71 rfl ?_
      refine x_aload_n dX11_formula_72 rfl ?_
      refine x_geti (e := (w19 47 39)) 1 flX11_102 dX11_formula_73 (sW47 hW) (gW47 hW) rfl rfl (Nat.le_of_ble_eq_true rfl) (tagn2 rfl) ?_
      obtain ⟨P21, hC, F⟩ := F
      refine x_inv dX11_formula_76 mlX11_227 hC (sW47 hW) (Nat.le_of_ble_eq_true rfl) (gW47 hW) rfl rfl (by omega) (Nat.zero_le _) (Nat.zero_le _) (Nat.le_of_ble_eq_true rfl) (fun o1 Y24 w23 ht hP => ?_)
      obtain ⟨r22, rfl⟩ : ∃ i, o1 = some (0, i) := ht
      obtain ⟨rfl, hP⟩ := hP
      have F := F r22 w23 hP
      refine x_if_eq 86 dX11_formula_79 rfl (fun hc => ?_) (fun hc => ?_)
      · have F := F.1 hc
        refine x_iconst dX11_formula_86 rfl (i32_of rfl) ?_
        refine x_istore [(2, 47), (0, a1), (0, x2), (0, x3), (0, 0)] dX11_formula_87 rfl (Nat.le_of_ble_eq_true rfl) ?_
        refine x_iload dX11_formula_89 rfl ?_
        refine x_if_eq 155 dX11_formula_91 rfl (fun _ => ?_) (fun hc => absurd hc (by decide))
        refine x_aload_n dX11_formula_155 rfl ?_
        obtain ⟨P25, hC, F⟩ := F
        refine x_inv dX11_formula_156 mlX11_235 hC (sW47 hW) (Nat.le_of_ble_eq_true rfl) (gW47 hW) rfl rfl (by omega) (Nat.zero_le _) (Nat.zero_le _) (Nat.le_of_ble_eq_true rfl) (fun o1 Y28 w27 ht hP => ?_)
        obtain rfl : o1 = none := ht
        obtain ⟨rfl, hP⟩ := hP
        have F := F w27 hP
        refine x_iconst dX11_formula_159 rfl (i32_of rfl) ?_
        refine x_istore_n [(2, 47), (0, a1), (0, x2), (0, 0), (0, 0)] dX11_formula_160 rfl (Nat.le_of_ble_eq_true rfl) ?_
        refine x_goto 34 dX11_formula_161 rfl ?_
        exact x_less [(2, 47), (0, a1), (0, x2), (0, 0), (3, 0)] ⟨Or.inr rfl, ⟨Or.inr rfl, ⟨Or.inr rfl, ⟨Or.inr rfl, ⟨Or.inl rfl, trivial⟩⟩⟩⟩⟩ F
      · have F := F.2 hc
        exact F

set_option maxRecDepth 100000 in
set_option maxHeartbeats 4000000 in
theorem bX11_formula_82 {d mc ms : Nat} {X : XX} {v : VV} {Q : QQ} (a1 : Int) (x2 : Int) (x3 : Int) (hd : 5 ≤ d) (hW : SW X) (F : i32 a1 → i32 x2 → i32 x3 → ∃ P29 : Option AV → VV → Prop, Con mX11_keeps 2 0 0 [(2, 47)] X v (fun o X1 v1 => X1 = X ∧ P29 o v1) ∧ ∀ (w31 : VV), P29 none w31 → (((¬ (w31 47 29) = 40) → Ex mX11_formula d 121 [(2, 47), (0, a1), (0, x2), (0, x3), (0, 1)] [] X w31 mc ms Q) ∧ (((w31 47 29) = 40) → (((¬ x2 = 3) → Ex mX11_formula d 121 [(2, 47), (0, a1), (0, x2), (0, x3), (0, 1)] [] X w31 mc ms Q) ∧ ((x2 = 3) → ∃ P33 : Option AV → VV → Prop, Con mX11_fail 0 0 0 [(2, 47), (0, 1), (0, (w31 47 30))] X w31 (fun o X1 v1 => X1 = X ∧ P33 o v1) ∧ ∀ (w35 : VV), P33 none w35 → Ex mX11_formula d 121 [(2, 47), (0, a1), (0, x2), (0, x3), (0, 1)] [] X w35 mc ms Q))))) : Ex mX11_formula d 82 [(2, 47), (0, a1), (0, x2), (0, x3), (3, 0)] [] X v mc ms Q := by
  refine x_li32 (i := 1) rfl (fun ha1 => ?_)
  have F := F ha1
  refine x_li32 (i := 2) rfl (fun hx2 => ?_)
  have F := F hx2
  refine x_li32 (i := 3) rfl (fun hx3 => ?_)
  have F := F hx3
  refine x_iconst dX11_formula_82 rfl (i32_of rfl) ?_
  refine x_goto 87 dX11_formula_83 rfl ?_
  refine x_istore [(2, 47), (0, a1), (0, x2), (0, x3), (0, 1)] dX11_formula_87 rfl (Nat.le_of_ble_eq_true rfl) ?_
  refine x_iload dX11_formula_89 rfl ?_
  refine x_if_eq 155 dX11_formula_91 rfl (fun hc => absurd hc (by decide)) (fun _ => ?_)
  refine x_aload_n dX11_formula_94 rfl ?_
  obtain ⟨P29, hC, F⟩ := F
  refine x_inv dX11_formula_95 mlX11_213 hC (sW47 hW) (Nat.le_of_ble_eq_true rfl) (gW47 hW) rfl rfl (by omega) (Nat.zero_le _) (Nat.zero_le _) (Nat.le_of_ble_eq_true rfl) (fun o1 Y32 w31 ht hP => ?_)
  obtain rfl : o1 = none := ht
  obtain ⟨rfl, hP⟩ := hP
  have F := F w31 hP
  refine x_aload_n dX11_formula_98 rfl ?_
  refine x_geti (e := (w31 47 29)) 0 flX11_197 dX11_formula_99 (sW47 hW) (gW47 hW) rfl rfl (Nat.le_of_ble_eq_true rfl) (tagn2 rfl) ?_
  refine x_bipush dX11_formula_102 kb_40 (i32_of rfl) ?_
  refine x_icmp_ne 121 dX11_formula_104 rfl (fun hc => ?_) (fun hc => ?_)
  · have F := F.1 hc
    exact F
  · have F := F.2 hc
    refine x_iload_n dX11_formula_107 rfl ?_
    refine x_iconst dX11_formula_108 rfl (i32_of rfl) ?_
    refine x_icmp_ne 121 dX11_formula_109 rfl (fun hc => ?_) (fun hc => ?_)
    · have F := F.1 hc
      exact F
    · have F := F.2 hc
      refine x_aload_n dX11_formula_112 rfl ?_
      refine x_iconst dX11_formula_113 rfl (i32_of rfl) ?_
      refine x_aload_n dX11_formula_114 rfl ?_
      refine x_geti (e := (w31 47 30)) 0 flX11_188 dX11_formula_115 (sW47 hW) (gW47 hW) rfl rfl (Nat.le_of_ble_eq_true rfl) (tagn2 rfl) ?_
      obtain ⟨P33, hC, F⟩ := F
      refine x_inv dX11_formula_118 mlX11_216 hC (sW47 hW) (Nat.le_of_ble_eq_true rfl) (gW47 hW) rfl rfl (by omega) (Nat.zero_le _) (Nat.zero_le _) (Nat.le_of_ble_eq_true rfl) (fun o1 Y36 w35 ht hP => ?_)
      obtain rfl : o1 = none := ht
      obtain ⟨rfl, hP⟩ := hP
      have F := F w35 hP
      exact F

set_option maxRecDepth 100000 in
set_option maxHeartbeats 4000000 in
theorem bX11_formula_121 {d mc ms : Nat} {X : XX} {v : VV} {Q : QQ} (a1 : Int) (x2 : Int) (x3 : Int) (x4 : Int) (hd : 5 ≤ d) (hW : SW X) (F : i32 a1 → i32 x2 → i32 x3 → i32 x4 → (((¬ (v 47 25) = 0) → Ex mX11_formula d 134 [(2, 47), (0, a1), (0, x2), (0, x3), (0, x4)] [] X v mc ms Q) ∧ (((v 47 25) = 0) → ∃ P37 : Option AV → VV → Prop, Con mX11_sign 3 0 0 [(2, 47), (0, 40)] X v (fun o X1 v1 => X1 = X ∧ P37 o v1) ∧ ∀ (w39 : VV), P37 none w39 → Ex mX11_formula d 134 [(2, 47), (0, a1), (0, x2), (0, x3), (0, x4)] [] X w39 mc ms Q))) : Ex mX11_formula d 121 [(2, 47), (0, a1), (0, x2), (0, x3), (0, x4)] [] X v mc ms Q := by
  refine x_li32 (i := 1) rfl (fun ha1 => ?_)
  have F := F ha1
  refine x_li32 (i := 2) rfl (fun hx2 => ?_)
  have F := F hx2
  refine x_li32 (i := 3) rfl (fun hx3 => ?_)
  have F := F hx3
  refine x_li32 (i := 4) rfl (fun hx4 => ?_)
  have F := F hx4
  refine x_aload_n dX11_formula_121 rfl ?_
  refine x_geti (e := (v 47 25)) 0 flX11_169 dX11_formula_122 (sW47 hW) (gW47 hW) rfl rfl (Nat.le_of_ble_eq_true rfl) (tagn2 rfl) ?_
  refine x_if_ne 134 dX11_formula_125 rfl (fun hc => ?_) (fun hc => ?_)
  · have F := F.1 hc
    exact F
  · have F := F.2 hc
    refine x_aload_n dX11_formula_128 rfl ?_
    refine x_bipush dX11_formula_129 kb_40 (i32_of rfl) ?_
    obtain ⟨P37, hC, F⟩ := F
    refine x_inv dX11_formula_131 mlX11_231 hC (sW47 hW) (Nat.le_of_ble_eq_true rfl) (gW47 hW) rfl rfl (by omega) (Nat.zero_le _) (Nat.zero_le _) (Nat.le_of_ble_eq_true rfl) (fun o1 Y40 w39 ht hP => ?_)
    obtain rfl : o1 = none := ht
    obtain ⟨rfl, hP⟩ := hP
    have F := F w39 hP
    exact F

set_option maxRecDepth 100000 in
set_option maxHeartbeats 4000000 in
theorem bX11_formula_134 {d mc ms : Nat} {X : XX} {v : VV} {Q : QQ} (a1 : Int) (x2 : Int) (x3 : Int) (x4 : Int) (hd : 5 ≤ d) (hW : SW X) (F : i32 a1 → i32 x2 → i32 x3 → i32 x4 → ((((v 47 25) = 0) → i32 (x2 + 1) ∧ (0 ≤ (x2 + 1) ∧ (x2 + 1) < 4) ∧ Ex mX11_formula d 34 [(2, 47), (0, a1), (0, (x2 + 1)), (0, x3), (3, 0)] [] X (upd2 v 69 (x2 + 1) 0) mc ms Q) ∧ ((¬ (v 47 25) = 0) → Q none X v))) : Ex mX11_formula d 134 [(2, 47), (0, a1), (0, x2), (0, x3), (0, x4)] [] X v mc ms Q := by
  refine x_li32 (i := 1) rfl (fun ha1 => ?_)
  have F := F ha1
  refine x_li32 (i := 2) rfl (fun hx2 => ?_)
  have F := F hx2
  refine x_li32 (i := 3) rfl (fun hx3 => ?_)
  have F := F hx3
  refine x_li32 (i := 4) rfl (fun hx4 => ?_)
  have F := F hx4
  refine x_aload_n dX11_formula_134 rfl ?_
  refine x_geti (e := (v 47 25)) 0 flX11_169 dX11_formula_135 (sW47 hW) (gW47 hW) rfl rfl (Nat.le_of_ble_eq_true rfl) (tagn2 rfl) ?_
  refine x_if_eq 142 dX11_formula_138 rfl (fun hc => ?_) (fun hc => ?_)
  · have F := F.1 hc
    obtain ⟨hz, F⟩ := F
    refine x_iinc [(2, 47), (0, a1), (0, (x2 + 1)), (0, x3), (0, x4)] dX11_formula_142 rfl rfl (Nat.le_of_ble_eq_true rfl) hz ?_
    refine x_aload_n dX11_formula_145 rfl ?_
    refine x_getr (r' := 69) flX11_105 dX11_formula_146 (sW47 hW) (gW47 hW) (rW47_40 hW) rfl (Nat.le_of_ble_eq_true rfl) ?_
    refine x_iload_n dX11_formula_149 rfl ?_
    refine x_iconst dX11_formula_150 rfl (i32_of rfl) ?_
    obtain ⟨hi, F⟩ := F
    refine x_iast dX11_formula_151 (sW69 hW) (gW69 hW) hi ?_
    refine x_goto 34 dX11_formula_152 rfl ?_
    exact x_less [(2, 47), (0, a1), (0, (x2 + 1)), (0, x3), (3, 0)] ⟨Or.inr rfl, ⟨Or.inr rfl, ⟨Or.inr rfl, ⟨Or.inr rfl, ⟨Or.inl rfl, trivial⟩⟩⟩⟩⟩ F
  · have F := F.2 hc
    exact x_ret none rfl ⟨dX11_formula_141, rfl⟩ F

set_option maxRecDepth 100000 in
set_option maxHeartbeats 4000000 in
theorem bX11_formula_201 {d mc ms : Nat} {X : XX} {v : VV} {Q : QQ} (a1 : Int) (x2 : Int) (x3 : Int) (hd : 5 ≤ d) (hW : SW X) (F : i32 a1 → i32 x2 → i32 x3 → (((¬ (v 47 25) = 0) → Ex mX11_formula d 34 [(2, 47), (0, a1), (0, x2), (0, 1), (3, 0)] [] X v mc ms Q) ∧ (((v 47 25) = 0) → ∃ P41 : Option AV → VV → Prop, Con mX11_keeps 2 0 0 [(2, 47)] X v (fun o X1 v1 => X1 = X ∧ P41 o v1) ∧ ∀ (w43 : VV), P41 none w43 → Ex mX11_formula d 34 [(2, 47), (0, a1), (0, x2), (0, 1), (3, 0)] [] X w43 mc ms Q))) : Ex mX11_formula d 201 [(2, 47), (0, a1), (0, x2), (0, x3), (3, 0)] [] X v mc ms Q := by
  refine x_li32 (i := 1) rfl (fun ha1 => ?_)
  have F := F ha1
  refine x_li32 (i := 2) rfl (fun hx2 => ?_)
  have F := F hx2
  refine x_li32 (i := 3) rfl (fun hx3 => ?_)
  have F := F hx3
  refine x_aload_n dX11_formula_201 rfl ?_
  refine x_geti (e := (v 47 25)) 0 flX11_169 dX11_formula_202 (sW47 hW) (gW47 hW) rfl rfl (Nat.le_of_ble_eq_true rfl) (tagn2 rfl) ?_
  refine x_if_ne 212 dX11_formula_205 rfl (fun hc => ?_) (fun hc => ?_)
  · have F := F.1 hc
    refine x_iconst dX11_formula_212 rfl (i32_of rfl) ?_
    refine x_istore_n [(2, 47), (0, a1), (0, x2), (0, 1), (3, 0)] dX11_formula_213 rfl (Nat.le_of_ble_eq_true rfl) ?_
    refine x_goto 34 dX11_formula_214 rfl ?_
    exact F
  · have F := F.2 hc
    refine x_aload_n dX11_formula_208 rfl ?_
    obtain ⟨P41, hC, F⟩ := F
    refine x_inv dX11_formula_209 mlX11_213 hC (sW47 hW) (Nat.le_of_ble_eq_true rfl) (gW47 hW) rfl rfl (by omega) (Nat.zero_le _) (Nat.zero_le _) (Nat.le_of_ble_eq_true rfl) (fun o1 Y44 w43 ht hP => ?_)
    obtain rfl : o1 = none := ht
    obtain ⟨rfl, hP⟩ := hP
    have F := F w43 hP
    refine x_iconst dX11_formula_212 rfl (i32_of rfl) ?_
    refine x_istore_n [(2, 47), (0, a1), (0, x2), (0, 1), (3, 0)] dX11_formula_213 rfl (Nat.le_of_ble_eq_true rfl) ?_
    refine x_goto 34 dX11_formula_214 rfl ?_
    exact F

set_option maxRecDepth 100000 in
set_option maxHeartbeats 4000000 in
theorem bX11_formula_235 {d mc ms : Nat} {X : XX} {v : VV} {Q : QQ} (a1 : Int) (x2 : Int) (x3 : Int) (hd : 5 ≤ d) (hW : SW X) (F : i32 a1 → i32 x2 → i32 x3 → (((¬ (v 47 25) = 0) → i32 (x2 + (-1)) ∧ Ex mX11_formula d 34 [(2, 47), (0, a1), (0, (x2 + (-1))), (0, x3), (3, 0)] [] X v mc ms Q) ∧ (((v 47 25) = 0) → ∃ P45 : Option AV → VV → Prop, Con mX11_keeps 2 0 0 [(2, 47)] X v (fun o X1 v1 => X1 = X ∧ P45 o v1) ∧ ∀ (w47 : VV), P45 none w47 → i32 (x2 + (-1)) ∧ Ex mX11_formula d 34 [(2, 47), (0, a1), (0, (x2 + (-1))), (0, x3), (3, 0)] [] X w47 mc ms Q))) : Ex mX11_formula d 235 [(2, 47), (0, a1), (0, x2), (0, x3), (3, 0)] [] X v mc ms Q := by
  refine x_li32 (i := 1) rfl (fun ha1 => ?_)
  have F := F ha1
  refine x_li32 (i := 2) rfl (fun hx2 => ?_)
  have F := F hx2
  refine x_li32 (i := 3) rfl (fun hx3 => ?_)
  have F := F hx3
  refine x_aload_n dX11_formula_235 rfl ?_
  refine x_geti (e := (v 47 25)) 0 flX11_169 dX11_formula_236 (sW47 hW) (gW47 hW) rfl rfl (Nat.le_of_ble_eq_true rfl) (tagn2 rfl) ?_
  refine x_if_ne 246 dX11_formula_239 rfl (fun hc => ?_) (fun hc => ?_)
  · have F := F.1 hc
    obtain ⟨hz, F⟩ := F
    refine x_iinc [(2, 47), (0, a1), (0, (x2 + (-1))), (0, x3), (3, 0)] dX11_formula_246 rfl rfl (Nat.le_of_ble_eq_true rfl) hz ?_
    refine x_goto 34 dX11_formula_249 rfl ?_
    exact F
  · have F := F.2 hc
    refine x_aload_n dX11_formula_242 rfl ?_
    obtain ⟨P45, hC, F⟩ := F
    refine x_inv dX11_formula_243 mlX11_213 hC (sW47 hW) (Nat.le_of_ble_eq_true rfl) (gW47 hW) rfl rfl (by omega) (Nat.zero_le _) (Nat.zero_le _) (Nat.le_of_ble_eq_true rfl) (fun o1 Y48 w47 ht hP => ?_)
    obtain rfl : o1 = none := ht
    obtain ⟨rfl, hP⟩ := hP
    have F := F w47 hP
    obtain ⟨hz, F⟩ := F
    refine x_iinc [(2, 47), (0, a1), (0, (x2 + (-1))), (0, x3), (3, 0)] dX11_formula_246 rfl rfl (Nat.le_of_ble_eq_true rfl) hz ?_
    refine x_goto 34 dX11_formula_249 rfl ?_
    exact F

set_option maxRecDepth 100000 in
set_option maxHeartbeats 4000000 in
theorem bX11_formula_252 {d mc ms : Nat} {X : XX} {v : VV} {Q : QQ} (a1 : Int) (x2 : Int) (x3 : Int) (hd : 5 ≤ d) (hW : SW X) (F : i32 a1 → i32 x2 → i32 x3 → (i32 (v 47 0) → i32 (8 * (v 47 0))) ∧ (i32 (8 * (v 47 0)) → i32 ((8 * (v 47 0)) + a1)) ∧ (0 ≤ (v 47 0) ∧ (v 47 0) < 17) ∧ (0 ≤ ((8 * (v 47 0)) + a1) ∧ ((8 * (v 47 0)) + a1) < 136) ∧ Q none X (upd2 v 66 ((8 * (v 47 0)) + a1) (v 60 (v 47 0)))) : Ex mX11_formula d 252 [(2, 47), (0, a1), (0, x2), (0, x3), (3, 0)] [] X v mc ms Q := by
  refine x_li32 (i := 1) rfl (fun ha1 => ?_)
  have F := F ha1
  refine x_li32 (i := 2) rfl (fun hx2 => ?_)
  have F := F hx2
  refine x_li32 (i := 3) rfl (fun hx3 => ?_)
  have F := F hx3
  refine x_aload_n dX11_formula_252 rfl ?_
  refine x_getr (r' := 66) flX11_66 dX11_formula_253 (sW47 hW) (gW47 hW) (rW47_19 hW) rfl (Nat.le_of_ble_eq_true rfl) ?_
  refine x_bipush dX11_formula_256 kb_8 (i32_of rfl) ?_
  refine x_aload_n dX11_formula_258 rfl ?_
  refine x_geti (e := (v 47 0)) 0 flX11_159 dX11_formula_259 (sW47 hW) (gW47 hW) rfl rfl (Nat.le_of_ble_eq_true rfl) (tagn2 rfl) ?_
  refine x_si32 (i := 0) rfl (fun hk0 => ?_)
  obtain ⟨hz, F⟩ := F
  have hz := hz hk0
  refine x_imul dX11_formula_262 hz ?_
  refine x_iload_n dX11_formula_263 rfl ?_
  refine x_si32 (i := 1) rfl (fun hk1 => ?_)
  obtain ⟨hz, F⟩ := F
  have hz := hz hk1
  refine x_iadd dX11_formula_264 hz ?_
  refine x_aload_n dX11_formula_265 rfl ?_
  refine x_getr (r' := 60) flX11_48 dX11_formula_266 (sW47 hW) (gW47 hW) (rW47_13 hW) rfl (Nat.le_of_ble_eq_true rfl) ?_
  refine x_aload_n dX11_formula_269 rfl ?_
  refine x_geti (e := (v 47 0)) 0 flX11_159 dX11_formula_270 (sW47 hW) (gW47 hW) rfl rfl (Nat.le_of_ble_eq_true rfl) (tagn2 rfl) ?_
  obtain ⟨hi, F⟩ := F
  refine x_iald (e := (v 60 (v 47 0))) dX11_formula_273 (sW60 hW) (gW60 hW) hi rfl ?_
  obtain ⟨hi, F⟩ := F
  refine x_iast dX11_formula_274 (sW66 hW) (gW66 hW) hi ?_
  exact x_ret none rfl ⟨dX11_formula_275, rfl⟩ F
