set_option maxRecDepth 100000 in
set_option maxHeartbeats 4000000 in
theorem bX10_asked_0 {d mc ms : Nat} {X : XX} {v : VV} {Q : QQ} (a1 : Int) (a2 : Int) (hd : 4 ≤ d) (hW : SW X) (F : i32 a1 → i32 a2 → ∃ P1 : Option AV → VV → Prop, Con mX10_hasColumn 1 0 0 [(2, 0), (0, a1), (0, a2)] X v (fun o X1 v1 => X1 = X ∧ P1 o v1) ∧ ∀ (r2 : Int) (w3 : VV), P1 (some (0, r2)) w3 → (((¬ r2 = 0) → ∃ P5 : Option AV → VV → Prop, Con mX10_markTouched 3 0 0 [(2, 0), (0, a1), (0, a2)] X w3 (fun o X1 v1 => X1 = X ∧ P5 o v1) ∧ ∀ (w7 : VV), P5 none w7 → ∃ P9 : Option AV → VV → Prop, Con mX6_cutTo 0 0 0 [(2, 43), (0, 0)] X w7 (fun o X1 v1 => X1 = X ∧ P9 o v1) ∧ ∀ (w11 : VV), P9 none w11 → Ex mX10_asked d 27 [(2, 0), (0, a1), (0, a2), (0, 0), (3, 0)] [] X w11 mc ms Q) ∧ ((r2 = 0) → Q (some (0, (-1))) X w3))) : Ex mX10_asked d 0 [(2, 0), (0, a1), (0, a2), (3, 0), (3, 0)] [] X v mc ms Q := by
  refine x_li32 (i := 1) rfl (fun ha1 => ?_)
  have F := F ha1
  refine x_li32 (i := 2) rfl (fun ha2 => ?_)
  have F := F ha2
  refine x_aload_n dX10_asked_0 rfl ?_
  refine x_iload_n dX10_asked_1 rfl ?_
  refine x_iload_n dX10_asked_2 rfl ?_
  obtain ⟨P1, hC, F⟩ := F
  refine x_inv dY40_asked_3 mlY40_172 hC (sW0 hW) (Nat.le_of_ble_eq_true rfl) (gW0 hW) rfl rfl (by omega) (Nat.zero_le _) (Nat.zero_le _) (Nat.le_of_ble_eq_true rfl) (fun o1 Y4 w3 ht hP => ?_)
  obtain ⟨r2, rfl⟩ : ∃ i, o1 = some (0, i) := ht
  obtain ⟨rfl, hP⟩ := hP
  have F := F r2 w3 hP
  refine x_if_ne 11 dX10_asked_6 rfl (fun hc => ?_) (fun hc => ?_)
  · have F := F.1 hc
    refine x_aload_n dX10_asked_11 rfl ?_
    refine x_iload_n dX10_asked_12 rfl ?_
    refine x_iload_n dX10_asked_13 rfl ?_
    obtain ⟨P5, hC, F⟩ := F
    refine x_inv dY80_asked_14 mlY80_196 hC (sW0 hW) (Nat.le_of_ble_eq_true rfl) (gW0 hW) rfl rfl (by omega) (Nat.zero_le _) (Nat.zero_le _) (Nat.le_of_ble_eq_true rfl) (fun o1 Y8 w7 ht hP => ?_)
    obtain rfl : o1 = none := ht
    obtain ⟨rfl, hP⟩ := hP
    have F := F w7 hP
    refine x_aload_n dX10_asked_17 rfl ?_
    refine x_getr (r' := 43) flX10_65 dX10_asked_18 (sW0 hW) (gW0 hW) (rW0_9 hW) rfl (Nat.le_of_ble_eq_true rfl) ?_
    refine x_iconst dX10_asked_21 rfl (i32_of rfl) ?_
    obtain ⟨P9, hC, F⟩ := F
    refine x_inv dY120_asked_22 mlY120_82 hC (sW43 hW) (Nat.le_of_ble_eq_true rfl) (gW43 hW) rfl rfl (by omega) (Nat.zero_le _) (Nat.zero_le _) (Nat.le_of_ble_eq_true rfl) (fun o1 Y12 w11 ht hP => ?_)
    obtain rfl : o1 = none := ht
    obtain ⟨rfl, hP⟩ := hP
    have F := F w11 hP
    refine x_iconst dX10_asked_25 rfl (i32_of rfl) ?_
    refine x_istore_n [(2, 0), (0, a1), (0, a2), (0, 0), (3, 0)] dX10_asked_26 rfl (Nat.le_of_ble_eq_true rfl) ?_
    exact F
  · have F := F.2 hc
    refine x_iconst dX10_asked_9 rfl (i32_of rfl) ?_
    exact x_ret (some (0, (-1))) rfl ⟨dX10_asked_10, Or.inl rfl⟩ F

set_option maxRecDepth 100000 in
set_option maxHeartbeats 4000000 in
theorem bX10_asked_27 {d mc ms : Nat} {X : XX} {v : VV} {Q : QQ} (a1 : Int) (a2 : Int) (x3 : Int) (hd : 4 ≤ d) (hW : SW X) (F : i32 a1 → i32 a2 → i32 x3 → (((40 ≤ x3) → ∃ P13 : Option AV → VV → Prop, Con mX6_size 0 0 0 [(2, 43)] X v (fun o X1 v1 => X1 = X ∧ P13 o v1) ∧ ∀ (r14 : Int) (w15 : VV), P13 (some (0, r14)) w15 → Q (some (0, r14)) X w15) ∧ ((x3 < 40) → (0 ≤ x3 ∧ x3 < 40) ∧ ((((X.2 40 x3) = -1) → i32 (x3 + 1) ∧ Ex mX10_asked d 27 [(2, 0), (0, a1), (0, a2), (0, (x3 + 1)), (3, 0)] [] X v mc ms Q) ∧ ((¬ (X.2 40 x3) = -1) → X.1.2 (X.2 40 x3) = (0, 0) ∧ (0 ≤ (X.2 40 x3) ∧ (X.2 40 x3) < X.1.1) ∧ ∃ P18 : Option AV → VV → Prop, Con mX2_bitsOf 0 0 0 [(2, 41), (0, (v (X.2 40 x3) 0))] X v (fun o X1 v1 => X1 = X ∧ P18 o v1) ∧ ∀ (r19 : Int) (w20 : VV), P18 (some (0, r19)) w20 → ∀ z22 : Int, Int32.ofInt r19 &&& Int32.ofInt (w20 (X.2 40 x3) 1) = Int32.ofInt z22 → i32 z22 → (((z22 = 0) → i32 (x3 + 1) ∧ Ex mX10_asked d 27 [(2, 0), (0, a1), (0, a2), (0, (x3 + 1)), (3, 0)] [] X w20 mc ms Q) ∧ ((¬ z22 = 0) → ∃ P23 : Option AV → VV → Prop, Con mX6_add 0 0 0 [(2, 43), (0, x3)] X w20 (fun o X1 v1 => X1 = X ∧ P23 o v1) ∧ ∀ (w25 : VV), P23 none w25 → i32 (x3 + 1) ∧ Ex mX10_asked d 27 [(2, 0), (0, a1), (0, a2), (0, (x3 + 1)), (3, 0)] [] X w25 mc ms Q))))))) : Ex mX10_asked d 27 [(2, 0), (0, a1), (0, a2), (0, x3), (3, 0)] [] X v mc ms Q := by
  refine x_li32 (i := 1) rfl (fun ha1 => ?_)
  have F := F ha1
  refine x_li32 (i := 2) rfl (fun ha2 => ?_)
  have F := F ha2
  refine x_li32 (i := 3) rfl (fun hx3 => ?_)
  have F := F hx3
  refine x_iload_n dX10_asked_27 rfl ?_
  refine x_bipush dX10_asked_28 kb_40 (i32_of rfl) ?_
  refine x_icmp_ge 81 dX10_asked_30 rfl (fun hc => ?_) (fun hc => ?_)
  · have F := F.1 hc
    refine x_aload_n dX10_asked_81 rfl ?_
    refine x_getr (r' := 43) flX10_65 dX10_asked_82 (sW0 hW) (gW0 hW) (rW0_9 hW) rfl (Nat.le_of_ble_eq_true rfl) ?_
    obtain ⟨P13, hC, F⟩ := F
    refine x_inv dY160_asked_85 mlY160_75 hC (sW43 hW) (Nat.le_of_ble_eq_true rfl) (gW43 hW) rfl rfl (by omega) (Nat.zero_le _) (Nat.zero_le _) (Nat.le_of_ble_eq_true rfl) (fun o1 Y16 w15 ht hP => ?_)
    obtain ⟨r14, rfl⟩ : ∃ i, o1 = some (0, i) := ht
    obtain ⟨rfl, hP⟩ := hP
    have F := F r14 w15 hP
    exact x_ret (some (0, r14)) rfl ⟨dX10_asked_88, Or.inl rfl⟩ F
  · have F := F.2 hc
    refine x_aload_n dX10_asked_33 rfl ?_
    refine x_getr (r' := 40) flX10_54 dX10_asked_34 (sW0 hW) (gW0 hW) (rW0_7 hW) rfl (Nat.le_of_ble_eq_true rfl) ?_
    refine x_iload_n dX10_asked_37 rfl ?_
    obtain ⟨hi, F⟩ := F
    refine x_aald (r' := (X.2 40 x3)) dX10_asked_38 (sW40 hW) (by decide) (gW40 hW) hi rfl ?_
    refine x_astore [(2, 0), (0, a1), (0, a2), (0, x3), (2, (X.2 40 x3))] dX10_asked_39 rfl (Nat.le_of_ble_eq_true rfl) ?_
    refine x_aload dX10_asked_41 rfl ?_
    refine x_ifnull 75 dX10_asked_43 rfl (fun hc => ?_) (fun hc => ?_)
    · have F := F.1 hc
      obtain ⟨hz, F⟩ := F
      refine x_iinc [(2, 0), (0, a1), (0, a2), (0, (x3 + 1)), (2, (X.2 40 x3))] dX10_asked_75 rfl rfl (Nat.le_of_ble_eq_true rfl) hz ?_
      refine x_goto 27 dX10_asked_78 rfl ?_
      exact x_less [(2, 0), (0, a1), (0, a2), (0, (x3 + 1)), (3, 0)] ⟨Or.inr rfl, ⟨Or.inr rfl, ⟨Or.inr rfl, ⟨Or.inr rfl, ⟨Or.inl rfl, trivial⟩⟩⟩⟩⟩ F
    · have F := F.2 hc
      refine x_aload_n dX10_asked_46 rfl ?_
      refine x_getr (r' := 41) flX10_61 dX10_asked_47 (sW0 hW) (gW0 hW) (rW0_8 hW) rfl (Nat.le_of_ble_eq_true rfl) ?_
      refine x_aload dX10_asked_50 rfl ?_
      obtain ⟨hs17, hr17, F⟩ := F
      refine x_geti (e := (v (X.2 40 x3) 0)) 0 flX10_203 dX10_asked_52 hs17 hr17 rfl rfl (Nat.le_of_ble_eq_true rfl) (tagn2 rfl) ?_
      obtain ⟨P18, hC, F⟩ := F
      refine x_inv dY210_asked_55 mlY210_206 hC (sW41 hW) (Nat.le_of_ble_eq_true rfl) (gW41 hW) rfl rfl (by omega) (Nat.zero_le _) (Nat.zero_le _) (Nat.le_of_ble_eq_true rfl) (fun o1 Y21 w20 ht hP => ?_)
      obtain ⟨r19, rfl⟩ : ∃ i, o1 = some (0, i) := ht
      obtain ⟨rfl, hP⟩ := hP
      have F := F r19 w20 hP
      refine x_aload dX10_asked_58 rfl ?_
      refine x_geti (e := (w20 (X.2 40 x3) 1)) 0 flX10_209 dX10_asked_60 hs17 hr17 rfl rfl (Nat.le_of_ble_eq_true rfl) (tagn2 rfl) ?_
      obtain ⟨z22, ez22, hz22⟩ := i32_ex (Int32.ofInt r19 &&& Int32.ofInt (w20 (X.2 40 x3) 1))
      have F := F z22 ez22 hz22
      refine x_iand (z := z22) dX10_asked_63 ez22 hz22 ?_
      refine x_if_eq 75 dX10_asked_64 rfl (fun hc => ?_) (fun hc => ?_)
      · have F := F.1 hc
        obtain ⟨hz, F⟩ := F
        refine x_iinc [(2, 0), (0, a1), (0, a2), (0, (x3 + 1)), (2, (X.2 40 x3))] dX10_asked_75 rfl rfl (Nat.le_of_ble_eq_true rfl) hz ?_
        refine x_goto 27 dX10_asked_78 rfl ?_
        exact x_less [(2, 0), (0, a1), (0, a2), (0, (x3 + 1)), (3, 0)] ⟨Or.inr rfl, ⟨Or.inr rfl, ⟨Or.inr rfl, ⟨Or.inr rfl, ⟨Or.inl rfl, trivial⟩⟩⟩⟩⟩ F
      · have F := F.2 hc
        refine x_aload_n dX10_asked_67 rfl ?_
        refine x_getr (r' := 43) flX10_65 dX10_asked_68 (sW0 hW) (gW0 hW) (rW0_9 hW) rfl (Nat.le_of_ble_eq_true rfl) ?_
        refine x_iload_n dX10_asked_71 rfl ?_
        obtain ⟨P23, hC, F⟩ := F
        refine x_inv dY260_asked_72 mlY260_212 hC (sW43 hW) (Nat.le_of_ble_eq_true rfl) (gW43 hW) rfl rfl (by omega) (Nat.zero_le _) (Nat.zero_le _) (Nat.le_of_ble_eq_true rfl) (fun o1 Y26 w25 ht hP => ?_)
        obtain rfl : o1 = none := ht
        obtain ⟨rfl, hP⟩ := hP
        have F := F w25 hP
        obtain ⟨hz, F⟩ := F
        refine x_iinc [(2, 0), (0, a1), (0, a2), (0, (x3 + 1)), (2, (X.2 40 x3))] dX10_asked_75 rfl rfl (Nat.le_of_ble_eq_true rfl) hz ?_
        refine x_goto 27 dX10_asked_78 rfl ?_
        exact x_less [(2, 0), (0, a1), (0, a2), (0, (x3 + 1)), (3, 0)] ⟨Or.inr rfl, ⟨Or.inr rfl, ⟨Or.inr rfl, ⟨Or.inr rfl, ⟨Or.inl rfl, trivial⟩⟩⟩⟩⟩ F

set_option maxRecDepth 100000 in
set_option maxHeartbeats 4000000 in
theorem bX10_found_0 {d mc ms : Nat} {X : XX} {v : VV} {Q : QQ} (a1 : Int) (hd : 1 ≤ d) (hW : SW X) (F : i32 a1 → ∃ P1 : Option AV → VV → Prop, Con mX6_get 0 0 0 [(2, 43), (0, a1)] X v (fun o X1 v1 => X1 = X ∧ P1 o v1) ∧ ∀ (r2 : Int) (w3 : VV), P1 (some (0, r2)) w3 → Q (some (0, r2)) X w3) : Ex mX10_found d 0 [(2, 0), (0, a1)] [] X v mc ms Q := by
  refine x_li32 (i := 1) rfl (fun ha1 => ?_)
  have F := F ha1
  refine x_aload_n dX10_found_0 rfl ?_
  refine x_getr (r' := 43) flX10_65 dX10_found_1 (sW0 hW) (gW0 hW) (rW0_9 hW) rfl (Nat.le_of_ble_eq_true rfl) ?_
  refine x_iload_n dX10_found_4 rfl ?_
  obtain ⟨P1, hC, F⟩ := F
  refine x_inv dY40_found_5 mlY40_156 hC (sW43 hW) (Nat.le_of_ble_eq_true rfl) (gW43 hW) rfl rfl (by omega) (Nat.zero_le _) (Nat.zero_le _) (Nat.le_of_ble_eq_true rfl) (fun o1 Y4 w3 ht hP => ?_)
  obtain ⟨r2, rfl⟩ : ∃ i, o1 = some (0, i) := ht
  obtain ⟨rfl, hP⟩ := hP
  have F := F r2 w3 hP
  exact x_ret (some (0, r2)) rfl ⟨dX10_found_8, Or.inl rfl⟩ F

set_option maxRecDepth 100000 in
set_option maxHeartbeats 4000000 in
theorem bX10_retype_0 {d mc ms : Nat} {X : XX} {v : VV} {Q : QQ} (a1 : Int) (a2 : Int) (a3 : Int) (hd : 5 ≤ d) (hW : SW X) (F : i32 a1 → i32 a2 → i32 a3 → ∃ P1 : Option AV → VV → Prop, Con mX10_tableAt 0 0 0 [(2, 0), (0, a1)] X v (fun o X1 v1 => X1 = X ∧ P1 o v1) ∧ ∀ (r2 : Int) (w3 : VV), P1 (some (2, r2)) w3 → (((r2 = -1) → Q (some (0, (-1))) X w3) ∧ ((¬ r2 = -1) → X.1.2 r2 = (7, 0) ∧ (0 ≤ r2 ∧ r2 < X.1.1) ∧ (((¬ (w3 r2 5) = 0) → Q (some (0, (-1))) X w3) ∧ (((w3 r2 5) = 0) → ∃ P6 : Option AV → VV → Prop, Con mX10_hasColumn 1 0 0 [(2, 0), (0, a1), (0, a2)] X w3 (fun o X1 v1 => X1 = X ∧ P6 o v1) ∧ ∀ (r7 : Int) (w8 : VV), P6 (some (0, r7)) w8 → (((r7 = 0) → Q (some (0, (-1))) X w8) ∧ ((¬ r7 = 0) → ∃ P10 : Option AV → VV → Prop, Con mX10_isType 0 0 0 [(0, a3)] X w8 (fun o X1 v1 => X1 = X ∧ P10 o v1) ∧ ∀ (r11 : Int) (w12 : VV), P10 (some (0, r11)) w12 → (((¬ r11 = 0) → i32 (a1 * 8) ∧ (i32 (a1 * 8) → i32 ((a1 * 8) + a2)) ∧ (0 ≤ 0 ∧ 0 ≤ 0 ∧ 0 ≤ 128 ∧ 0 + 128 ≤ 128 ∧ 0 + 128 ≤ 128) ∧ (0 ≤ ((a1 * 8) + a2) ∧ ((a1 * 8) + a2) < 128) ∧ ∃ P14 : Option AV → VV → Prop, Con mX6_cutTo 0 0 0 [(2, 45), (0, 0)] X (upd2 (cpy2 w12 38 0 39 0 128) 39 ((a1 * 8) + a2) a3) (fun o X1 v1 => X1 = X ∧ P14 o v1) ∧ ∀ (w16 : VV), P14 none w16 → i32 (a1 + 1) ∧ Ex mX10_retype d 83 [(2, 0), (0, a1), (0, a2), (0, a3), (2, r2), (0, ((a1 * 8) + a2)), (0, (a1 + 1))] [] X w16 mc ms Q) ∧ ((r11 = 0) → Q (some (0, (-1))) X w12))))))))) : Ex mX10_retype d 0 [(2, 0), (0, a1), (0, a2), (0, a3), (3, 0), (3, 0), (3, 0)] [] X v mc ms Q := by
  refine x_li32 (i := 1) rfl (fun ha1 => ?_)
  have F := F ha1
  refine x_li32 (i := 2) rfl (fun ha2 => ?_)
  have F := F ha2
  refine x_li32 (i := 3) rfl (fun ha3 => ?_)
  have F := F ha3
  refine x_aload_n dX10_retype_0 rfl ?_
  refine x_iload_n dX10_retype_1 rfl ?_
  obtain ⟨P1, hC, F⟩ := F
  refine x_inv dY40_retype_2 mlY40_143 hC (sW0 hW) (Nat.le_of_ble_eq_true rfl) (gW0 hW) rfl rfl (by omega) (Nat.zero_le _) (Nat.zero_le _) (Nat.le_of_ble_eq_true rfl) (fun o1 Y4 w3 ht hP => ?_)
  obtain ⟨r2, rfl⟩ : ∃ i, o1 = some (2, i) := ht
  obtain ⟨rfl, hP⟩ := hP
  have F := F r2 w3 hP
  refine x_astore [(2, 0), (0, a1), (0, a2), (0, a3), (2, r2), (3, 0), (3, 0)] dX10_retype_5 rfl (Nat.le_of_ble_eq_true rfl) ?_
  refine x_aload dX10_retype_7 rfl ?_
  refine x_ifnull 36 dX10_retype_9 rfl (fun hc => ?_) (fun hc => ?_)
  · have F := F.1 hc
    refine x_iconst dX10_retype_36 rfl (i32_of rfl) ?_
    exact x_ret (some (0, (-1))) rfl ⟨dX10_retype_37, Or.inl rfl⟩ F
  · have F := F.2 hc
    refine x_aload dX10_retype_12 rfl ?_
    obtain ⟨hs5, hr5, F⟩ := F
    refine x_geti (e := (w3 r2 5)) 0 flX10_147 dX10_retype_14 hs5 hr5 rfl rfl (Nat.le_of_ble_eq_true rfl) (tagn2 rfl) ?_
    refine x_if_ne 36 dX10_retype_17 rfl (fun hc => ?_) (fun hc => ?_)
    · have F := F.1 hc
      refine x_iconst dX10_retype_36 rfl (i32_of rfl) ?_
      exact x_ret (some (0, (-1))) rfl ⟨dX10_retype_37, Or.inl rfl⟩ F
    · have F := F.2 hc
      refine x_aload_n dX10_retype_20 rfl ?_
      refine x_iload_n dX10_retype_21 rfl ?_
      refine x_iload_n dX10_retype_22 rfl ?_
      obtain ⟨P6, hC, F⟩ := F
      refine x_inv dY90_retype_23 mlY90_172 hC (sW0 hW) (Nat.le_of_ble_eq_true rfl) (gW0 hW) rfl rfl (by omega) (Nat.zero_le _) (Nat.zero_le _) (Nat.le_of_ble_eq_true rfl) (fun o1 Y9 w8 ht hP => ?_)
      obtain ⟨r7, rfl⟩ : ∃ i, o1 = some (0, i) := ht
      obtain ⟨rfl, hP⟩ := hP
      have F := F r7 w8 hP
      refine x_if_eq 36 dX10_retype_26 rfl (fun hc => ?_) (fun hc => ?_)
      · have F := F.1 hc
        refine x_iconst dX10_retype_36 rfl (i32_of rfl) ?_
        exact x_ret (some (0, (-1))) rfl ⟨dX10_retype_37, Or.inl rfl⟩ F
      · have F := F.2 hc
        refine x_iload_n dX10_retype_29 rfl ?_
        obtain ⟨P10, hC, F⟩ := F
        refine x_static dY130_retype_30 mlY130_215 hC rfl rfl (by omega) (Nat.zero_le _) (Nat.zero_le _) (Nat.le_of_ble_eq_true rfl) (fun o1 Y13 w12 ht hP => ?_)
        obtain ⟨r11, rfl⟩ : ∃ i, o1 = some (0, i) := ht
        obtain ⟨rfl, hP⟩ := hP
        have F := F r11 w12 hP
        refine x_if_ne 38 dX10_retype_33 rfl (fun hc => ?_) (fun hc => ?_)
        · have F := F.1 hc
          refine x_iload_n dX10_retype_38 rfl ?_
          refine x_bipush dX10_retype_39 kb_8 (i32_of rfl) ?_
          obtain ⟨hz, F⟩ := F
          refine x_imul dX10_retype_41 hz ?_
          refine x_iload_n dX10_retype_42 rfl ?_
          refine x_si32 (i := 1) rfl (fun hk1 => ?_)
          obtain ⟨hz, F⟩ := F
          have hz := hz hk1
          refine x_iadd dX10_retype_43 hz ?_
          refine x_istore [(2, 0), (0, a1), (0, a2), (0, a3), (2, r2), (0, ((a1 * 8) + a2)), (3, 0)] dX10_retype_44 rfl (Nat.le_of_ble_eq_true rfl) ?_
          refine x_aload_n dX10_retype_46 rfl ?_
          refine x_getr (r' := 38) flX10_45 dX10_retype_47 (sW0 hW) (gW0 hW) (rW0_5 hW) rfl (Nat.le_of_ble_eq_true rfl) ?_
          refine x_iconst dX10_retype_50 rfl (i32_of rfl) ?_
          refine x_aload_n dX10_retype_51 rfl ?_
          refine x_getr (r' := 39) flX10_49 dX10_retype_52 (sW0 hW) (gW0 hW) (rW0_6 hW) rfl (Nat.le_of_ble_eq_true rfl) ?_
          refine x_iconst dX10_retype_55 rfl (i32_of rfl) ?_
          refine x_sipush dX10_retype_56 ks_128 (i32_of rfl) ?_
          obtain ⟨hb, F⟩ := F
          refine x_copy dX10_retype_59 mlX10_219 (sW38 hW) (sW39 hW) (gW38 hW) (gW39 hW) hb.1 hb.2.1 hb.2.2.1 hb.2.2.2.1 hb.2.2.2.2 (by omega) rfl ?_
          refine x_aload_n dX10_retype_62 rfl ?_
          refine x_getr (r' := 39) flX10_49 dX10_retype_63 (sW0 hW) (gW0 hW) (rW0_6 hW) rfl (Nat.le_of_ble_eq_true rfl) ?_
          refine x_iload dX10_retype_66 rfl ?_
          refine x_iload_n dX10_retype_68 rfl ?_
          obtain ⟨hi, F⟩ := F
          refine x_iast dX10_retype_69 (sW39 hW) (gW39 hW) hi ?_
          refine x_aload_n dX10_retype_70 rfl ?_
          refine x_getr (r' := 45) flX10_68 dX10_retype_71 (sW0 hW) (gW0 hW) (rW0_10 hW) rfl (Nat.le_of_ble_eq_true rfl) ?_
          refine x_iconst dX10_retype_74 rfl (i32_of rfl) ?_
          obtain ⟨P14, hC, F⟩ := F
          refine x_inv dY170_retype_75 mlY170_82 hC (sW45 hW) (Nat.le_of_ble_eq_true rfl) (gW45 hW) rfl rfl (by omega) (Nat.zero_le _) (Nat.zero_le _) (Nat.le_of_ble_eq_true rfl) (fun o1 Y17 w16 ht hP => ?_)
          obtain rfl : o1 = none := ht
          obtain ⟨rfl, hP⟩ := hP
          have F := F w16 hP
          refine x_iload_n dX10_retype_78 rfl ?_
          refine x_iconst dX10_retype_79 rfl (i32_of rfl) ?_
          obtain ⟨hz, F⟩ := F
          refine x_iadd dX10_retype_80 hz ?_
          refine x_istore [(2, 0), (0, a1), (0, a2), (0, a3), (2, r2), (0, ((a1 * 8) + a2)), (0, (a1 + 1))] dX10_retype_81 rfl (Nat.le_of_ble_eq_true rfl) ?_
          exact F
        · have F := F.2 hc
          refine x_iconst dX10_retype_36 rfl (i32_of rfl) ?_
          exact x_ret (some (0, (-1))) rfl ⟨dX10_retype_37, Or.inl rfl⟩ F

set_option maxRecDepth 100000 in
set_option maxHeartbeats 4000000 in
theorem bX10_retype_83 {d mc ms : Nat} {X : XX} {v : VV} {Q : QQ} (a1 : Int) (a2 : Int) (a3 : Int) (x4 : Int) (x5 : Int) (x6 : Int) (hd : 5 ≤ d) (hW : SW X) (F : i32 a1 → i32 a2 → i32 a3 → i32 x5 → i32 x6 → (((16 ≤ x6) → ∃ P18 : Option AV → VV → Prop, Con mX6_size 0 0 0 [(2, 45)] X v (fun o X1 v1 => X1 = X ∧ P18 o v1) ∧ ∀ (r19 : Int) (w20 : VV), P18 (some (0, r19)) w20 → (((r19 ≤ 0) → ∃ P22 : Option AV → VV → Prop, Con mX10_countRetypedBeside 0 0 0 [(2, 0), (0, x5)] X w20 (fun o X1 v1 => X1 = X ∧ P22 o v1) ∧ ∀ (r23 : Int) (w24 : VV), P22 (some (0, r23)) w24 → (0 ≤ 0 ∧ 0 ≤ 0 ∧ 0 ≤ 128 ∧ 0 + 128 ≤ 128 ∧ 0 + 128 ≤ 128) ∧ Q (some (0, r23)) X (cpy2 w24 39 0 38 0 128)) ∧ ((0 < r19) → ∃ P26 : Option AV → VV → Prop, Con mX6_cutTo 0 0 0 [(2, 43), (0, 0)] X w20 (fun o X1 v1 => X1 = X ∧ P26 o v1) ∧ ∀ (w28 : VV), P26 none w28 → ∃ P30 : Option AV → VV → Prop, Con mX6_addAll 2 0 0 [(2, 43), (2, 45)] X w28 (fun o X1 v1 => X1 = X ∧ P30 o v1) ∧ ∀ (w32 : VV), P30 none w32 → Q (some (0, (-2))) X w32))) ∧ ((x6 < 16) → ∃ P34 : Option AV → VV → Prop, Con mX10_tryTypes 4 0 0 [(2, 0), (0, x6)] X v (fun o X1 v1 => X1 = X ∧ P34 o v1) ∧ ∀ (w36 : VV), P34 none w36 → i32 (x6 + 1) ∧ Ex mX10_retype d 83 [(2, 0), (0, a1), (0, a2), (0, a3), (2, x4), (0, x5), (0, (x6 + 1))] [] X w36 mc ms Q))) : Ex mX10_retype d 83 [(2, 0), (0, a1), (0, a2), (0, a3), (2, x4), (0, x5), (0, x6)] [] X v mc ms Q := by
  refine x_li32 (i := 1) rfl (fun ha1 => ?_)
  have F := F ha1
  refine x_li32 (i := 2) rfl (fun ha2 => ?_)
  have F := F ha2
  refine x_li32 (i := 3) rfl (fun ha3 => ?_)
  have F := F ha3
  refine x_li32 (i := 5) rfl (fun hx5 => ?_)
  have F := F hx5
  refine x_li32 (i := 6) rfl (fun hx6 => ?_)
  have F := F hx6
  refine x_iload dX10_retype_83 rfl ?_
  refine x_bipush dX10_retype_85 kb_16 (i32_of rfl) ?_
  refine x_icmp_ge 102 dX10_retype_87 rfl (fun hc => ?_) (fun hc => ?_)
  · have F := F.1 hc
    refine x_aload_n dX10_retype_102 rfl ?_
    refine x_getr (r' := 45) flX10_68 dX10_retype_103 (sW0 hW) (gW0 hW) (rW0_10 hW) rfl (Nat.le_of_ble_eq_true rfl) ?_
    obtain ⟨P18, hC, F⟩ := F
    refine x_inv dY210_retype_106 mlY210_75 hC (sW45 hW) (Nat.le_of_ble_eq_true rfl) (gW45 hW) rfl rfl (by omega) (Nat.zero_le _) (Nat.zero_le _) (Nat.le_of_ble_eq_true rfl) (fun o1 Y21 w20 ht hP => ?_)
    obtain ⟨r19, rfl⟩ : ∃ i, o1 = some (0, i) := ht
    obtain ⟨rfl, hP⟩ := hP
    have F := F r19 w20 hP
    refine x_if_le 134 dX10_retype_109 rfl (fun hc => ?_) (fun hc => ?_)
    · have F := F.1 hc
      refine x_aload_n dX10_retype_134 rfl ?_
      refine x_iload dX10_retype_135 rfl ?_
      obtain ⟨P22, hC, F⟩ := F
      refine x_inv dY250_retype_137 mlY250_231 hC (sW0 hW) (Nat.le_of_ble_eq_true rfl) (gW0 hW) rfl rfl (by omega) (Nat.zero_le _) (Nat.zero_le _) (Nat.le_of_ble_eq_true rfl) (fun o1 Y25 w24 ht hP => ?_)
      obtain ⟨r23, rfl⟩ : ∃ i, o1 = some (0, i) := ht
      obtain ⟨rfl, hP⟩ := hP
      have F := F r23 w24 hP
      refine x_istore [(2, 0), (0, a1), (0, a2), (0, a3), (2, x4), (0, x5), (0, r23)] dX10_retype_140 rfl (Nat.le_of_ble_eq_true rfl) ?_
      refine x_aload_n dX10_retype_142 rfl ?_
      refine x_getr (r' := 39) flX10_49 dX10_retype_143 (sW0 hW) (gW0 hW) (rW0_6 hW) rfl (Nat.le_of_ble_eq_true rfl) ?_
      refine x_iconst dX10_retype_146 rfl (i32_of rfl) ?_
      refine x_aload_n dX10_retype_147 rfl ?_
      refine x_getr (r' := 38) flX10_45 dX10_retype_148 (sW0 hW) (gW0 hW) (rW0_5 hW) rfl (Nat.le_of_ble_eq_true rfl) ?_
      refine x_iconst dX10_retype_151 rfl (i32_of rfl) ?_
      refine x_sipush dX10_retype_152 ks_128 (i32_of rfl) ?_
      obtain ⟨hb, F⟩ := F
      refine x_copy dX10_retype_155 mlX10_219 (sW39 hW) (sW38 hW) (gW39 hW) (gW38 hW) hb.1 hb.2.1 hb.2.2.1 hb.2.2.2.1 hb.2.2.2.2 (by omega) rfl ?_
      refine x_iload dX10_retype_158 rfl ?_
      exact x_ret (some (0, r23)) rfl ⟨dX10_retype_160, Or.inl rfl⟩ F
    · have F := F.2 hc
      refine x_aload_n dX10_retype_112 rfl ?_
      refine x_getr (r' := 43) flX10_65 dX10_retype_113 (sW0 hW) (gW0 hW) (rW0_9 hW) rfl (Nat.le_of_ble_eq_true rfl) ?_
      refine x_iconst dX10_retype_116 rfl (i32_of rfl) ?_
      obtain ⟨P26, hC, F⟩ := F
      refine x_inv dY290_retype_117 mlY290_82 hC (sW43 hW) (Nat.le_of_ble_eq_true rfl) (gW43 hW) rfl rfl (by omega) (Nat.zero_le _) (Nat.zero_le _) (Nat.le_of_ble_eq_true rfl) (fun o1 Y29 w28 ht hP => ?_)
      obtain rfl : o1 = none := ht
      obtain ⟨rfl, hP⟩ := hP
      have F := F w28 hP
      refine x_aload_n dX10_retype_120 rfl ?_
      refine x_getr (r' := 43) flX10_65 dX10_retype_121 (sW0 hW) (gW0 hW) (rW0_9 hW) rfl (Nat.le_of_ble_eq_true rfl) ?_
      refine x_aload_n dX10_retype_124 rfl ?_
      refine x_getr (r' := 45) flX10_68 dX10_retype_125 (sW0 hW) (gW0 hW) (rW0_10 hW) rfl (Nat.le_of_ble_eq_true rfl) ?_
      obtain ⟨P30, hC, F⟩ := F
      refine x_inv dY330_retype_128 mlY330_228 hC (sW43 hW) (Nat.le_of_ble_eq_true rfl) (gW43 hW) rfl rfl (by omega) (Nat.zero_le _) (Nat.zero_le _) (Nat.le_of_ble_eq_true rfl) (fun o1 Y33 w32 ht hP => ?_)
      obtain rfl : o1 = none := ht
      obtain ⟨rfl, hP⟩ := hP
      have F := F w32 hP
      refine x_bipush dX10_retype_131 kb_m2 (i32_of rfl) ?_
      exact x_ret (some (0, (-2))) rfl ⟨dX10_retype_133, Or.inl rfl⟩ F
  · have F := F.2 hc
    refine x_aload_n dX10_retype_90 rfl ?_
    refine x_iload dX10_retype_91 rfl ?_
    obtain ⟨P34, hC, F⟩ := F
    refine x_inv dY370_retype_93 mlY370_225 hC (sW0 hW) (Nat.le_of_ble_eq_true rfl) (gW0 hW) rfl rfl (by omega) (Nat.zero_le _) (Nat.zero_le _) (Nat.le_of_ble_eq_true rfl) (fun o1 Y37 w36 ht hP => ?_)
    obtain rfl : o1 = none := ht
    obtain ⟨rfl, hP⟩ := hP
    have F := F w36 hP
    obtain ⟨hz, F⟩ := F
    refine x_iinc [(2, 0), (0, a1), (0, a2), (0, a3), (2, x4), (0, x5), (0, (x6 + 1))] dX10_retype_96 rfl rfl (Nat.le_of_ble_eq_true rfl) hz ?_
    refine x_goto 83 dX10_retype_99 rfl ?_
    exact F

set_option maxRecDepth 100000 in
set_option maxHeartbeats 4000000 in
theorem bX10_drop_0 {d mc ms : Nat} {X : XX} {v : VV} {Q : QQ} (a1 : Int) (hd : 1 ≤ d) (hW : SW X) (F : i32 a1 → ∃ P1 : Option AV → VV → Prop, Con mX10_tableAt 0 0 0 [(2, 0), (0, a1)] X v (fun o X1 v1 => X1 = X ∧ P1 o v1) ∧ ∀ (r2 : Int) (w3 : VV), P1 (some (2, r2)) w3 → (((¬ r2 = -1) → Ex mX10_drop d 12 [(2, 0), (0, a1), (0, 0), (3, 0)] [] X w3 mc ms Q) ∧ ((r2 = -1) → Q (some (0, (-1))) X w3))) : Ex mX10_drop d 0 [(2, 0), (0, a1), (3, 0), (3, 0)] [] X v mc ms Q := by
  refine x_li32 (i := 1) rfl (fun ha1 => ?_)
  have F := F ha1
  refine x_aload_n dX10_drop_0 rfl ?_
  refine x_iload_n dX10_drop_1 rfl ?_
  obtain ⟨P1, hC, F⟩ := F
  refine x_inv dY40_drop_2 mlY40_143 hC (sW0 hW) (Nat.le_of_ble_eq_true rfl) (gW0 hW) rfl rfl (by omega) (Nat.zero_le _) (Nat.zero_le _) (Nat.le_of_ble_eq_true rfl) (fun o1 Y4 w3 ht hP => ?_)
  obtain ⟨r2, rfl⟩ : ∃ i, o1 = some (2, i) := ht
  obtain ⟨rfl, hP⟩ := hP
  have F := F r2 w3 hP
  refine x_ifnonnull 10 dX10_drop_5 rfl (fun hc => ?_) (fun hc => ?_)
  · have F := F.1 hc
    refine x_iconst dX10_drop_10 rfl (i32_of rfl) ?_
    refine x_istore_n [(2, 0), (0, a1), (0, 0), (3, 0)] dX10_drop_11 rfl (Nat.le_of_ble_eq_true rfl) ?_
    exact F
  · have F := F.2 hc
    refine x_iconst dX10_drop_8 rfl (i32_of rfl) ?_
    exact x_ret (some (0, (-1))) rfl ⟨dX10_drop_9, Or.inl rfl⟩ F

set_option maxRecDepth 100000 in
set_option maxHeartbeats 4000000 in
theorem bX10_drop_12 {d mc ms : Nat} {X : XX} {v : VV} {Q : QQ} (a1 : Int) (x2 : Int) (hd : 1 ≤ d) (hW : SW X) (F : i32 a1 → i32 x2 → (((16 ≤ x2) → (0 ≤ a1 ∧ a1 < 16) ∧ ∃ P6 : QQ, Con mX10_dropAsksOf 0 0 0 [(2, 0), (0, a1)] (X.1, upd2 X.2 37 a1 (-1)) v P6 ∧ ∀ (r7 : Int) (Y9 : XX) (w8 : VV), P6 (some (0, r7)) Y9 w8 → SW Y9 ∧ Q (some (0, r7)) Y9 w8) ∧ ((x2 < 16) → (0 ≤ x2 ∧ x2 < 16) ∧ ((((X.2 37 x2) = -1) → i32 (x2 + 1) ∧ Ex mX10_drop d 12 [(2, 0), (0, a1), (0, (x2 + 1)), (3, 0)] [] X v mc ms Q) ∧ ((¬ (X.2 37 x2) = -1) → X.1.2 (X.2 37 x2) = (7, 0) ∧ (0 ≤ (X.2 37 x2) ∧ (X.2 37 x2) < X.1.1) ∧ X.1.2 (X.2 (X.2 37 x2) 2) = (6, 0) ∧ (0 ≤ (X.2 (X.2 37 x2) 2) ∧ (X.2 (X.2 37 x2) 2) < X.1.1) ∧ ∃ P13 : Option AV → VV → Prop, Con mX6_has 0 0 0 [(2, (X.2 (X.2 37 x2) 2)), (0, a1)] X v (fun o X1 v1 => X1 = X ∧ P13 o v1) ∧ ∀ (r14 : Int) (w15 : VV), P13 (some (0, r14)) w15 → (((r14 = 0) → i32 (x2 + 1) ∧ Ex mX10_drop d 12 [(2, 0), (0, a1), (0, (x2 + 1)), (3, 0)] [] X w15 mc ms Q) ∧ ((¬ r14 = 0) → Q (some (0, (-2))) X w15))))))) : Ex mX10_drop d 12 [(2, 0), (0, a1), (0, x2), (3, 0)] [] X v mc ms Q := by
  refine x_li32 (i := 1) rfl (fun ha1 => ?_)
  have F := F ha1
  refine x_li32 (i := 2) rfl (fun hx2 => ?_)
  have F := F hx2
  refine x_iload_n dX10_drop_12 rfl ?_
  refine x_bipush dX10_drop_13 kb_16 (i32_of rfl) ?_
  refine x_icmp_ge 49 dX10_drop_15 rfl (fun hc => ?_) (fun hc => ?_)
  · have F := F.1 hc
    refine x_aload_n dX10_drop_49 rfl ?_
    refine x_getr (r' := 37) flX10_41 dX10_drop_50 (sW0 hW) (gW0 hW) (rW0_4 hW) rfl (Nat.le_of_ble_eq_true rfl) ?_
    refine x_iload_n dX10_drop_53 rfl ?_
    refine x_null dX10_drop_54 ?_
    obtain ⟨hi, F⟩ := F
    refine x_aastN dX10_drop_55 (sW37 hW) (by decide) (gW37 hW) hi ?_
    have hW5 : SW (X.1, upd2 X.2 37 a1 (-1)) := hW.ref37 _ _
    refine x_aload_n dX10_drop_56 rfl ?_
    refine x_iload_n dX10_drop_57 rfl ?_
    obtain ⟨P6, hC, F⟩ := F
    refine x_inv dY90_drop_58 mlY90_237 hC (sW0 hW5) (Nat.le_of_ble_eq_true rfl) (gW0 hW5) rfl rfl (by omega) (Nat.zero_le _) (Nat.zero_le _) (Nat.le_of_ble_eq_true rfl) (fun o1 Y9 w8 ht hP => ?_)
    obtain ⟨r7, rfl⟩ : ∃ i, o1 = some (0, i) := ht
    obtain ⟨hW10, F⟩ := F r7 Y9 w8 hP
    skip
    exact x_ret (some (0, r7)) rfl ⟨dX10_drop_61, Or.inl rfl⟩ F
  · have F := F.2 hc
    refine x_aload_n dX10_drop_18 rfl ?_
    refine x_getr (r' := 37) flX10_41 dX10_drop_19 (sW0 hW) (gW0 hW) (rW0_4 hW) rfl (Nat.le_of_ble_eq_true rfl) ?_
    refine x_iload_n dX10_drop_22 rfl ?_
    obtain ⟨hi, F⟩ := F
    refine x_aald (r' := (X.2 37 x2)) dX10_drop_23 (sW37 hW) (by decide) (gW37 hW) hi rfl ?_
    refine x_astore_n [(2, 0), (0, a1), (0, x2), (2, (X.2 37 x2))] dX10_drop_24 rfl (Nat.le_of_ble_eq_true rfl) ?_
    refine x_aload_n dX10_drop_25 rfl ?_
    refine x_ifnull 43 dX10_drop_26 rfl (fun hc => ?_) (fun hc => ?_)
    · have F := F.1 hc
      obtain ⟨hz, F⟩ := F
      refine x_iinc [(2, 0), (0, a1), (0, (x2 + 1)), (2, (X.2 37 x2))] dX10_drop_43 rfl rfl (Nat.le_of_ble_eq_true rfl) hz ?_
      refine x_goto 12 dX10_drop_46 rfl ?_
      exact x_less [(2, 0), (0, a1), (0, (x2 + 1)), (3, 0)] ⟨Or.inr rfl, ⟨Or.inr rfl, ⟨Or.inr rfl, ⟨Or.inl rfl, trivial⟩⟩⟩⟩ F
    · have F := F.2 hc
      refine x_aload_n dX10_drop_29 rfl ?_
      obtain ⟨hs11, hr11, F⟩ := F
      refine x_getr (r' := (X.2 (X.2 37 x2) 2)) flX10_153 dX10_drop_30 hs11 hr11 rfl rfl (Nat.le_of_ble_eq_true rfl) ?_
      refine x_iload_n dX10_drop_33 rfl ?_
      obtain ⟨hs12, hr12, F⟩ := F
      obtain ⟨P13, hC, F⟩ := F
      refine x_inv dY160_drop_34 mlY160_234 hC hs12 (Nat.le_of_ble_eq_true rfl) hr12 rfl rfl (by omega) (Nat.zero_le _) (Nat.zero_le _) (Nat.le_of_ble_eq_true rfl) (fun o1 Y16 w15 ht hP => ?_)
      obtain ⟨r14, rfl⟩ : ∃ i, o1 = some (0, i) := ht
      obtain ⟨rfl, hP⟩ := hP
      have F := F r14 w15 hP
      refine x_if_eq 43 dX10_drop_37 rfl (fun hc => ?_) (fun hc => ?_)
      · have F := F.1 hc
        obtain ⟨hz, F⟩ := F
        refine x_iinc [(2, 0), (0, a1), (0, (x2 + 1)), (2, (X.2 37 x2))] dX10_drop_43 rfl rfl (Nat.le_of_ble_eq_true rfl) hz ?_
        refine x_goto 12 dX10_drop_46 rfl ?_
        exact x_less [(2, 0), (0, a1), (0, (x2 + 1)), (3, 0)] ⟨Or.inr rfl, ⟨Or.inr rfl, ⟨Or.inr rfl, ⟨Or.inl rfl, trivial⟩⟩⟩⟩ F
      · have F := F.2 hc
        refine x_bipush dX10_drop_40 kb_m2 (i32_of rfl) ?_
        exact x_ret (some (0, (-2))) rfl ⟨dX10_drop_42, Or.inl rfl⟩ F

set_option maxRecDepth 100000 in
set_option maxHeartbeats 4000000 in
theorem bX10_freeze_0 {d mc ms : Nat} {X : XX} {v : VV} {Q : QQ} (a1 : Int) (hd : 2 ≤ d) (hW : SW X) (F : i32 a1 → ∃ P1 : Option AV → VV → Prop, Con mX10_tableAt 0 0 0 [(2, 0), (0, a1)] X v (fun o X1 v1 => X1 = X ∧ P1 o v1) ∧ ∀ (r2 : Int) (w3 : VV), P1 (some (2, r2)) w3 → (((r2 = -1) → Q (some (0, 0)) X w3) ∧ ((¬ r2 = -1) → X.1.2 r2 = (7, 0) ∧ (0 ≤ r2 ∧ r2 < X.1.1) ∧ ((((w3 r2 5) = 2) → X.1.2 (X.2 r2 2) = (6, 0) ∧ (0 ≤ (X.2 r2 2) ∧ (X.2 r2 2) < X.1.1) ∧ ∃ P7 : Option AV → VV → Prop, Con mX6_cutTo 0 0 0 [(2, (X.2 r2 2)), (0, 0)] X (upd2 w3 r2 5 3) (fun o X1 v1 => X1 = X ∧ P7 o v1) ∧ ∀ (w9 : VV), P7 none w9 → X.1.2 (X.2 r2 3) = (5, 0) ∧ (0 ≤ (X.2 r2 3) ∧ (X.2 r2 3) < X.1.1) ∧ ∃ P12 : Option AV → VV → Prop, Con mX5_clear 1 0 0 [(2, (X.2 r2 3))] X w9 (fun o X1 v1 => X1 = X ∧ P12 o v1) ∧ ∀ (w14 : VV), P12 none w14 → Q (some (0, 1)) X w14) ∧ ((¬ (w3 r2 5) = 2) → Q (some (0, 0)) X w3))))) : Ex mX10_freeze d 0 [(2, 0), (0, a1), (3, 0)] [] X v mc ms Q := by
  refine x_li32 (i := 1) rfl (fun ha1 => ?_)
  have F := F ha1
  refine x_aload_n dX10_freeze_0 rfl ?_
  refine x_iload_n dX10_freeze_1 rfl ?_
  obtain ⟨P1, hC, F⟩ := F
  refine x_inv dY40_freeze_2 mlY40_143 hC (sW0 hW) (Nat.le_of_ble_eq_true rfl) (gW0 hW) rfl rfl (by omega) (Nat.zero_le _) (Nat.zero_le _) (Nat.le_of_ble_eq_true rfl) (fun o1 Y4 w3 ht hP => ?_)
  obtain ⟨r2, rfl⟩ : ∃ i, o1 = some (2, i) := ht
  obtain ⟨rfl, hP⟩ := hP
  have F := F r2 w3 hP
  refine x_astore_n [(2, 0), (0, a1), (2, r2)] dX10_freeze_5 rfl (Nat.le_of_ble_eq_true rfl) ?_
  refine x_aload_n dX10_freeze_6 rfl ?_
  refine x_ifnull 18 dX10_freeze_7 rfl (fun hc => ?_) (fun hc => ?_)
  · have F := F.1 hc
    refine x_iconst dX10_freeze_18 rfl (i32_of rfl) ?_
    exact x_ret (some (0, 0)) rfl ⟨dX10_freeze_19, Or.inr ⟨rfl, Or.inl rfl⟩⟩ F
  · have F := F.2 hc
    refine x_aload_n dX10_freeze_10 rfl ?_
    obtain ⟨hs5, hr5, F⟩ := F
    refine x_geti (e := (w3 r2 5)) 0 flX10_147 dX10_freeze_11 hs5 hr5 rfl rfl (Nat.le_of_ble_eq_true rfl) (tagn2 rfl) ?_
    refine x_iconst dX10_freeze_14 rfl (i32_of rfl) ?_
    refine x_icmp_eq 20 dX10_freeze_15 rfl (fun hc => ?_) (fun hc => ?_)
    · have F := F.1 hc
      refine x_aload_n dX10_freeze_20 rfl ?_
      refine x_iconst dX10_freeze_21 rfl (i32_of rfl) ?_
      refine x_puti 0 fwX10_147 dX10_freeze_22 hs5 hr5 (fun h => Bool.noConfusion h) (Nat.le_of_ble_eq_true rfl) rfl (Or.inl ⟨rfl, Or.inl rfl⟩) ?_
      refine x_aload_n dX10_freeze_25 rfl ?_
      refine x_getr (r' := (X.2 r2 2)) flX10_153 dX10_freeze_26 hs5 hr5 rfl rfl (Nat.le_of_ble_eq_true rfl) ?_
      refine x_iconst dX10_freeze_29 rfl (i32_of rfl) ?_
      obtain ⟨hs6, hr6, F⟩ := F
      obtain ⟨P7, hC, F⟩ := F
      refine x_inv dY100_freeze_30 mlY100_82 hC hs6 (Nat.le_of_ble_eq_true rfl) hr6 rfl rfl (by omega) (Nat.zero_le _) (Nat.zero_le _) (Nat.le_of_ble_eq_true rfl) (fun o1 Y10 w9 ht hP => ?_)
      obtain rfl : o1 = none := ht
      obtain ⟨rfl, hP⟩ := hP
      have F := F w9 hP
      refine x_aload_n dX10_freeze_33 rfl ?_
      refine x_getr (r' := (X.2 r2 3)) flX10_179 dX10_freeze_34 hs5 hr5 rfl rfl (Nat.le_of_ble_eq_true rfl) ?_
      obtain ⟨hs11, hr11, F⟩ := F
      obtain ⟨P12, hC, F⟩ := F
      refine x_inv dY150_freeze_37 mlY150_240 hC hs11 (Nat.le_of_ble_eq_true rfl) hr11 rfl rfl (by omega) (Nat.zero_le _) (Nat.zero_le _) (Nat.le_of_ble_eq_true rfl) (fun o1 Y15 w14 ht hP => ?_)
      obtain rfl : o1 = none := ht
      obtain ⟨rfl, hP⟩ := hP
      have F := F w14 hP
      refine x_iconst dX10_freeze_40 rfl (i32_of rfl) ?_
      exact x_ret (some (0, 1)) rfl ⟨dX10_freeze_41, Or.inr ⟨rfl, Or.inr rfl⟩⟩ F
    · have F := F.2 hc
      refine x_iconst dX10_freeze_18 rfl (i32_of rfl) ?_
      exact x_ret (some (0, 0)) rfl ⟨dX10_freeze_19, Or.inr ⟨rfl, Or.inl rfl⟩⟩ F

set_option maxRecDepth 100000 in
set_option maxHeartbeats 4000000 in
theorem bX10_today_0 {d mc ms : Nat} {X : XX} {v : VV} {Q : QQ} (a1 : Int) (hd : 0 ≤ d) (hW : SW X) (F : i32 a1 → (((a1 < (v 0 13)) → Q (some (0, 0)) X v) ∧ (((v 0 13) ≤ a1) → (((a1 ≤ 30000) → Q (some (0, 1)) X (upd2 v 0 13 a1)) ∧ ((30000 < a1) → Q (some (0, 0)) X v))))) : Ex mX10_today d 0 [(2, 0), (0, a1)] [] X v mc ms Q := by
  refine x_li32 (i := 1) rfl (fun ha1 => ?_)
  have F := F ha1
  refine x_iload_n dX10_today_0 rfl ?_
  refine x_aload_n dX10_today_1 rfl ?_
  refine x_geti (e := (v 0 13)) 0 flX10_241 dX10_today_2 (sW0 hW) (gW0 hW) rfl rfl (Nat.le_of_ble_eq_true rfl) (tagn2 rfl) ?_
  refine x_icmp_lt 15 dX10_today_5 rfl (fun hc => ?_) (fun hc => ?_)
  · have F := F.1 hc
    refine x_iconst dX10_today_15 rfl (i32_of rfl) ?_
    exact x_ret (some (0, 0)) rfl ⟨dX10_today_16, Or.inr ⟨rfl, Or.inl rfl⟩⟩ F
  · have F := F.2 hc
    refine x_iload_n dX10_today_8 rfl ?_
    refine x_sipush dX10_today_9 ks_30000 (i32_of rfl) ?_
    refine x_icmp_le 17 dX10_today_12 rfl (fun hc => ?_) (fun hc => ?_)
    · have F := F.1 hc
      refine x_aload_n dX10_today_17 rfl ?_
      refine x_iload_n dX10_today_18 rfl ?_
      refine x_puti 0 fwX10_241 dX10_today_19 (sW0 hW) (gW0 hW) (fun h => Bool.noConfusion h) (Nat.le_of_ble_eq_true rfl) rfl (Or.inl ⟨rfl, Or.inl rfl⟩) ?_
      refine x_iconst dX10_today_22 rfl (i32_of rfl) ?_
      exact x_ret (some (0, 1)) rfl ⟨dX10_today_23, Or.inr ⟨rfl, Or.inr rfl⟩⟩ F
    · have F := F.2 hc
      refine x_iconst dX10_today_15 rfl (i32_of rfl) ?_
      exact x_ret (some (0, 0)) rfl ⟨dX10_today_16, Or.inr ⟨rfl, Or.inl rfl⟩⟩ F

set_option maxRecDepth 100000 in
set_option maxHeartbeats 4000000 in
theorem bX10_fed_0 {d mc ms : Nat} {X : XX} {v : VV} {Q : QQ} (a1 : Int) (a2 : Int) (a3 : Int) (hd : 3 ≤ d) (hW : SW X) (F : i32 a1 → i32 a2 → i32 a3 → ∃ P1 : Option AV → VV → Prop, Con mX10_tableAt 0 0 0 [(2, 0), (0, a1)] X v (fun o X1 v1 => X1 = X ∧ P1 o v1) ∧ ∀ (r2 : Int) (w3 : VV), P1 (some (2, r2)) w3 → (((r2 = -1) → Q (some (0, 0)) X w3) ∧ ((¬ r2 = -1) → X.1.2 r2 = (7, 0) ∧ (0 ≤ r2 ∧ r2 < X.1.1) ∧ ((((w3 r2 5) = 0) → (((a2 < 0) → Q (some (0, 0)) X w3) ∧ ((0 ≤ a2) → (((a3 < a2) → Q (some (0, 0)) X w3) ∧ ((a2 ≤ a3) → (((a3 ≤ (w3 0 13)) → ∃ P6 : Option AV → VV → Prop, Con mX10_settleViews 2 0 0 [(2, 0)] X (upd2 (upd2 w3 r2 6 a2) r2 7 a3) (fun o X1 v1 => X1 = X ∧ P6 o v1) ∧ ∀ (w8 : VV), P6 none w8 → Q (some (0, 1)) X w8) ∧ (((w3 0 13) < a3) → Q (some (0, 0)) X w3))))))) ∧ ((¬ (w3 r2 5) = 0) → Q (some (0, 0)) X w3))))) : Ex mX10_fed d 0 [(2, 0), (0, a1), (0, a2), (0, a3), (3, 0)] [] X v mc ms Q := by
  refine x_li32 (i := 1) rfl (fun ha1 => ?_)
  have F := F ha1
  refine x_li32 (i := 2) rfl (fun ha2 => ?_)
  have F := F ha2
  refine x_li32 (i := 3) rfl (fun ha3 => ?_)
  have F := F ha3
  refine x_aload_n dX10_fed_0 rfl ?_
  refine x_iload_n dX10_fed_1 rfl ?_
  obtain ⟨P1, hC, F⟩ := F
  refine x_inv dY40_fed_2 mlY40_143 hC (sW0 hW) (Nat.le_of_ble_eq_true rfl) (gW0 hW) rfl rfl (by omega) (Nat.zero_le _) (Nat.zero_le _) (Nat.le_of_ble_eq_true rfl) (fun o1 Y4 w3 ht hP => ?_)
  obtain ⟨r2, rfl⟩ : ∃ i, o1 = some (2, i) := ht
  obtain ⟨rfl, hP⟩ := hP
  have F := F r2 w3 hP
  refine x_astore [(2, 0), (0, a1), (0, a2), (0, a3), (2, r2)] dX10_fed_5 rfl (Nat.le_of_ble_eq_true rfl) ?_
  refine x_aload dX10_fed_7 rfl ?_
  refine x_ifnull 20 dX10_fed_9 rfl (fun hc => ?_) (fun hc => ?_)
  · have F := F.1 hc
    refine x_iconst dX10_fed_20 rfl (i32_of rfl) ?_
    exact x_ret (some (0, 0)) rfl ⟨dX10_fed_21, Or.inr ⟨rfl, Or.inl rfl⟩⟩ F
  · have F := F.2 hc
    refine x_aload dX10_fed_12 rfl ?_
    obtain ⟨hs5, hr5, F⟩ := F
    refine x_geti (e := (w3 r2 5)) 0 flX10_147 dX10_fed_14 hs5 hr5 rfl rfl (Nat.le_of_ble_eq_true rfl) (tagn2 rfl) ?_
    refine x_if_eq 22 dX10_fed_17 rfl (fun hc => ?_) (fun hc => ?_)
    · have F := F.1 hc
      refine x_iload_n dX10_fed_22 rfl ?_
      refine x_if_lt 39 dX10_fed_23 rfl (fun hc => ?_) (fun hc => ?_)
      · have F := F.1 hc
        refine x_iconst dX10_fed_39 rfl (i32_of rfl) ?_
        exact x_ret (some (0, 0)) rfl ⟨dX10_fed_40, Or.inr ⟨rfl, Or.inl rfl⟩⟩ F
      · have F := F.2 hc
        refine x_iload_n dX10_fed_26 rfl ?_
        refine x_iload_n dX10_fed_27 rfl ?_
        refine x_icmp_gt 39 dX10_fed_28 rfl (fun hc => ?_) (fun hc => ?_)
        · have F := F.1 hc
          refine x_iconst dX10_fed_39 rfl (i32_of rfl) ?_
          exact x_ret (some (0, 0)) rfl ⟨dX10_fed_40, Or.inr ⟨rfl, Or.inl rfl⟩⟩ F
        · have F := F.2 hc
          refine x_iload_n dX10_fed_31 rfl ?_
          refine x_aload_n dX10_fed_32 rfl ?_
          refine x_geti (e := (w3 0 13)) 0 flX10_241 dX10_fed_33 (sW0 hW) (gW0 hW) rfl rfl (Nat.le_of_ble_eq_true rfl) (tagn2 rfl) ?_
          refine x_icmp_le 41 dX10_fed_36 rfl (fun hc => ?_) (fun hc => ?_)
          · have F := F.1 hc
            refine x_aload dX10_fed_41 rfl ?_
            refine x_iload_n dX10_fed_43 rfl ?_
            refine x_puti 0 fwX10_160 dX10_fed_44 hs5 hr5 (fun h => Bool.noConfusion h) (Nat.le_of_ble_eq_true rfl) rfl (Or.inl ⟨rfl, Or.inl rfl⟩) ?_
            refine x_aload dX10_fed_47 rfl ?_
            refine x_iload_n dX10_fed_49 rfl ?_
            refine x_puti 0 fwX10_163 dX10_fed_50 hs5 hr5 (fun h => Bool.noConfusion h) (Nat.le_of_ble_eq_true rfl) rfl (Or.inl ⟨rfl, Or.inl rfl⟩) ?_
            refine x_aload_n dX10_fed_53 rfl ?_
            obtain ⟨P6, hC, F⟩ := F
            refine x_inv dY90_fed_54 mlY90_244 hC (sW0 hW) (Nat.le_of_ble_eq_true rfl) (gW0 hW) rfl rfl (by omega) (Nat.zero_le _) (Nat.zero_le _) (Nat.le_of_ble_eq_true rfl) (fun o1 Y9 w8 ht hP => ?_)
            obtain rfl : o1 = none := ht
            obtain ⟨rfl, hP⟩ := hP
            have F := F w8 hP
            refine x_iconst dX10_fed_57 rfl (i32_of rfl) ?_
            exact x_ret (some (0, 1)) rfl ⟨dX10_fed_58, Or.inr ⟨rfl, Or.inr rfl⟩⟩ F
          · have F := F.2 hc
            refine x_iconst dX10_fed_39 rfl (i32_of rfl) ?_
            exact x_ret (some (0, 0)) rfl ⟨dX10_fed_40, Or.inr ⟨rfl, Or.inl rfl⟩⟩ F
    · have F := F.2 hc
      refine x_iconst dX10_fed_20 rfl (i32_of rfl) ?_
      exact x_ret (some (0, 0)) rfl ⟨dX10_fed_21, Or.inr ⟨rfl, Or.inl rfl⟩⟩ F

set_option maxRecDepth 100000 in
set_option maxHeartbeats 4000000 in
theorem bX10_run_0 {d mc ms : Nat} {X : XX} {v : VV} {Q : QQ} (a1 : Int) (hd : 3 ≤ d) (hW : SW X) (F : i32 a1 → ∃ P1 : Option AV → VV → Prop, Con mX10_tableAt 0 0 0 [(2, 0), (0, a1)] X v (fun o X1 v1 => X1 = X ∧ P1 o v1) ∧ ∀ (r2 : Int) (w3 : VV), P1 (some (2, r2)) w3 → (((r2 = -1) → Q (some (0, 0)) X w3) ∧ ((¬ r2 = -1) → X.1.2 r2 = (7, 0) ∧ (0 ≤ r2 ∧ r2 < X.1.1) ∧ (((¬ (w3 r2 5) = 2) → Q (some (0, 0)) X w3) ∧ (((w3 r2 5) = 2) → ∃ P6 : Option AV → VV → Prop, Con mX10_takeAgeFromBehind 1 0 0 [(2, 0), (2, r2)] X w3 (fun o X1 v1 => X1 = X ∧ P6 o v1) ∧ ∀ (r7 : Int) (w8 : VV), P6 (some (0, r7)) w8 → (((¬ r7 = 0) → ∃ P10 : Option AV → VV → Prop, Con mX10_settleViews 2 0 0 [(2, 0)] X w8 (fun o X1 v1 => X1 = X ∧ P10 o v1) ∧ ∀ (w12 : VV), P10 none w12 → Q (some (0, 1)) X w12) ∧ ((r7 = 0) → Q (some (0, 0)) X w8))))))) : Ex mX10_run d 0 [(2, 0), (0, a1), (3, 0)] [] X v mc ms Q := by
  refine x_li32 (i := 1) rfl (fun ha1 => ?_)
  have F := F ha1
  refine x_aload_n dX10_run_0 rfl ?_
  refine x_iload_n dX10_run_1 rfl ?_
  obtain ⟨P1, hC, F⟩ := F
  refine x_inv dY40_run_2 mlY40_143 hC (sW0 hW) (Nat.le_of_ble_eq_true rfl) (gW0 hW) rfl rfl (by omega) (Nat.zero_le _) (Nat.zero_le _) (Nat.le_of_ble_eq_true rfl) (fun o1 Y4 w3 ht hP => ?_)
  obtain ⟨r2, rfl⟩ : ∃ i, o1 = some (2, i) := ht
  obtain ⟨rfl, hP⟩ := hP
  have F := F r2 w3 hP
  refine x_astore_n [(2, 0), (0, a1), (2, r2)] dX10_run_5 rfl (Nat.le_of_ble_eq_true rfl) ?_
  refine x_aload_n dX10_run_6 rfl ?_
  refine x_ifnull 26 dX10_run_7 rfl (fun hc => ?_) (fun hc => ?_)
  · have F := F.1 hc
    refine x_iconst dX10_run_26 rfl (i32_of rfl) ?_
    exact x_ret (some (0, 0)) rfl ⟨dX10_run_27, Or.inr ⟨rfl, Or.inl rfl⟩⟩ F
  · have F := F.2 hc
    refine x_aload_n dX10_run_10 rfl ?_
    obtain ⟨hs5, hr5, F⟩ := F
    refine x_geti (e := (w3 r2 5)) 0 flX10_147 dX10_run_11 hs5 hr5 rfl rfl (Nat.le_of_ble_eq_true rfl) (tagn2 rfl) ?_
    refine x_iconst dX10_run_14 rfl (i32_of rfl) ?_
    refine x_icmp_ne 26 dX10_run_15 rfl (fun hc => ?_) (fun hc => ?_)
    · have F := F.1 hc
      refine x_iconst dX10_run_26 rfl (i32_of rfl) ?_
      exact x_ret (some (0, 0)) rfl ⟨dX10_run_27, Or.inr ⟨rfl, Or.inl rfl⟩⟩ F
    · have F := F.2 hc
      refine x_aload_n dX10_run_18 rfl ?_
      refine x_aload_n dX10_run_19 rfl ?_
      obtain ⟨P6, hC, F⟩ := F
      refine x_inv dY90_run_20 mlY90_247 hC (sW0 hW) (Nat.le_of_ble_eq_true rfl) (gW0 hW) rfl rfl (by omega) (Nat.zero_le _) (Nat.zero_le _) (Nat.le_of_ble_eq_true rfl) (fun o1 Y9 w8 ht hP => ?_)
      obtain ⟨r7, rfl⟩ : ∃ i, o1 = some (0, i) := ht
      obtain ⟨rfl, hP⟩ := hP
      have F := F r7 w8 hP
      refine x_if_ne 28 dX10_run_23 rfl (fun hc => ?_) (fun hc => ?_)
      · have F := F.1 hc
        refine x_aload_n dX10_run_28 rfl ?_
        obtain ⟨P10, hC, F⟩ := F
        refine x_inv dY130_run_29 mlY130_244 hC (sW0 hW) (Nat.le_of_ble_eq_true rfl) (gW0 hW) rfl rfl (by omega) (Nat.zero_le _) (Nat.zero_le _) (Nat.le_of_ble_eq_true rfl) (fun o1 Y13 w12 ht hP => ?_)
        obtain rfl : o1 = none := ht
        obtain ⟨rfl, hP⟩ := hP
        have F := F w12 hP
        refine x_iconst dX10_run_32 rfl (i32_of rfl) ?_
        exact x_ret (some (0, 1)) rfl ⟨dX10_run_33, Or.inr ⟨rfl, Or.inr rfl⟩⟩ F
      · have F := F.2 hc
        refine x_iconst dX10_run_26 rfl (i32_of rfl) ?_
        exact x_ret (some (0, 0)) rfl ⟨dX10_run_27, Or.inr ⟨rfl, Or.inl rfl⟩⟩ F

set_option maxRecDepth 100000 in
set_option maxHeartbeats 4000000 in
theorem bX10_promise_0 {d mc ms : Nat} {X : XX} {v : VV} {Q : QQ} (a1 : Int) (a2 : Int) (hd : 1 ≤ d) (hW : SW X) (F : i32 a1 → i32 a2 → ∃ P1 : Option AV → VV → Prop, Con mX10_tableAt 0 0 0 [(2, 0), (0, a1)] X v (fun o X1 v1 => X1 = X ∧ P1 o v1) ∧ ∀ (r2 : Int) (w3 : VV), P1 (some (2, r2)) w3 → (((r2 = -1) → Q (some (0, 0)) X w3) ∧ ((¬ r2 = -1) → (((a2 < (-1)) → Q (some (0, 0)) X w3) ∧ (((-1) ≤ a2) → (((a2 ≤ 1000) → X.1.2 r2 = (7, 0) ∧ (0 ≤ r2 ∧ r2 < X.1.1) ∧ Q (some (0, 1)) X (upd2 w3 r2 9 a2)) ∧ ((1000 < a2) → Q (some (0, 0)) X w3))))))) : Ex mX10_promise d 0 [(2, 0), (0, a1), (0, a2), (3, 0)] [] X v mc ms Q := by
  refine x_li32 (i := 1) rfl (fun ha1 => ?_)
  have F := F ha1
  refine x_li32 (i := 2) rfl (fun ha2 => ?_)
  have F := F ha2
  refine x_aload_n dX10_promise_0 rfl ?_
  refine x_iload_n dX10_promise_1 rfl ?_
  obtain ⟨P1, hC, F⟩ := F
  refine x_inv dY40_promise_2 mlY40_143 hC (sW0 hW) (Nat.le_of_ble_eq_true rfl) (gW0 hW) rfl rfl (by omega) (Nat.zero_le _) (Nat.zero_le _) (Nat.le_of_ble_eq_true rfl) (fun o1 Y4 w3 ht hP => ?_)
  obtain ⟨r2, rfl⟩ : ∃ i, o1 = some (2, i) := ht
  obtain ⟨rfl, hP⟩ := hP
  have F := F r2 w3 hP
  refine x_astore_n [(2, 0), (0, a1), (0, a2), (2, r2)] dX10_promise_5 rfl (Nat.le_of_ble_eq_true rfl) ?_
  refine x_aload_n dX10_promise_6 rfl ?_
  refine x_ifnull 22 dX10_promise_7 rfl (fun hc => ?_) (fun hc => ?_)
  · have F := F.1 hc
    refine x_iconst dX10_promise_22 rfl (i32_of rfl) ?_
    exact x_ret (some (0, 0)) rfl ⟨dX10_promise_23, Or.inr ⟨rfl, Or.inl rfl⟩⟩ F
  · have F := F.2 hc
    refine x_iload_n dX10_promise_10 rfl ?_
    refine x_iconst dX10_promise_11 rfl (i32_of rfl) ?_
    refine x_icmp_lt 22 dX10_promise_12 rfl (fun hc => ?_) (fun hc => ?_)
    · have F := F.1 hc
      refine x_iconst dX10_promise_22 rfl (i32_of rfl) ?_
      exact x_ret (some (0, 0)) rfl ⟨dX10_promise_23, Or.inr ⟨rfl, Or.inl rfl⟩⟩ F
    · have F := F.2 hc
      refine x_iload_n dX10_promise_15 rfl ?_
      refine x_sipush dX10_promise_16 ks_1000 (i32_of rfl) ?_
      refine x_icmp_le 24 dX10_promise_19 rfl (fun hc => ?_) (fun hc => ?_)
      · have F := F.1 hc
        refine x_aload_n dX10_promise_24 rfl ?_
        refine x_iload_n dX10_promise_25 rfl ?_
        obtain ⟨hs5, hr5, F⟩ := F
        refine x_puti 0 fwX10_169 dX10_promise_26 hs5 hr5 (fun h => Bool.noConfusion h) (Nat.le_of_ble_eq_true rfl) rfl (Or.inl ⟨rfl, Or.inl rfl⟩) ?_
        refine x_iconst dX10_promise_29 rfl (i32_of rfl) ?_
        exact x_ret (some (0, 1)) rfl ⟨dX10_promise_30, Or.inr ⟨rfl, Or.inr rfl⟩⟩ F
      · have F := F.2 hc
        refine x_iconst dX10_promise_22 rfl (i32_of rfl) ?_
        exact x_ret (some (0, 0)) rfl ⟨dX10_promise_23, Or.inr ⟨rfl, Or.inl rfl⟩⟩ F

set_option maxRecDepth 100000 in
set_option maxHeartbeats 4000000 in
theorem bX10_broken_0 {d mc ms : Nat} {X : XX} {v : VV} {Q : QQ} (hd : 2 ≤ d) (hW : SW X) (F : ∃ P1 : Option AV → VV → Prop, Con mX6_cutTo 0 0 0 [(2, 43), (0, 0)] X v (fun o X1 v1 => X1 = X ∧ P1 o v1) ∧ ∀ (w3 : VV), P1 none w3 → Ex mX10_broken d 10 [(2, 0), (0, 0)] [] X w3 mc ms Q) : Ex mX10_broken d 0 [(2, 0), (3, 0)] [] X v mc ms Q := by
  refine x_aload_n dX10_broken_0 rfl ?_
  refine x_getr (r' := 43) flX10_65 dX10_broken_1 (sW0 hW) (gW0 hW) (rW0_9 hW) rfl (Nat.le_of_ble_eq_true rfl) ?_
  refine x_iconst dX10_broken_4 rfl (i32_of rfl) ?_
  obtain ⟨P1, hC, F⟩ := F
  refine x_inv dY40_broken_5 mlY40_82 hC (sW43 hW) (Nat.le_of_ble_eq_true rfl) (gW43 hW) rfl rfl (by omega) (Nat.zero_le _) (Nat.zero_le _) (Nat.le_of_ble_eq_true rfl) (fun o1 Y4 w3 ht hP => ?_)
  obtain rfl : o1 = none := ht
  obtain ⟨rfl, hP⟩ := hP
  have F := F w3 hP
  refine x_iconst dX10_broken_8 rfl (i32_of rfl) ?_
  refine x_istore_n [(2, 0), (0, 0)] dX10_broken_9 rfl (Nat.le_of_ble_eq_true rfl) ?_
  exact F

set_option maxRecDepth 100000 in
set_option maxHeartbeats 4000000 in
theorem bX10_broken_10 {d mc ms : Nat} {X : XX} {v : VV} {Q : QQ} (x1 : Int) (hd : 2 ≤ d) (hW : SW X) (F : i32 x1 → (((16 ≤ x1) → ∃ P5 : Option AV → VV → Prop, Con mX6_size 0 0 0 [(2, 43)] X v (fun o X1 v1 => X1 = X ∧ P5 o v1) ∧ ∀ (r6 : Int) (w7 : VV), P5 (some (0, r6)) w7 → Q (some (0, r6)) X w7) ∧ ((x1 < 16) → (0 ≤ x1 ∧ x1 < 16) ∧ ∃ P9 : Option AV → VV → Prop, Con mX10_isBroken 1 0 0 [(2, 0), (2, (X.2 37 x1))] X v (fun o X1 v1 => X1 = X ∧ P9 o v1) ∧ ∀ (r10 : Int) (w11 : VV), P9 (some (0, r10)) w11 → (((r10 = 0) → i32 (x1 + 1) ∧ Ex mX10_broken d 10 [(2, 0), (0, (x1 + 1))] [] X w11 mc ms Q) ∧ ((¬ r10 = 0) → ∃ P13 : Option AV → VV → Prop, Con mX6_add 0 0 0 [(2, 43), (0, x1)] X w11 (fun o X1 v1 => X1 = X ∧ P13 o v1) ∧ ∀ (w15 : VV), P13 none w15 → i32 (x1 + 1) ∧ Ex mX10_broken d 10 [(2, 0), (0, (x1 + 1))] [] X w15 mc ms Q))))) : Ex mX10_broken d 10 [(2, 0), (0, x1)] [] X v mc ms Q := by
  refine x_li32 (i := 1) rfl (fun hx1 => ?_)
  have F := F hx1
  refine x_iload_n dX10_broken_10 rfl ?_
  refine x_bipush dX10_broken_11 kb_16 (i32_of rfl) ?_
  refine x_icmp_ge 43 dX10_broken_13 rfl (fun hc => ?_) (fun hc => ?_)
  · have F := F.1 hc
    refine x_aload_n dX10_broken_43 rfl ?_
    refine x_getr (r' := 43) flX10_65 dX10_broken_44 (sW0 hW) (gW0 hW) (rW0_9 hW) rfl (Nat.le_of_ble_eq_true rfl) ?_
    obtain ⟨P5, hC, F⟩ := F
    refine x_inv dY80_broken_47 mlY80_75 hC (sW43 hW) (Nat.le_of_ble_eq_true rfl) (gW43 hW) rfl rfl (by omega) (Nat.zero_le _) (Nat.zero_le _) (Nat.le_of_ble_eq_true rfl) (fun o1 Y8 w7 ht hP => ?_)
    obtain ⟨r6, rfl⟩ : ∃ i, o1 = some (0, i) := ht
    obtain ⟨rfl, hP⟩ := hP
    have F := F r6 w7 hP
    exact x_ret (some (0, r6)) rfl ⟨dX10_broken_50, Or.inl rfl⟩ F
  · have F := F.2 hc
    refine x_aload_n dX10_broken_16 rfl ?_
    refine x_aload_n dX10_broken_17 rfl ?_
    refine x_getr (r' := 37) flX10_41 dX10_broken_18 (sW0 hW) (gW0 hW) (rW0_4 hW) rfl (Nat.le_of_ble_eq_true rfl) ?_
    refine x_iload_n dX10_broken_21 rfl ?_
    obtain ⟨hi, F⟩ := F
    refine x_aald (r' := (X.2 37 x1)) dX10_broken_22 (sW37 hW) (by decide) (gW37 hW) hi rfl ?_
    obtain ⟨P9, hC, F⟩ := F
    refine x_inv dY120_broken_23 mlY120_251 hC (sW0 hW) (Nat.le_of_ble_eq_true rfl) (gW0 hW) rfl rfl (by omega) (Nat.zero_le _) (Nat.zero_le _) (Nat.le_of_ble_eq_true rfl) (fun o1 Y12 w11 ht hP => ?_)
    obtain ⟨r10, rfl⟩ : ∃ i, o1 = some (0, i) := ht
    obtain ⟨rfl, hP⟩ := hP
    have F := F r10 w11 hP
    refine x_if_eq 37 dX10_broken_26 rfl (fun hc => ?_) (fun hc => ?_)
    · have F := F.1 hc
      obtain ⟨hz, F⟩ := F
      refine x_iinc [(2, 0), (0, (x1 + 1))] dX10_broken_37 rfl rfl (Nat.le_of_ble_eq_true rfl) hz ?_
      refine x_goto 10 dX10_broken_40 rfl ?_
      exact F
    · have F := F.2 hc
      refine x_aload_n dX10_broken_29 rfl ?_
      refine x_getr (r' := 43) flX10_65 dX10_broken_30 (sW0 hW) (gW0 hW) (rW0_9 hW) rfl (Nat.le_of_ble_eq_true rfl) ?_
      refine x_iload_n dX10_broken_33 rfl ?_
      obtain ⟨P13, hC, F⟩ := F
      refine x_inv dY160_broken_34 mlY160_212 hC (sW43 hW) (Nat.le_of_ble_eq_true rfl) (gW43 hW) rfl rfl (by omega) (Nat.zero_le _) (Nat.zero_le _) (Nat.le_of_ble_eq_true rfl) (fun o1 Y16 w15 ht hP => ?_)
      obtain rfl : o1 = none := ht
      obtain ⟨rfl, hP⟩ := hP
      have F := F w15 hP
      obtain ⟨hz, F⟩ := F
      refine x_iinc [(2, 0), (0, (x1 + 1))] dX10_broken_37 rfl rfl (Nat.le_of_ble_eq_true rfl) hz ?_
      refine x_goto 10 dX10_broken_40 rfl ?_
      exact F

set_option maxRecDepth 100000 in
set_option maxHeartbeats 4000000 in
theorem bX10_late_0 {d mc ms : Nat} {X : XX} {v : VV} {Q : QQ} (a1 : Int) (hd : 2 ≤ d) (hW : SW X) (F : i32 a1 → ∃ P1 : Option AV → VV → Prop, Con mX10_tableAt 0 0 0 [(2, 0), (0, a1)] X v (fun o X1 v1 => X1 = X ∧ P1 o v1) ∧ ∀ (r2 : Int) (w3 : VV), P1 (some (2, r2)) w3 → (((r2 = -1) → Q (some (0, (-1))) X w3) ∧ ((¬ r2 = -1) → ∃ P5 : Option AV → VV → Prop, Con mX10_isBroken 1 0 0 [(2, 0), (2, r2)] X w3 (fun o X1 v1 => X1 = X ∧ P5 o v1) ∧ ∀ (r6 : Int) (w7 : VV), P5 (some (0, r6)) w7 → (((¬ r6 = 0) → X.1.2 r2 = (7, 0) ∧ (0 ≤ r2 ∧ r2 < X.1.1) ∧ (i32 (w7 r2 9) → i32 (w7 0 13) → i32 ((w7 0 13) - (w7 r2 9))) ∧ Ex mX10_late d 39 [(2, 0), (0, a1), (2, r2), (0, ((w7 0 13) - (w7 r2 9))), (0, a1), (0, a1), (0, 0)] [] X w7 mc ms Q) ∧ ((r6 = 0) → Q (some (0, (-1))) X w7))))) : Ex mX10_late d 0 [(2, 0), (0, a1), (3, 0), (3, 0), (3, 0), (3, 0), (3, 0)] [] X v mc ms Q := by
  refine x_li32 (i := 1) rfl (fun ha1 => ?_)
  have F := F ha1
  refine x_aload_n dX10_late_0 rfl ?_
  refine x_iload_n dX10_late_1 rfl ?_
  obtain ⟨P1, hC, F⟩ := F
  refine x_inv dY40_late_2 mlY40_143 hC (sW0 hW) (Nat.le_of_ble_eq_true rfl) (gW0 hW) rfl rfl (by omega) (Nat.zero_le _) (Nat.zero_le _) (Nat.le_of_ble_eq_true rfl) (fun o1 Y4 w3 ht hP => ?_)
  obtain ⟨r2, rfl⟩ : ∃ i, o1 = some (2, i) := ht
  obtain ⟨rfl, hP⟩ := hP
  have F := F r2 w3 hP
  refine x_astore_n [(2, 0), (0, a1), (2, r2), (3, 0), (3, 0), (3, 0), (3, 0)] dX10_late_5 rfl (Nat.le_of_ble_eq_true rfl) ?_
  refine x_aload_n dX10_late_6 rfl ?_
  refine x_ifnull 18 dX10_late_7 rfl (fun hc => ?_) (fun hc => ?_)
  · have F := F.1 hc
    refine x_iconst dX10_late_18 rfl (i32_of rfl) ?_
    exact x_ret (some (0, (-1))) rfl ⟨dX10_late_19, Or.inl rfl⟩ F
  · have F := F.2 hc
    refine x_aload_n dX10_late_10 rfl ?_
    refine x_aload_n dX10_late_11 rfl ?_
    obtain ⟨P5, hC, F⟩ := F
    refine x_inv dY80_late_12 mlY80_251 hC (sW0 hW) (Nat.le_of_ble_eq_true rfl) (gW0 hW) rfl rfl (by omega) (Nat.zero_le _) (Nat.zero_le _) (Nat.le_of_ble_eq_true rfl) (fun o1 Y8 w7 ht hP => ?_)
    obtain ⟨r6, rfl⟩ : ∃ i, o1 = some (0, i) := ht
    obtain ⟨rfl, hP⟩ := hP
    have F := F r6 w7 hP
    refine x_if_ne 20 dX10_late_15 rfl (fun hc => ?_) (fun hc => ?_)
    · have F := F.1 hc
      refine x_aload_n dX10_late_20 rfl ?_
      refine x_geti (e := (w7 0 13)) 0 flX10_241 dX10_late_21 (sW0 hW) (gW0 hW) rfl rfl (Nat.le_of_ble_eq_true rfl) (tagn2 rfl) ?_
      refine x_aload_n dX10_late_24 rfl ?_
      obtain ⟨hs9, hr9, F⟩ := F
      refine x_geti (e := (w7 r2 9)) 0 flX10_169 dX10_late_25 hs9 hr9 rfl rfl (Nat.le_of_ble_eq_true rfl) (tagn2 rfl) ?_
      refine x_si32 (i := 0) rfl (fun hk0 => ?_)
      refine x_si32 (i := 1) rfl (fun hk1 => ?_)
      obtain ⟨hz, F⟩ := F
      have hz := hz hk0 hk1
      refine x_isub dX10_late_28 hz ?_
      refine x_istore_n [(2, 0), (0, a1), (2, r2), (0, ((w7 0 13) - (w7 r2 9))), (3, 0), (3, 0), (3, 0)] dX10_late_29 rfl (Nat.le_of_ble_eq_true rfl) ?_
      refine x_iload_n dX10_late_30 rfl ?_
      refine x_istore [(2, 0), (0, a1), (2, r2), (0, ((w7 0 13) - (w7 r2 9))), (0, a1), (3, 0), (3, 0)] dX10_late_31 rfl (Nat.le_of_ble_eq_true rfl) ?_
      refine x_iload_n dX10_late_33 rfl ?_
      refine x_istore [(2, 0), (0, a1), (2, r2), (0, ((w7 0 13) - (w7 r2 9))), (0, a1), (0, a1), (3, 0)] dX10_late_34 rfl (Nat.le_of_ble_eq_true rfl) ?_
      refine x_iconst dX10_late_36 rfl (i32_of rfl) ?_
      refine x_istore [(2, 0), (0, a1), (2, r2), (0, ((w7 0 13) - (w7 r2 9))), (0, a1), (0, a1), (0, 0)] dX10_late_37 rfl (Nat.le_of_ble_eq_true rfl) ?_
      exact F
    · have F := F.2 hc
      refine x_iconst dX10_late_18 rfl (i32_of rfl) ?_
      exact x_ret (some (0, (-1))) rfl ⟨dX10_late_19, Or.inl rfl⟩ F

set_option maxRecDepth 100000 in
set_option maxHeartbeats 4000000 in
theorem bX10_late_39 {d mc ms : Nat} {X : XX} {v : VV} {Q : QQ} (a1 : Int) (x2 : Int) (x3 : Int) (x4 : Int) (x5 : Int) (x6 : Int) (hd : 2 ≤ d) (hW : SW X) (F : i32 a1 → i32 x3 → i32 x4 → i32 x5 → i32 x6 → (((16 ≤ x6) → Q (some (0, x4)) X v) ∧ ((x6 < 16) → (((x5 = (-1)) → Q (some (0, x4)) X v) ∧ ((¬ x5 = (-1)) → ∃ P10 : Option AV → VV → Prop, Con mX10_firstLateBehind 1 0 0 [(2, 0), (0, x5), (0, x3)] X v (fun o X1 v1 => X1 = X ∧ P10 o v1) ∧ ∀ (r11 : Int) (w12 : VV), P10 (some (0, r11)) w12 → i32 (x6 + 1) ∧ Ex mX10_late d 39 [(2, 0), (0, a1), (2, x2), (0, x3), (0, x5), (0, r11), (0, (x6 + 1))] [] X w12 mc ms Q))))) : Ex mX10_late d 39 [(2, 0), (0, a1), (2, x2), (0, x3), (0, x4), (0, x5), (0, x6)] [] X v mc ms Q := by
  refine x_li32 (i := 1) rfl (fun ha1 => ?_)
  have F := F ha1
  refine x_li32 (i := 3) rfl (fun hx3 => ?_)
  have F := F hx3
  refine x_li32 (i := 4) rfl (fun hx4 => ?_)
  have F := F hx4
  refine x_li32 (i := 5) rfl (fun hx5 => ?_)
  have F := F hx5
  refine x_li32 (i := 6) rfl (fun hx6 => ?_)
  have F := F hx6
  refine x_iload dX10_late_39 rfl ?_
  refine x_bipush dX10_late_41 kb_16 (i32_of rfl) ?_
  refine x_icmp_ge 71 dX10_late_43 rfl (fun hc => ?_) (fun hc => ?_)
  · have F := F.1 hc
    refine x_iload dX10_late_71 rfl ?_
    exact x_ret (some (0, x4)) rfl ⟨dX10_late_73, Or.inl rfl⟩ F
  · have F := F.2 hc
    refine x_iload dX10_late_46 rfl ?_
    refine x_iconst dX10_late_48 rfl (i32_of rfl) ?_
    refine x_icmp_eq 71 dX10_late_49 rfl (fun hc => ?_) (fun hc => ?_)
    · have F := F.1 hc
      refine x_iload dX10_late_71 rfl ?_
      exact x_ret (some (0, x4)) rfl ⟨dX10_late_73, Or.inl rfl⟩ F
    · have F := F.2 hc
      refine x_iload dX10_late_52 rfl ?_
      refine x_istore [(2, 0), (0, a1), (2, x2), (0, x3), (0, x5), (0, x5), (0, x6)] dX10_late_54 rfl (Nat.le_of_ble_eq_true rfl) ?_
      refine x_aload_n dX10_late_56 rfl ?_
      refine x_iload dX10_late_57 rfl ?_
      refine x_iload_n dX10_late_59 rfl ?_
      obtain ⟨P10, hC, F⟩ := F
      refine x_inv dY130_late_60 mlY130_254 hC (sW0 hW) (Nat.le_of_ble_eq_true rfl) (gW0 hW) rfl rfl (by omega) (Nat.zero_le _) (Nat.zero_le _) (Nat.le_of_ble_eq_true rfl) (fun o1 Y13 w12 ht hP => ?_)
      obtain ⟨r11, rfl⟩ : ∃ i, o1 = some (0, i) := ht
      obtain ⟨rfl, hP⟩ := hP
      have F := F r11 w12 hP
      refine x_istore [(2, 0), (0, a1), (2, x2), (0, x3), (0, x5), (0, r11), (0, x6)] dX10_late_63 rfl (Nat.le_of_ble_eq_true rfl) ?_
      obtain ⟨hz, F⟩ := F
      refine x_iinc [(2, 0), (0, a1), (2, x2), (0, x3), (0, x5), (0, r11), (0, (x6 + 1))] dX10_late_65 rfl rfl (Nat.le_of_ble_eq_true rfl) hz ?_
      refine x_goto 39 dX10_late_68 rfl ?_
      exact F

set_option maxRecDepth 100000 in
set_option maxHeartbeats 4000000 in
theorem bX10_own_0 {d mc ms : Nat} {X : XX} {v : VV} {Q : QQ} (a1 : Int) (a2 : Int) (hd : 1 ≤ d) (hW : SW X) (F : i32 a1 → i32 a2 → ∃ P1 : Option AV → VV → Prop, Con mX10_tableAt 0 0 0 [(2, 0), (0, a1)] X v (fun o X1 v1 => X1 = X ∧ P1 o v1) ∧ ∀ (r2 : Int) (w3 : VV), P1 (some (2, r2)) w3 → (((r2 = -1) → Q (some (0, 0)) X w3) ∧ ((¬ r2 = -1) → (((a2 < (-1)) → Q (some (0, 0)) X w3) ∧ (((-1) ≤ a2) → (((a2 ≤ 9) → X.1.2 r2 = (7, 0) ∧ (0 ≤ r2 ∧ r2 < X.1.1) ∧ Q (some (0, 1)) X (upd2 w3 r2 8 a2)) ∧ ((9 < a2) → Q (some (0, 0)) X w3))))))) : Ex mX10_own d 0 [(2, 0), (0, a1), (0, a2), (3, 0)] [] X v mc ms Q := by
  refine x_li32 (i := 1) rfl (fun ha1 => ?_)
  have F := F ha1
  refine x_li32 (i := 2) rfl (fun ha2 => ?_)
  have F := F ha2
  refine x_aload_n dX10_own_0 rfl ?_
  refine x_iload_n dX10_own_1 rfl ?_
  obtain ⟨P1, hC, F⟩ := F
  refine x_inv dY40_own_2 mlY40_143 hC (sW0 hW) (Nat.le_of_ble_eq_true rfl) (gW0 hW) rfl rfl (by omega) (Nat.zero_le _) (Nat.zero_le _) (Nat.le_of_ble_eq_true rfl) (fun o1 Y4 w3 ht hP => ?_)
  obtain ⟨r2, rfl⟩ : ∃ i, o1 = some (2, i) := ht
  obtain ⟨rfl, hP⟩ := hP
  have F := F r2 w3 hP
  refine x_astore_n [(2, 0), (0, a1), (0, a2), (2, r2)] dX10_own_5 rfl (Nat.le_of_ble_eq_true rfl) ?_
  refine x_aload_n dX10_own_6 rfl ?_
  refine x_ifnull 21 dX10_own_7 rfl (fun hc => ?_) (fun hc => ?_)
  · have F := F.1 hc
    refine x_iconst dX10_own_21 rfl (i32_of rfl) ?_
    exact x_ret (some (0, 0)) rfl ⟨dX10_own_22, Or.inr ⟨rfl, Or.inl rfl⟩⟩ F
  · have F := F.2 hc
    refine x_iload_n dX10_own_10 rfl ?_
    refine x_iconst dX10_own_11 rfl (i32_of rfl) ?_
    refine x_icmp_lt 21 dX10_own_12 rfl (fun hc => ?_) (fun hc => ?_)
    · have F := F.1 hc
      refine x_iconst dX10_own_21 rfl (i32_of rfl) ?_
      exact x_ret (some (0, 0)) rfl ⟨dX10_own_22, Or.inr ⟨rfl, Or.inl rfl⟩⟩ F
    · have F := F.2 hc
      refine x_iload_n dX10_own_15 rfl ?_
      refine x_bipush dX10_own_16 kb_9 (i32_of rfl) ?_
      refine x_icmp_le 23 dX10_own_18 rfl (fun hc => ?_) (fun hc => ?_)
      · have F := F.1 hc
        refine x_aload_n dX10_own_23 rfl ?_
        refine x_iload_n dX10_own_24 rfl ?_
        obtain ⟨hs5, hr5, F⟩ := F
        refine x_puti 0 fwX10_257 dX10_own_25 hs5 hr5 (fun h => Bool.noConfusion h) (Nat.le_of_ble_eq_true rfl) rfl (Or.inl ⟨rfl, Or.inl rfl⟩) ?_
        refine x_iconst dX10_own_28 rfl (i32_of rfl) ?_
        exact x_ret (some (0, 1)) rfl ⟨dX10_own_29, Or.inr ⟨rfl, Or.inr rfl⟩⟩ F
      · have F := F.2 hc
        refine x_iconst dX10_own_21 rfl (i32_of rfl) ?_
        exact x_ret (some (0, 0)) rfl ⟨dX10_own_22, Or.inr ⟨rfl, Or.inl rfl⟩⟩ F

set_option maxRecDepth 100000 in
set_option maxHeartbeats 4000000 in
theorem bX10_ask_0 {d mc ms : Nat} {X : XX} {v : VV} {Q : QQ} (a1 : Int) (a2 : Int) (a3 : Int) (hd : 2 ≤ d) (hW : SW X) (F : i32 a1 → i32 a2 → i32 a3 → ∃ P1 : Option AV → VV → Prop, Con mX10_tableAt 0 0 0 [(2, 0), (0, a2)] X v (fun o X1 v1 => X1 = X ∧ P1 o v1) ∧ ∀ (r2 : Int) (w3 : VV), P1 (some (2, r2)) w3 → (((r2 = -1) → Q (some (0, (-1))) X w3) ∧ ((¬ r2 = -1) → (((a1 < 0) → Q (some (0, (-1))) X w3) ∧ ((0 ≤ a1) → (((9 < a1) → Q (some (0, (-1))) X w3) ∧ ((a1 ≤ 9) → ((((w3 0 12) < 40) → (((a3 ≤ 0) → Q (some (0, (-1))) X w3) ∧ ((0 < a3) → X.1.2 r2 = (7, 0) ∧ (0 ≤ r2 ∧ r2 < X.1.1) ∧ ∃ P6 : Option AV → VV → Prop, Con mX7_columnCount 0 0 0 [(2, r2)] X w3 (fun o X1 v1 => X1 = X ∧ P6 o v1) ∧ ∀ (r7 : Int) (w8 : VV), P6 (some (0, r7)) w8 → ∀ z10 : Int, Int32.ofInt 1 <<< (Int32.ofInt r7 &&& 31) = Int32.ofInt z10 → i32 z10 → (((a3 < z10) → (1 ≤ mc ∧ 3 ≤ ms) ∧ ∃ c17 s18 : Nat, c17 ≤ (mc - 1) ∧ s18 ≤ (ms - 3) ∧ ∃ P13 : QQ, Con mX0_init 1 c17 s18 [(2, (X.1.1 : Int)), (0, a2), (0, a3), (0, ((nV X w8) 0 13))] (nX X 0 0) (nV X w8) P13 ∧ ∀ (Y16 : XX) (w15 : VV), P13 none Y16 w15 → SW Y16 ∧ (0 ≤ (w8 0 12) ∧ (w8 0 12) < 40) ∧ Y16.1.2 (X.1.1 : Int) = (0, 0) ∧ (0 ≤ (X.1.1 : Int) ∧ (X.1.1 : Int) < Y16.1.1) ∧ (i32 (w15 0 12) → i32 ((w15 0 12) + 1)) ∧ (i32 ((w15 0 12) + 1) → i32 (((w15 0 12) + 1) - 1)) ∧ Q (some (0, (((w15 0 12) + 1) - 1))) (Y16.1, upd2 Y16.2 40 (w8 0 12) (X.1.1 : Int)) (upd2 w15 0 12 ((w15 0 12) + 1))) ∧ ((z10 ≤ a3) → Q (some (0, (-1))) X w8))))) ∧ ((40 ≤ (w3 0 12)) → Q (some (0, (-1))) X w3))))))))) : Ex mX10_ask d 0 [(2, 0), (0, a1), (0, a2), (0, a3), (3, 0)] [] X v mc ms Q := by
  refine x_li32 (i := 1) rfl (fun ha1 => ?_)
  have F := F ha1
  refine x_li32 (i := 2) rfl (fun ha2 => ?_)
  have F := F ha2
  refine x_li32 (i := 3) rfl (fun ha3 => ?_)
  have F := F ha3
  refine x_aload_n dX10_ask_0 rfl ?_
  refine x_iload_n dX10_ask_1 rfl ?_
  obtain ⟨P1, hC, F⟩ := F
  refine x_inv dY40_ask_2 mlY40_143 hC (sW0 hW) (Nat.le_of_ble_eq_true rfl) (gW0 hW) rfl rfl (by omega) (Nat.zero_le _) (Nat.zero_le _) (Nat.le_of_ble_eq_true rfl) (fun o1 Y4 w3 ht hP => ?_)
  obtain ⟨r2, rfl⟩ : ∃ i, o1 = some (2, i) := ht
  obtain ⟨rfl, hP⟩ := hP
  have F := F r2 w3 hP
  refine x_astore [(2, 0), (0, a1), (0, a2), (0, a3), (2, r2)] dX10_ask_5 rfl (Nat.le_of_ble_eq_true rfl) ?_
  refine x_aload dX10_ask_7 rfl ?_
  refine x_ifnull 31 dX10_ask_9 rfl (fun hc => ?_) (fun hc => ?_)
  · have F := F.1 hc
    refine x_iconst dX10_ask_31 rfl (i32_of rfl) ?_
    exact x_ret (some (0, (-1))) rfl ⟨dX10_ask_32, Or.inl rfl⟩ F
  · have F := F.2 hc
    refine x_iload_n dX10_ask_12 rfl ?_
    refine x_if_lt 31 dX10_ask_13 rfl (fun hc => ?_) (fun hc => ?_)
    · have F := F.1 hc
      refine x_iconst dX10_ask_31 rfl (i32_of rfl) ?_
      exact x_ret (some (0, (-1))) rfl ⟨dX10_ask_32, Or.inl rfl⟩ F
    · have F := F.2 hc
      refine x_iload_n dX10_ask_16 rfl ?_
      refine x_bipush dX10_ask_17 kb_9 (i32_of rfl) ?_
      refine x_icmp_gt 31 dX10_ask_19 rfl (fun hc => ?_) (fun hc => ?_)
      · have F := F.1 hc
        refine x_iconst dX10_ask_31 rfl (i32_of rfl) ?_
        exact x_ret (some (0, (-1))) rfl ⟨dX10_ask_32, Or.inl rfl⟩ F
      · have F := F.2 hc
        refine x_aload_n dX10_ask_22 rfl ?_
        refine x_geti (e := (w3 0 12)) 0 flX10_260 dX10_ask_23 (sW0 hW) (gW0 hW) rfl rfl (Nat.le_of_ble_eq_true rfl) (tagn2 rfl) ?_
        refine x_bipush dX10_ask_26 kb_40 (i32_of rfl) ?_
        refine x_icmp_lt 33 dX10_ask_28 rfl (fun hc => ?_) (fun hc => ?_)
        · have F := F.1 hc
          refine x_iload_n dX10_ask_33 rfl ?_
          refine x_if_le 48 dX10_ask_34 rfl (fun hc => ?_) (fun hc => ?_)
          · have F := F.1 hc
            refine x_iconst dX10_ask_48 rfl (i32_of rfl) ?_
            exact x_ret (some (0, (-1))) rfl ⟨dX10_ask_49, Or.inl rfl⟩ F
          · have F := F.2 hc
            refine x_iload_n dX10_ask_37 rfl ?_
            refine x_iconst dX10_ask_38 rfl (i32_of rfl) ?_
            refine x_aload dX10_ask_39 rfl ?_
            obtain ⟨hs5, hr5, F⟩ := F
            obtain ⟨P6, hC, F⟩ := F
            refine x_inv dY90_ask_41 mlY90_150 hC hs5 (Nat.le_of_ble_eq_true rfl) hr5 rfl rfl (by omega) (Nat.zero_le _) (Nat.zero_le _) (Nat.le_of_ble_eq_true rfl) (fun o1 Y9 w8 ht hP => ?_)
            obtain ⟨r7, rfl⟩ : ∃ i, o1 = some (0, i) := ht
            obtain ⟨rfl, hP⟩ := hP
            have F := F r7 w8 hP
            obtain ⟨z10, ez10, hz10⟩ := i32_ex (Int32.ofInt 1 <<< (Int32.ofInt r7 &&& 31))
            have F := F z10 ez10 hz10
            refine x_ishl (z := z10) dX10_ask_44 ez10 hz10 ?_
            refine x_icmp_lt 50 dX10_ask_45 rfl (fun hc => ?_) (fun hc => ?_)
            · have F := F.1 hc
              refine x_aload_n dX10_ask_50 rfl ?_
              refine x_getr (r' := 40) flX10_54 dX10_ask_51 (sW0 hW) (gW0 hW) (rW0_7 hW) rfl (Nat.le_of_ble_eq_true rfl) ?_
              refine x_aload_n dX10_ask_54 rfl ?_
              refine x_geti (e := (w8 0 12)) 0 flX10_260 dX10_ask_55 (sW0 hW) (gW0 hW) rfl rfl (Nat.le_of_ble_eq_true rfl) (tagn2 rfl) ?_
              obtain ⟨hb, F⟩ := F
              refine x_new nlX10_52 dX10_ask_58 (by decide) hb.1 hb.2 ?_
              have hW12 : SW (nX X 0 0) := hW.new
              refine x_dup dX10_ask_61 (tag1 rfl) ?_
              refine x_iload_n dX10_ask_62 rfl ?_
              refine x_iload_n dX10_ask_63 rfl ?_
              refine x_aload_n dX10_ask_64 rfl ?_
              refine x_geti (e := ((nV X w8) 0 13)) 0 flX10_241 dX10_ask_65 (sW0 hW12) (gW0 hW12) rfl rfl (Nat.le_of_ble_eq_true rfl) (tagn2 rfl) ?_
              obtain ⟨c17, s18, hc1, hs1_, F⟩ := F
              obtain ⟨P13, hC, F⟩ := F
              refine x_init dY160_ask_68 mlY160_263 hC (nX_in X 0 0).1 rfl rfl (by omega) hc1 hs1_ (Nat.le_of_ble_eq_true rfl) (fun Y16 w15 hP => ?_)
              obtain ⟨hW19, F⟩ := F Y16 w15 hP
              skip
              obtain ⟨hi, F⟩ := F
              obtain ⟨hs21, hr21, F⟩ := F
              refine x_aast dX10_ask_71 (sW40 hW19) (by decide) (gW40 hW19) hi hs21 hr21 ?_
              have hW20 : SW (Y16.1, upd2 Y16.2 40 (w8 0 12) (X.1.1 : Int)) := hW19.ref40 _ _
              refine x_aload_n dX10_ask_72 rfl ?_
              refine x_dup dX10_ask_73 (tag1 rfl) ?_
              refine x_geti (e := (w15 0 12)) 0 flX10_260 dX10_ask_74 (sW0 hW20) (gW0 hW20) rfl rfl (Nat.le_of_ble_eq_true rfl) (tagn2 rfl) ?_
              refine x_iconst dX10_ask_77 rfl (i32_of rfl) ?_
              refine x_si32 (i := 1) rfl (fun hk1 => ?_)
              obtain ⟨hz, F⟩ := F
              have hz := hz hk1
              refine x_iadd dX10_ask_78 hz ?_
              refine x_puti 0 fwX10_260 dX10_ask_79 (sW0 hW20) (gW0 hW20) (fun h => Bool.noConfusion h) (Nat.le_of_ble_eq_true rfl) rfl (Or.inl ⟨rfl, Or.inl rfl⟩) ?_
              refine x_aload_n dX10_ask_82 rfl ?_
              refine x_geti (e := ((w15 0 12) + 1)) 0 flX10_260 dX10_ask_83 (sW0 hW20) (gW0 hW20) rfl rfl (Nat.le_of_ble_eq_true rfl) (tagn2 rfl) ?_
              refine x_iconst dX10_ask_86 rfl (i32_of rfl) ?_
              refine x_si32 (i := 1) rfl (fun hk1 => ?_)
              obtain ⟨hz, F⟩ := F
              have hz := hz hk1
              refine x_isub dX10_ask_87 hz ?_
              exact x_ret (some (0, (((w15 0 12) + 1) - 1))) rfl ⟨dX10_ask_88, Or.inl rfl⟩ F
            · have F := F.2 hc
              refine x_iconst dX10_ask_48 rfl (i32_of rfl) ?_
              exact x_ret (some (0, (-1))) rfl ⟨dX10_ask_49, Or.inl rfl⟩ F
        · have F := F.2 hc
          refine x_iconst dX10_ask_31 rfl (i32_of rfl) ?_
          exact x_ret (some (0, (-1))) rfl ⟨dX10_ask_32, Or.inl rfl⟩ F

set_option maxRecDepth 100000 in
set_option maxHeartbeats 4000000 in
theorem bX10_unused_0 {d mc ms : Nat} {X : XX} {v : VV} {Q : QQ} (a1 : Int) (hd : 2 ≤ d) (hW : SW X) (F : i32 a1 → ∃ P1 : Option AV → VV → Prop, Con mX10_usedTables 1 0 0 [(2, 0), (0, a1)] X v (fun o X1 v1 => X1 = X ∧ P1 o v1) ∧ ∀ (r2 : Int) (w3 : VV), P1 (some (0, r2)) w3 → ∃ P5 : Option AV → VV → Prop, Con mX6_cutTo 0 0 0 [(2, 43), (0, 0)] X w3 (fun o X1 v1 => X1 = X ∧ P5 o v1) ∧ ∀ (w7 : VV), P5 none w7 → Ex mX10_unused d 16 [(2, 0), (0, a1), (0, r2), (0, 0)] [] X w7 mc ms Q) : Ex mX10_unused d 0 [(2, 0), (0, a1), (3, 0), (3, 0)] [] X v mc ms Q := by
  refine x_li32 (i := 1) rfl (fun ha1 => ?_)
  have F := F ha1
  refine x_aload_n dX10_unused_0 rfl ?_
  refine x_iload_n dX10_unused_1 rfl ?_
  obtain ⟨P1, hC, F⟩ := F
  refine x_inv dY40_unused_2 mlY40_266 hC (sW0 hW) (Nat.le_of_ble_eq_true rfl) (gW0 hW) rfl rfl (by omega) (Nat.zero_le _) (Nat.zero_le _) (Nat.le_of_ble_eq_true rfl) (fun o1 Y4 w3 ht hP => ?_)
  obtain ⟨r2, rfl⟩ : ∃ i, o1 = some (0, i) := ht
  obtain ⟨rfl, hP⟩ := hP
  have F := F r2 w3 hP
  refine x_istore_n [(2, 0), (0, a1), (0, r2), (3, 0)] dX10_unused_5 rfl (Nat.le_of_ble_eq_true rfl) ?_
  refine x_aload_n dX10_unused_6 rfl ?_
  refine x_getr (r' := 43) flX10_65 dX10_unused_7 (sW0 hW) (gW0 hW) (rW0_9 hW) rfl (Nat.le_of_ble_eq_true rfl) ?_
  refine x_iconst dX10_unused_10 rfl (i32_of rfl) ?_
  obtain ⟨P5, hC, F⟩ := F
  refine x_inv dY80_unused_11 mlY80_82 hC (sW43 hW) (Nat.le_of_ble_eq_true rfl) (gW43 hW) rfl rfl (by omega) (Nat.zero_le _) (Nat.zero_le _) (Nat.le_of_ble_eq_true rfl) (fun o1 Y8 w7 ht hP => ?_)
  obtain rfl : o1 = none := ht
  obtain ⟨rfl, hP⟩ := hP
  have F := F w7 hP
  refine x_iconst dX10_unused_14 rfl (i32_of rfl) ?_
  refine x_istore_n [(2, 0), (0, a1), (0, r2), (0, 0)] dX10_unused_15 rfl (Nat.le_of_ble_eq_true rfl) ?_
  exact F

set_option maxRecDepth 100000 in
set_option maxHeartbeats 4000000 in
theorem bX10_unused_16 {d mc ms : Nat} {X : XX} {v : VV} {Q : QQ} (a1 : Int) (x2 : Int) (x3 : Int) (hd : 2 ≤ d) (hW : SW X) (F : i32 a1 → i32 x2 → i32 x3 → (((16 ≤ x3) → ∃ P9 : Option AV → VV → Prop, Con mX6_size 0 0 0 [(2, 43)] X v (fun o X1 v1 => X1 = X ∧ P9 o v1) ∧ ∀ (r10 : Int) (w11 : VV), P9 (some (0, r10)) w11 → Q (some (0, r10)) X w11) ∧ ((x3 < 16) → (0 ≤ x3 ∧ x3 < 16) ∧ ((((X.2 37 x3) = -1) → i32 (x3 + 1) ∧ Ex mX10_unused d 16 [(2, 0), (0, a1), (0, x2), (0, (x3 + 1))] [] X v mc ms Q) ∧ ((¬ (X.2 37 x3) = -1) → ∀ z13 : Int, Int32.ofInt x2 >>> (Int32.ofInt x3 &&& 31) = Int32.ofInt z13 → i32 z13 → ∀ z14 : Int, Int32.ofInt z13 &&& Int32.ofInt 1 = Int32.ofInt z14 → i32 z14 → (((¬ z14 = 0) → i32 (x3 + 1) ∧ Ex mX10_unused d 16 [(2, 0), (0, a1), (0, x2), (0, (x3 + 1))] [] X v mc ms Q) ∧ ((z14 = 0) → ∃ P15 : Option AV → VV → Prop, Con mX6_add 0 0 0 [(2, 43), (0, x3)] X v (fun o X1 v1 => X1 = X ∧ P15 o v1) ∧ ∀ (w17 : VV), P15 none w17 → i32 (x3 + 1) ∧ Ex mX10_unused d 16 [(2, 0), (0, a1), (0, x2), (0, (x3 + 1))] [] X w17 mc ms Q))))))) : Ex mX10_unused d 16 [(2, 0), (0, a1), (0, x2), (0, x3)] [] X v mc ms Q := by
  refine x_li32 (i := 1) rfl (fun ha1 => ?_)
  have F := F ha1
  refine x_li32 (i := 2) rfl (fun hx2 => ?_)
  have F := F hx2
  refine x_li32 (i := 3) rfl (fun hx3 => ?_)
  have F := F hx3
  refine x_iload_n dX10_unused_16 rfl ?_
  refine x_bipush dX10_unused_17 kb_16 (i32_of rfl) ?_
  refine x_icmp_ge 53 dX10_unused_19 rfl (fun hc => ?_) (fun hc => ?_)
  · have F := F.1 hc
    refine x_aload_n dX10_unused_53 rfl ?_
    refine x_getr (r' := 43) flX10_65 dX10_unused_54 (sW0 hW) (gW0 hW) (rW0_9 hW) rfl (Nat.le_of_ble_eq_true rfl) ?_
    obtain ⟨P9, hC, F⟩ := F
    refine x_inv dY120_unused_57 mlY120_75 hC (sW43 hW) (Nat.le_of_ble_eq_true rfl) (gW43 hW) rfl rfl (by omega) (Nat.zero_le _) (Nat.zero_le _) (Nat.le_of_ble_eq_true rfl) (fun o1 Y12 w11 ht hP => ?_)
    obtain ⟨r10, rfl⟩ : ∃ i, o1 = some (0, i) := ht
    obtain ⟨rfl, hP⟩ := hP
    have F := F r10 w11 hP
    exact x_ret (some (0, r10)) rfl ⟨dX10_unused_60, Or.inl rfl⟩ F
  · have F := F.2 hc
    refine x_aload_n dX10_unused_22 rfl ?_
    refine x_getr (r' := 37) flX10_41 dX10_unused_23 (sW0 hW) (gW0 hW) (rW0_4 hW) rfl (Nat.le_of_ble_eq_true rfl) ?_
    refine x_iload_n dX10_unused_26 rfl ?_
    obtain ⟨hi, F⟩ := F
    refine x_aald (r' := (X.2 37 x3)) dX10_unused_27 (sW37 hW) (by decide) (gW37 hW) hi rfl ?_
    refine x_ifnull 47 dX10_unused_28 rfl (fun hc => ?_) (fun hc => ?_)
    · have F := F.1 hc
      obtain ⟨hz, F⟩ := F
      refine x_iinc [(2, 0), (0, a1), (0, x2), (0, (x3 + 1))] dX10_unused_47 rfl rfl (Nat.le_of_ble_eq_true rfl) hz ?_
      refine x_goto 16 dX10_unused_50 rfl ?_
      exact F
    · have F := F.2 hc
      refine x_iload_n dX10_unused_31 rfl ?_
      refine x_iload_n dX10_unused_32 rfl ?_
      obtain ⟨z13, ez13, hz13⟩ := i32_ex (Int32.ofInt x2 >>> (Int32.ofInt x3 &&& 31))
      have F := F z13 ez13 hz13
      refine x_ishr (z := z13) dX10_unused_33 ez13 hz13 ?_
      refine x_iconst dX10_unused_34 rfl (i32_of rfl) ?_
      obtain ⟨z14, ez14, hz14⟩ := i32_ex (Int32.ofInt z13 &&& Int32.ofInt 1)
      have F := F z14 ez14 hz14
      refine x_iand (z := z14) dX10_unused_35 ez14 hz14 ?_
      refine x_if_ne 47 dX10_unused_36 rfl (fun hc => ?_) (fun hc => ?_)
      · have F := F.1 hc
        obtain ⟨hz, F⟩ := F
        refine x_iinc [(2, 0), (0, a1), (0, x2), (0, (x3 + 1))] dX10_unused_47 rfl rfl (Nat.le_of_ble_eq_true rfl) hz ?_
        refine x_goto 16 dX10_unused_50 rfl ?_
        exact F
      · have F := F.2 hc
        refine x_aload_n dX10_unused_39 rfl ?_
        refine x_getr (r' := 43) flX10_65 dX10_unused_40 (sW0 hW) (gW0 hW) (rW0_9 hW) rfl (Nat.le_of_ble_eq_true rfl) ?_
        refine x_iload_n dX10_unused_43 rfl ?_
        obtain ⟨P15, hC, F⟩ := F
        refine x_inv dY180_unused_44 mlY180_212 hC (sW43 hW) (Nat.le_of_ble_eq_true rfl) (gW43 hW) rfl rfl (by omega) (Nat.zero_le _) (Nat.zero_le _) (Nat.le_of_ble_eq_true rfl) (fun o1 Y18 w17 ht hP => ?_)
        obtain rfl : o1 = none := ht
        obtain ⟨rfl, hP⟩ := hP
        have F := F w17 hP
        obtain ⟨hz, F⟩ := F
        refine x_iinc [(2, 0), (0, a1), (0, x2), (0, (x3 + 1))] dX10_unused_47 rfl rfl (Nat.le_of_ble_eq_true rfl) hz ?_
        refine x_goto 16 dX10_unused_50 rfl ?_
        exact F

set_option maxRecDepth 100000 in
set_option maxHeartbeats 4000000 in
theorem bX10_alike_0 {d mc ms : Nat} {X : XX} {v : VV} {Q : QQ} (a1 : Int) (a2 : Int) (hd : 2 ≤ d) (hW : SW X) (F : i32 a1 → i32 a2 → ∃ P1 : Option AV → VV → Prop, Con mX10_tableAt 0 0 0 [(2, 0), (0, a1)] X v (fun o X1 v1 => X1 = X ∧ P1 o v1) ∧ ∀ (r2 : Int) (w3 : VV), P1 (some (2, r2)) w3 → ∃ P5 : Option AV → VV → Prop, Con mX10_tableAt 0 0 0 [(2, 0), (0, a2)] X w3 (fun o X1 v1 => X1 = X ∧ P5 o v1) ∧ ∀ (r6 : Int) (w7 : VV), P5 (some (2, r6)) w7 → (((a1 = a2) → Q (some (0, (-1))) X w7) ∧ ((¬ a1 = a2) → (((r2 = -1) → Q (some (0, (-1))) X w7) ∧ ((¬ r2 = -1) → (((r6 = -1) → Q (some (0, (-1))) X w7) ∧ ((¬ r6 = -1) → X.1.2 r2 = (7, 0) ∧ (0 ≤ r2 ∧ r2 < X.1.1) ∧ ∃ P10 : Option AV → VV → Prop, Con mX7_hasSelect 0 0 0 [(2, r2)] X w7 (fun o X1 v1 => X1 = X ∧ P10 o v1) ∧ ∀ (r11 : Int) (w12 : VV), P10 (some (0, r11)) w12 → (((r11 = 0) → Q (some (0, (-1))) X w12) ∧ ((¬ r11 = 0) → X.1.2 r6 = (7, 0) ∧ (0 ≤ r6 ∧ r6 < X.1.1) ∧ ∃ P15 : Option AV → VV → Prop, Con mX7_hasSelect 0 0 0 [(2, r6)] X w12 (fun o X1 v1 => X1 = X ∧ P15 o v1) ∧ ∀ (r16 : Int) (w17 : VV), P15 (some (0, r16)) w17 → (((¬ r16 = 0) → X.1.2 (X.2 r2 4) = (6, 0) ∧ (0 ≤ (X.2 r2 4) ∧ (X.2 r2 4) < X.1.1) ∧ ∃ P20 : Option AV → VV → Prop, Con mX6_isSame 1 0 0 [(2, (X.2 r2 4)), (2, (X.2 r6 4))] X w17 (fun o X1 v1 => X1 = X ∧ P20 o v1) ∧ ∀ (r21 : Int) (w22 : VV), P20 (some (0, r21)) w22 → (((r21 = 0) → Q (some (0, 0)) X w22) ∧ ((¬ r21 = 0) → Q (some (0, 1)) X w22))) ∧ ((r16 = 0) → Q (some (0, (-1))) X w17))))))))))) : Ex mX10_alike d 0 [(2, 0), (0, a1), (0, a2), (3, 0), (3, 0)] [] X v mc ms Q := by
  refine x_li32 (i := 1) rfl (fun ha1 => ?_)
  have F := F ha1
  refine x_li32 (i := 2) rfl (fun ha2 => ?_)
  have F := F ha2
  refine x_aload_n dX10_alike_0 rfl ?_
  refine x_iload_n dX10_alike_1 rfl ?_
  obtain ⟨P1, hC, F⟩ := F
  refine x_inv dY40_alike_2 mlY40_143 hC (sW0 hW) (Nat.le_of_ble_eq_true rfl) (gW0 hW) rfl rfl (by omega) (Nat.zero_le _) (Nat.zero_le _) (Nat.le_of_ble_eq_true rfl) (fun o1 Y4 w3 ht hP => ?_)
  obtain ⟨r2, rfl⟩ : ∃ i, o1 = some (2, i) := ht
  obtain ⟨rfl, hP⟩ := hP
  have F := F r2 w3 hP
  refine x_astore_n [(2, 0), (0, a1), (0, a2), (2, r2), (3, 0)] dX10_alike_5 rfl (Nat.le_of_ble_eq_true rfl) ?_
  refine x_aload_n dX10_alike_6 rfl ?_
  refine x_iload_n dX10_alike_7 rfl ?_
  obtain ⟨P5, hC, F⟩ := F
  refine x_inv dY80_alike_8 mlY80_143 hC (sW0 hW) (Nat.le_of_ble_eq_true rfl) (gW0 hW) rfl rfl (by omega) (Nat.zero_le _) (Nat.zero_le _) (Nat.le_of_ble_eq_true rfl) (fun o1 Y8 w7 ht hP => ?_)
  obtain ⟨r6, rfl⟩ : ∃ i, o1 = some (2, i) := ht
  obtain ⟨rfl, hP⟩ := hP
  have F := F r6 w7 hP
  refine x_astore [(2, 0), (0, a1), (0, a2), (2, r2), (2, r6)] dX10_alike_11 rfl (Nat.le_of_ble_eq_true rfl) ?_
  refine x_iload_n dX10_alike_13 rfl ?_
  refine x_iload_n dX10_alike_14 rfl ?_
  refine x_icmp_eq 42 dX10_alike_15 rfl (fun hc => ?_) (fun hc => ?_)
  · have F := F.1 hc
    refine x_iconst dX10_alike_42 rfl (i32_of rfl) ?_
    exact x_ret (some (0, (-1))) rfl ⟨dX10_alike_43, Or.inl rfl⟩ F
  · have F := F.2 hc
    refine x_aload_n dX10_alike_18 rfl ?_
    refine x_ifnull 42 dX10_alike_19 rfl (fun hc => ?_) (fun hc => ?_)
    · have F := F.1 hc
      refine x_iconst dX10_alike_42 rfl (i32_of rfl) ?_
      exact x_ret (some (0, (-1))) rfl ⟨dX10_alike_43, Or.inl rfl⟩ F
    · have F := F.2 hc
      refine x_aload dX10_alike_22 rfl ?_
      refine x_ifnull 42 dX10_alike_24 rfl (fun hc => ?_) (fun hc => ?_)
      · have F := F.1 hc
        refine x_iconst dX10_alike_42 rfl (i32_of rfl) ?_
        exact x_ret (some (0, (-1))) rfl ⟨dX10_alike_43, Or.inl rfl⟩ F
      · have F := F.2 hc
        refine x_aload_n dX10_alike_27 rfl ?_
        obtain ⟨hs9, hr9, F⟩ := F
        obtain ⟨P10, hC, F⟩ := F
        refine x_inv dY130_alike_28 mlY130_269 hC hs9 (Nat.le_of_ble_eq_true rfl) hr9 rfl rfl (by omega) (Nat.zero_le _) (Nat.zero_le _) (Nat.le_of_ble_eq_true rfl) (fun o1 Y13 w12 ht hP => ?_)
        obtain ⟨r11, rfl⟩ : ∃ i, o1 = some (0, i) := ht
        obtain ⟨rfl, hP⟩ := hP
        have F := F r11 w12 hP
        refine x_if_eq 42 dX10_alike_31 rfl (fun hc => ?_) (fun hc => ?_)
        · have F := F.1 hc
          refine x_iconst dX10_alike_42 rfl (i32_of rfl) ?_
          exact x_ret (some (0, (-1))) rfl ⟨dX10_alike_43, Or.inl rfl⟩ F
        · have F := F.2 hc
          refine x_aload dX10_alike_34 rfl ?_
          obtain ⟨hs14, hr14, F⟩ := F
          obtain ⟨P15, hC, F⟩ := F
          refine x_inv dY180_alike_36 mlY180_269 hC hs14 (Nat.le_of_ble_eq_true rfl) hr14 rfl rfl (by omega) (Nat.zero_le _) (Nat.zero_le _) (Nat.le_of_ble_eq_true rfl) (fun o1 Y18 w17 ht hP => ?_)
          obtain ⟨r16, rfl⟩ : ∃ i, o1 = some (0, i) := ht
          obtain ⟨rfl, hP⟩ := hP
          have F := F r16 w17 hP
          refine x_if_ne 44 dX10_alike_39 rfl (fun hc => ?_) (fun hc => ?_)
          · have F := F.1 hc
            refine x_aload_n dX10_alike_44 rfl ?_
            refine x_getr (r' := (X.2 r2 4)) flX10_272 dX10_alike_45 hs9 hr9 rfl rfl (Nat.le_of_ble_eq_true rfl) ?_
            refine x_aload dX10_alike_48 rfl ?_
            refine x_getr (r' := (X.2 r6 4)) flX10_272 dX10_alike_50 hs14 hr14 rfl rfl (Nat.le_of_ble_eq_true rfl) ?_
            obtain ⟨hs19, hr19, F⟩ := F
            obtain ⟨P20, hC, F⟩ := F
            refine x_inv dY230_alike_53 mlY230_275 hC hs19 (Nat.le_of_ble_eq_true rfl) hr19 rfl rfl (by omega) (Nat.zero_le _) (Nat.zero_le _) (Nat.le_of_ble_eq_true rfl) (fun o1 Y23 w22 ht hP => ?_)
            obtain ⟨r21, rfl⟩ : ∃ i, o1 = some (0, i) := ht
            obtain ⟨rfl, hP⟩ := hP
            have F := F r21 w22 hP
            refine x_if_eq 63 dX10_alike_56 rfl (fun hc => ?_) (fun hc => ?_)
            · have F := F.1 hc
              refine x_iconst dX10_alike_63 rfl (i32_of rfl) ?_
              exact x_ret (some (0, 0)) rfl ⟨dX10_alike_64, Or.inl rfl⟩ F
            · have F := F.2 hc
              refine x_iconst dX10_alike_59 rfl (i32_of rfl) ?_
              refine x_goto 64 dX10_alike_60 rfl ?_
              exact x_ret (some (0, 1)) rfl ⟨dX10_alike_64, Or.inl rfl⟩ F
          · have F := F.2 hc
            refine x_iconst dX10_alike_42 rfl (i32_of rfl) ?_
            exact x_ret (some (0, (-1))) rfl ⟨dX10_alike_43, Or.inl rfl⟩ F

set_option maxRecDepth 100000 in
set_option maxHeartbeats 4000000 in
theorem bX10_putBytes_0 {d mc ms : Nat} {X : XX} {v : VV} {Q : QQ} (a1 : Int) (hd : 1 ≤ d) (hW : SW X) (F : i32 a1 → Ex mX10_putBytes d 3 [(2, 0), (0, a1), (0, 24)] [] X v mc ms Q) : Ex mX10_putBytes d 0 [(2, 0), (0, a1), (3, 0)] [] X v mc ms Q := by
  refine x_li32 (i := 1) rfl (fun ha1 => ?_)
  have F := F ha1
  refine x_bipush dX10_putBytes_0 kb_24 (i32_of rfl) ?_
  refine x_istore_n [(2, 0), (0, a1), (0, 24)] dX10_putBytes_2 rfl (Nat.le_of_ble_eq_true rfl) ?_
  exact F

set_option maxRecDepth 100000 in
set_option maxHeartbeats 4000000 in
theorem bX10_putBytes_3 {d mc ms : Nat} {X : XX} {v : VV} {Q : QQ} (a1 : Int) (x2 : Int) (hd : 1 ≤ d) (hW : SW X) (F : i32 a1 → i32 x2 → (((x2 < 0) → Q none X v) ∧ ((0 ≤ x2) → ∀ z1 : Int, ((Int32.ofInt a1).toUInt32 >>> ((Int32.ofInt x2).toUInt32 &&& Int32.toUInt32 31)).toInt32 = Int32.ofInt z1 → i32 z1 → ∀ z2 : Int, Int32.ofInt z1 &&& Int32.ofInt 255 = Int32.ofInt z2 → i32 z2 → ∃ P3 : Option AV → VV → Prop, Con mX6_add 0 0 0 [(2, 1), (0, z2)] X v (fun o X1 v1 => X1 = X ∧ P3 o v1) ∧ ∀ (w5 : VV), P3 none w5 → i32 (x2 + (-8)) ∧ Ex mX10_putBytes d 3 [(2, 0), (0, a1), (0, (x2 + (-8)))] [] X w5 mc ms Q))) : Ex mX10_putBytes d 3 [(2, 0), (0, a1), (0, x2)] [] X v mc ms Q := by
  refine x_li32 (i := 1) rfl (fun ha1 => ?_)
  have F := F ha1
  refine x_li32 (i := 2) rfl (fun hx2 => ?_)
  have F := F hx2
  refine x_iload_n dX10_putBytes_3 rfl ?_
  refine x_if_lt 27 dX10_putBytes_4 rfl (fun hc => ?_) (fun hc => ?_)
  · have F := F.1 hc
    exact x_ret none rfl ⟨dX10_putBytes_27, rfl⟩ F
  · have F := F.2 hc
    refine x_aload_n dX10_putBytes_7 rfl ?_
    refine x_getr (r' := 1) flX10_14 dX10_putBytes_8 (sW0 hW) (gW0 hW) (rW0_0 hW) rfl (Nat.le_of_ble_eq_true rfl) ?_
    refine x_iload_n dX10_putBytes_11 rfl ?_
    refine x_iload_n dX10_putBytes_12 rfl ?_
    obtain ⟨z1, ez1, hz1⟩ := i32_ex (((Int32.ofInt a1).toUInt32 >>> ((Int32.ofInt x2).toUInt32 &&& Int32.toUInt32 31)).toInt32)
    have F := F z1 ez1 hz1
    refine x_iushr (z := z1) dX10_putBytes_13 ez1 hz1 ?_
    refine x_sipush dX10_putBytes_14 ks_255 (i32_of rfl) ?_
    obtain ⟨z2, ez2, hz2⟩ := i32_ex (Int32.ofInt z1 &&& Int32.ofInt 255)
    have F := F z2 ez2 hz2
    refine x_iand (z := z2) dX10_putBytes_17 ez2 hz2 ?_
    obtain ⟨P3, hC, F⟩ := F
    refine x_inv dY60_putBytes_18 mlY60_212 hC (sW1 hW) (Nat.le_of_ble_eq_true rfl) (gW1 hW) rfl rfl (by omega) (Nat.zero_le _) (Nat.zero_le _) (Nat.le_of_ble_eq_true rfl) (fun o1 Y6 w5 ht hP => ?_)
    obtain rfl : o1 = none := ht
    obtain ⟨rfl, hP⟩ := hP
    have F := F w5 hP
    obtain ⟨hz, F⟩ := F
    refine x_iinc [(2, 0), (0, a1), (0, (x2 + (-8)))] dX10_putBytes_21 rfl rfl (Nat.le_of_ble_eq_true rfl) hz ?_
    refine x_goto 3 dX10_putBytes_24 rfl ?_
    exact F

set_option maxRecDepth 100000 in
set_option maxHeartbeats 4000000 in
theorem bX10_refuse_0 {d mc ms : Nat} {X : XX} {v : VV} {Q : QQ} (a1 : Int) (a2 : Int) (hd : 0 ≤ d) (hW : SW X) (F : i32 a1 → i32 a2 → Q (some (0, (-1))) X (upd2 (upd2 v 0 14 a1) 0 15 a2)) : Ex mX10_refuse d 0 [(2, 0), (0, a1), (0, a2)] [] X v mc ms Q := by
  refine x_li32 (i := 1) rfl (fun ha1 => ?_)
  have F := F ha1
  refine x_li32 (i := 2) rfl (fun ha2 => ?_)
  have F := F ha2
  refine x_aload_n dX10_refuse_0 rfl ?_
  refine x_iload_n dX10_refuse_1 rfl ?_
  refine x_puti 0 fwX10_125 dX10_refuse_2 (sW0 hW) (gW0 hW) (fun h => Bool.noConfusion h) (Nat.le_of_ble_eq_true rfl) rfl (Or.inl ⟨rfl, Or.inl rfl⟩) ?_
  refine x_aload_n dX10_refuse_5 rfl ?_
  refine x_iload_n dX10_refuse_6 rfl ?_
  refine x_puti 0 fwX10_71 dX10_refuse_7 (sW0 hW) (gW0 hW) (fun h => Bool.noConfusion h) (Nat.le_of_ble_eq_true rfl) rfl (Or.inl ⟨rfl, Or.inl rfl⟩) ?_
  refine x_iconst dX10_refuse_10 rfl (i32_of rfl) ?_
  exact x_ret (some (0, (-1))) rfl ⟨dX10_refuse_11, Or.inl rfl⟩ F

set_option maxRecDepth 100000 in
set_option maxHeartbeats 4000000 in
theorem bX10_addTable_0 {d mc ms : Nat} {X : XX} {v : VV} {Q : QQ} (hd : 7 ≤ d) (hW : SW X) (F : ((((v 0 11) < 16) → (1 ≤ mc ∧ 10 ≤ ms) ∧ ∃ c7 s8 : Nat, c7 ≤ (mc - 1) ∧ s8 ≤ (ms - 10) ∧ ∃ P3 : QQ, Con mX7_init 6 c7 s8 [(2, (X.1.1 : Int)), (2, 4)] (nX X 7 0) (nV X v) P3 ∧ ∀ (Y6 : XX) (w5 : VV), P3 none Y6 w5 → SW Y6 ∧ Ex mX10_addTable d 25 [(2, 0), (2, 4), (0, (v 0 11)), (2, (X.1.1 : Int)), (0, 0)] [] Y6 w5 ((mc - 1) - c7) ((ms - 10) - s8) Q) ∧ ((16 ≤ (v 0 11)) → Q (some (0, (-1))) X v))) : Ex mX10_addTable d 0 [(2, 0), (2, 4), (3, 0), (3, 0), (3, 0)] [] X v mc ms Q := by
  refine x_aload_n dX10_addTable_0 rfl ?_
  refine x_geti (e := (v 0 11)) 0 flX10_122 dX10_addTable_1 (sW0 hW) (gW0 hW) rfl rfl (Nat.le_of_ble_eq_true rfl) (tagn2 rfl) ?_
  refine x_istore_n [(2, 0), (2, 4), (0, (v 0 11)), (3, 0), (3, 0)] dX10_addTable_4 rfl (Nat.le_of_ble_eq_true rfl) ?_
  refine x_iload_n dX10_addTable_5 rfl ?_
  refine x_bipush dX10_addTable_6 kb_16 (i32_of rfl) ?_
  refine x_icmp_lt 13 dX10_addTable_8 rfl (fun hc => ?_) (fun hc => ?_)
  · have F := F.1 hc
    obtain ⟨hb, F⟩ := F
    refine x_new nlX10_39 dX10_addTable_13 (by decide) hb.1 hb.2 ?_
    have hW2 : SW (nX X 7 0) := hW.new
    refine x_dup dX10_addTable_16 (tag1 rfl) ?_
    refine x_aload_n dX10_addTable_17 rfl ?_
    obtain ⟨c7, s8, hc1, hs1_, F⟩ := F
    obtain ⟨P3, hC, F⟩ := F
    refine x_init dY60_addTable_18 mlY60_279 hC (nX_in X 7 0).1 rfl rfl (by omega) hc1 hs1_ (Nat.le_of_ble_eq_true rfl) (fun Y6 w5 hP => ?_)
    obtain ⟨hW9, F⟩ := F Y6 w5 hP
    skip
    refine x_astore_n [(2, 0), (2, 4), (0, (v 0 11)), (2, (X.1.1 : Int)), (3, 0)] dX10_addTable_21 rfl (Nat.le_of_ble_eq_true rfl) ?_
    refine x_iconst dX10_addTable_22 rfl (i32_of rfl) ?_
    refine x_istore [(2, 0), (2, 4), (0, (v 0 11)), (2, (X.1.1 : Int)), (0, 0)] dX10_addTable_23 rfl (Nat.le_of_ble_eq_true rfl) ?_
    exact F
  · have F := F.2 hc
    refine x_iconst dX10_addTable_11 rfl (i32_of rfl) ?_
    exact x_ret (some (0, (-1))) rfl ⟨dX10_addTable_12, Or.inl rfl⟩ F

set_option maxRecDepth 100000 in
set_option maxHeartbeats 4000000 in
theorem bX10_addTable_25 {d mc ms : Nat} {X : XX} {v : VV} {Q : QQ} (x2 : Int) (x3 : Int) (x4 : Int) (hd : 7 ≤ d) (hW : SW X) (F : i32 x2 → i32 x4 → X.1.2 x3 = (7, 0) ∧ (0 ≤ x3 ∧ x3 < X.1.1) ∧ ∃ P11 : Option AV → VV → Prop, Con mX7_columnCount 0 0 0 [(2, x3)] X v (fun o X1 v1 => X1 = X ∧ P11 o v1) ∧ ∀ (r12 : Int) (w13 : VV), P11 (some (0, r12)) w13 → (((r12 ≤ x4) → (0 ≤ x2 ∧ x2 < 16) ∧ (i32 (w13 0 11) → i32 ((w13 0 11) + 1)) ∧ ∃ P16 : Option AV → VV → Prop, Con mX10_settleViews 2 0 0 [(2, 0)] (X.1, upd2 X.2 37 x2 x3) (upd2 w13 0 11 ((w13 0 11) + 1)) (fun o X1 v1 => X1 = (X.1, upd2 X.2 37 x2 x3) ∧ P16 o v1) ∧ ∀ (w18 : VV), P16 none w18 → Q (some (0, x2)) (X.1, upd2 X.2 37 x2 x3) w18) ∧ ((x4 < r12) → i32 (x2 * 8) ∧ (i32 (x2 * 8) → i32 ((x2 * 8) + x4)) ∧ ∃ P20 : Option AV → VV → Prop, Con mX6_get 0 0 0 [(2, 19), (0, x4)] X w13 (fun o X1 v1 => X1 = X ∧ P20 o v1) ∧ ∀ (r21 : Int) (w22 : VV), P20 (some (0, r21)) w22 → (0 ≤ ((x2 * 8) + x4) ∧ ((x2 * 8) + x4) < 128) ∧ i32 (x4 + 1) ∧ Ex mX10_addTable d 25 [(2, 0), (2, 4), (0, x2), (2, x3), (0, (x4 + 1))] [] X (upd2 w22 38 ((x2 * 8) + x4) r21) mc ms Q))) : Ex mX10_addTable d 25 [(2, 0), (2, 4), (0, x2), (2, x3), (0, x4)] [] X v mc ms Q := by
  refine x_li32 (i := 2) rfl (fun hx2 => ?_)
  have F := F hx2
  refine x_li32 (i := 4) rfl (fun hx4 => ?_)
  have F := F hx4
  refine x_iload dX10_addTable_25 rfl ?_
  refine x_aload_n dX10_addTable_27 rfl ?_
  obtain ⟨hs10, hr10, F⟩ := F
  obtain ⟨P11, hC, F⟩ := F
  refine x_inv dY140_addTable_28 mlY140_150 hC hs10 (Nat.le_of_ble_eq_true rfl) hr10 rfl rfl (by omega) (Nat.zero_le _) (Nat.zero_le _) (Nat.le_of_ble_eq_true rfl) (fun o1 Y14 w13 ht hP => ?_)
  obtain ⟨r12, rfl⟩ : ∃ i, o1 = some (0, i) := ht
  obtain ⟨rfl, hP⟩ := hP
  have F := F r12 w13 hP
  refine x_icmp_ge 61 dX10_addTable_31 rfl (fun hc => ?_) (fun hc => ?_)
  · have F := F.1 hc
    refine x_aload_n dX10_addTable_61 rfl ?_
    refine x_getr (r' := 37) flX10_41 dX10_addTable_62 (sW0 hW) (gW0 hW) (rW0_4 hW) rfl (Nat.le_of_ble_eq_true rfl) ?_
    refine x_iload_n dX10_addTable_65 rfl ?_
    refine x_aload_n dX10_addTable_66 rfl ?_
    obtain ⟨hi, F⟩ := F
    refine x_aast dX10_addTable_67 (sW37 hW) (by decide) (gW37 hW) hi hs10 hr10 ?_
    have hW15 : SW (X.1, upd2 X.2 37 x2 x3) := hW.ref37 _ _
    refine x_aload_n dX10_addTable_68 rfl ?_
    refine x_dup dX10_addTable_69 (tag1 rfl) ?_
    refine x_geti (e := (w13 0 11)) 0 flX10_122 dX10_addTable_70 (sW0 hW15) (gW0 hW15) rfl rfl (Nat.le_of_ble_eq_true rfl) (tagn2 rfl) ?_
    refine x_iconst dX10_addTable_73 rfl (i32_of rfl) ?_
    refine x_si32 (i := 1) rfl (fun hk1 => ?_)
    obtain ⟨hz, F⟩ := F
    have hz := hz hk1
    refine x_iadd dX10_addTable_74 hz ?_
    refine x_puti 0 fwX10_122 dX10_addTable_75 (sW0 hW15) (gW0 hW15) (fun h => Bool.noConfusion h) (Nat.le_of_ble_eq_true rfl) rfl (Or.inl ⟨rfl, Or.inl rfl⟩) ?_
    refine x_aload_n dX10_addTable_78 rfl ?_
    obtain ⟨P16, hC, F⟩ := F
    refine x_inv dY190_addTable_79 mlY190_244 hC (sW0 hW15) (Nat.le_of_ble_eq_true rfl) (gW0 hW15) rfl rfl (by omega) (Nat.zero_le _) (Nat.zero_le _) (Nat.le_of_ble_eq_true rfl) (fun o1 Y19 w18 ht hP => ?_)
    obtain rfl : o1 = none := ht
    obtain ⟨rfl, hP⟩ := hP
    have F := F w18 hP
    refine x_iload_n dX10_addTable_82 rfl ?_
    exact x_ret (some (0, x2)) rfl ⟨dX10_addTable_83, Or.inl rfl⟩ F
  · have F := F.2 hc
    refine x_aload_n dX10_addTable_34 rfl ?_
    refine x_getr (r' := 38) flX10_45 dX10_addTable_35 (sW0 hW) (gW0 hW) (rW0_5 hW) rfl (Nat.le_of_ble_eq_true rfl) ?_
    refine x_iload_n dX10_addTable_38 rfl ?_
    refine x_bipush dX10_addTable_39 kb_8 (i32_of rfl) ?_
    obtain ⟨hz, F⟩ := F
    refine x_imul dX10_addTable_41 hz ?_
    refine x_iload dX10_addTable_42 rfl ?_
    refine x_si32 (i := 1) rfl (fun hk1 => ?_)
    obtain ⟨hz, F⟩ := F
    have hz := hz hk1
    refine x_iadd dX10_addTable_44 hz ?_
    refine x_aload_n dX10_addTable_45 rfl ?_
    refine x_getr (r' := 19) flX10_282 dX10_addTable_46 (sW4 hW) (gW4 hW) (rW4_2 hW) rfl (Nat.le_of_ble_eq_true rfl) ?_
    refine x_iload dX10_addTable_49 rfl ?_
    obtain ⟨P20, hC, F⟩ := F
    refine x_inv dY230_addTable_51 mlY230_156 hC (sW19 hW) (Nat.le_of_ble_eq_true rfl) (gW19 hW) rfl rfl (by omega) (Nat.zero_le _) (Nat.zero_le _) (Nat.le_of_ble_eq_true rfl) (fun o1 Y23 w22 ht hP => ?_)
    obtain ⟨r21, rfl⟩ : ∃ i, o1 = some (0, i) := ht
    obtain ⟨rfl, hP⟩ := hP
    have F := F r21 w22 hP
    obtain ⟨hi, F⟩ := F
    refine x_iast dX10_addTable_54 (sW38 hW) (gW38 hW) hi ?_
    obtain ⟨hz, F⟩ := F
    refine x_iinc [(2, 0), (2, 4), (0, x2), (2, x3), (0, (x4 + 1))] dX10_addTable_55 rfl rfl (Nat.le_of_ble_eq_true rfl) hz ?_
    refine x_goto 25 dX10_addTable_58 rfl ?_
    exact F

set_option maxRecDepth 100000 in
set_option maxHeartbeats 4000000 in
theorem bX10_tableAt_0 {d mc ms : Nat} {X : XX} {v : VV} {Q : QQ} (a1 : Int) (hd : 0 ≤ d) (hW : SW X) (F : i32 a1 → (((a1 < 0) → Q (some (2, (-1))) X v) ∧ ((0 ≤ a1) → (((16 ≤ a1) → Q (some (2, (-1))) X v) ∧ ((a1 < 16) → (0 ≤ a1 ∧ a1 < 16) ∧ Q (some (2, (X.2 37 a1))) X v))))) : Ex mX10_tableAt d 0 [(2, 0), (0, a1)] [] X v mc ms Q := by
  refine x_li32 (i := 1) rfl (fun ha1 => ?_)
  have F := F ha1
  refine x_iload_n dX10_tableAt_0 rfl ?_
  refine x_if_lt 19 dX10_tableAt_1 rfl (fun hc => ?_) (fun hc => ?_)
  · have F := F.1 hc
    refine x_null dX10_tableAt_19 ?_
    exact x_ret (some (2, (-1))) rfl ⟨dX10_tableAt_20, Or.inl ⟨_, rfl⟩⟩ F
  · have F := F.2 hc
    refine x_iload_n dX10_tableAt_4 rfl ?_
    refine x_bipush dX10_tableAt_5 kb_16 (i32_of rfl) ?_
    refine x_icmp_ge 19 dX10_tableAt_7 rfl (fun hc => ?_) (fun hc => ?_)
    · have F := F.1 hc
      refine x_null dX10_tableAt_19 ?_
      exact x_ret (some (2, (-1))) rfl ⟨dX10_tableAt_20, Or.inl ⟨_, rfl⟩⟩ F
    · have F := F.2 hc
      refine x_aload_n dX10_tableAt_10 rfl ?_
      refine x_getr (r' := 37) flX10_41 dX10_tableAt_11 (sW0 hW) (gW0 hW) (rW0_4 hW) rfl (Nat.le_of_ble_eq_true rfl) ?_
      refine x_iload_n dX10_tableAt_14 rfl ?_
      obtain ⟨hi, F⟩ := F
      refine x_aald (r' := (X.2 37 a1)) dX10_tableAt_15 (sW37 hW) (by decide) (gW37 hW) hi rfl ?_
      refine x_goto 20 dX10_tableAt_16 rfl ?_
      exact x_ret (some (2, (X.2 37 a1))) rfl ⟨dX10_tableAt_20, Or.inl ⟨_, rfl⟩⟩ F

set_option maxRecDepth 100000 in
set_option maxHeartbeats 4000000 in
theorem bX10_hasColumn_0 {d mc ms : Nat} {X : XX} {v : VV} {Q : QQ} (a1 : Int) (a2 : Int) (hd : 1 ≤ d) (hW : SW X) (F : i32 a1 → i32 a2 → ∃ P1 : Option AV → VV → Prop, Con mX10_tableAt 0 0 0 [(2, 0), (0, a1)] X v (fun o X1 v1 => X1 = X ∧ P1 o v1) ∧ ∀ (r2 : Int) (w3 : VV), P1 (some (2, r2)) w3 → (((r2 = -1) → Q (some (0, 0)) X w3) ∧ ((¬ r2 = -1) → (((a2 < 0) → Q (some (0, 0)) X w3) ∧ ((0 ≤ a2) → X.1.2 r2 = (7, 0) ∧ (0 ≤ r2 ∧ r2 < X.1.1) ∧ ∃ P6 : Option AV → VV → Prop, Con mX7_columnCount 0 0 0 [(2, r2)] X w3 (fun o X1 v1 => X1 = X ∧ P6 o v1) ∧ ∀ (r7 : Int) (w8 : VV), P6 (some (0, r7)) w8 → (((r7 ≤ a2) → Q (some (0, 0)) X w8) ∧ ((a2 < r7) → Q (some (0, 1)) X w8))))))) : Ex mX10_hasColumn d 0 [(2, 0), (0, a1), (0, a2), (3, 0)] [] X v mc ms Q := by
  refine x_li32 (i := 1) rfl (fun ha1 => ?_)
  have F := F ha1
  refine x_li32 (i := 2) rfl (fun ha2 => ?_)
  have F := F ha2
  refine x_aload_n dX10_hasColumn_0 rfl ?_
  refine x_iload_n dX10_hasColumn_1 rfl ?_
  obtain ⟨P1, hC, F⟩ := F
  refine x_inv dY40_hasColumn_2 mlY40_143 hC (sW0 hW) (Nat.le_of_ble_eq_true rfl) (gW0 hW) rfl rfl (by omega) (Nat.zero_le _) (Nat.zero_le _) (Nat.le_of_ble_eq_true rfl) (fun o1 Y4 w3 ht hP => ?_)
  obtain ⟨r2, rfl⟩ : ∃ i, o1 = some (2, i) := ht
  obtain ⟨rfl, hP⟩ := hP
  have F := F r2 w3 hP
  refine x_astore_n [(2, 0), (0, a1), (0, a2), (2, r2)] dX10_hasColumn_5 rfl (Nat.le_of_ble_eq_true rfl) ?_
  refine x_aload_n dX10_hasColumn_6 rfl ?_
  refine x_ifnull 26 dX10_hasColumn_7 rfl (fun hc => ?_) (fun hc => ?_)
  · have F := F.1 hc
    refine x_iconst dX10_hasColumn_26 rfl (i32_of rfl) ?_
    exact x_ret (some (0, 0)) rfl ⟨dX10_hasColumn_27, Or.inr ⟨rfl, Or.inl rfl⟩⟩ F
  · have F := F.2 hc
    refine x_iload_n dX10_hasColumn_10 rfl ?_
    refine x_if_lt 26 dX10_hasColumn_11 rfl (fun hc => ?_) (fun hc => ?_)
    · have F := F.1 hc
      refine x_iconst dX10_hasColumn_26 rfl (i32_of rfl) ?_
      exact x_ret (some (0, 0)) rfl ⟨dX10_hasColumn_27, Or.inr ⟨rfl, Or.inl rfl⟩⟩ F
    · have F := F.2 hc
      refine x_iload_n dX10_hasColumn_14 rfl ?_
      refine x_aload_n dX10_hasColumn_15 rfl ?_
      obtain ⟨hs5, hr5, F⟩ := F
      obtain ⟨P6, hC, F⟩ := F
      refine x_inv dY90_hasColumn_16 mlY90_150 hC hs5 (Nat.le_of_ble_eq_true rfl) hr5 rfl rfl (by omega) (Nat.zero_le _) (Nat.zero_le _) (Nat.le_of_ble_eq_true rfl) (fun o1 Y9 w8 ht hP => ?_)
      obtain ⟨r7, rfl⟩ : ∃ i, o1 = some (0, i) := ht
      obtain ⟨rfl, hP⟩ := hP
      have F := F r7 w8 hP
      refine x_icmp_ge 26 dX10_hasColumn_19 rfl (fun hc => ?_) (fun hc => ?_)
      · have F := F.1 hc
        refine x_iconst dX10_hasColumn_26 rfl (i32_of rfl) ?_
        exact x_ret (some (0, 0)) rfl ⟨dX10_hasColumn_27, Or.inr ⟨rfl, Or.inl rfl⟩⟩ F
      · have F := F.2 hc
        refine x_iconst dX10_hasColumn_22 rfl (i32_of rfl) ?_
        refine x_goto 27 dX10_hasColumn_23 rfl ?_
        exact x_ret (some (0, 1)) rfl ⟨dX10_hasColumn_27, Or.inr ⟨rfl, Or.inr rfl⟩⟩ F

set_option maxRecDepth 100000 in
set_option maxHeartbeats 4000000 in
theorem bX10_indexOfName_0 {d mc ms : Nat} {X : XX} {v : VV} {Q : QQ} (a2 : Int) (hd : 0 ≤ d) (hW : SW X) (F : Ex mX10_indexOfName d 2 [(2, 37), (1, a2), (3, 0), (0, 0), (3, 0)] [] X v mc ms Q) : Ex mX10_indexOfName d 0 [(2, 37), (1, a2), (3, 0), (3, 0), (3, 0)] [] X v mc ms Q := by
  refine x_iconst dX10_indexOfName_0 rfl (i32_of rfl) ?_
  refine x_istore_n [(2, 37), (1, a2), (3, 0), (0, 0), (3, 0)] dX10_indexOfName_1 rfl (Nat.le_of_ble_eq_true rfl) ?_
  exact F

set_option maxRecDepth 100000 in
set_option maxHeartbeats 4000000 in
theorem bX10_indexOfName_2 {d mc ms : Nat} {X : XX} {v : VV} {Q : QQ} (a2 : Int) (x3 : Int) (hd : 0 ≤ d) (hW : SW X) (F : i32 x3 → (((16 ≤ x3) → Q (some (0, (-1))) X v) ∧ ((x3 < 16) → (0 ≤ x3 ∧ x3 < 16) ∧ ((((X.2 37 x3) = -1) → i32 (x3 + 1) ∧ Ex mX10_indexOfName d 2 [(2, 37), (1, a2), (3, 0), (0, (x3 + 1)), (3, 0)] [] X v mc ms Q) ∧ ((¬ (X.2 37 x3) = -1) → X.1.2 (X.2 37 x3) = (7, 0) ∧ (0 ≤ (X.2 37 x3) ∧ (X.2 37 x3) < X.1.1) ∧ (((¬ (v (X.2 37 x3) 0) = a2) → i32 (x3 + 1) ∧ Ex mX10_indexOfName d 2 [(2, 37), (1, a2), (3, 0), (0, (x3 + 1)), (3, 0)] [] X v mc ms Q) ∧ (((v (X.2 37 x3) 0) = a2) → Q (some (0, x3)) X v))))))) : Ex mX10_indexOfName d 2 [(2, 37), (1, a2), (3, 0), (0, x3), (3, 0)] [] X v mc ms Q := by
  refine x_li32 (i := 3) rfl (fun hx3 => ?_)
  have F := F hx3
  refine x_iload_n dX10_indexOfName_2 rfl ?_
  refine x_aload_n dX10_indexOfName_3 rfl ?_
  refine x_alen dX10_indexOfName_4 (sW37 hW) (by decide) (gW37 hW) (fun hlen => ?_)
  refine x_icmp_ge 36 dX10_indexOfName_5 rfl (fun hc => ?_) (fun hc => ?_)
  · have F := F.1 hc
    refine x_iconst dX10_indexOfName_36 rfl (i32_of rfl) ?_
    exact x_ret (some (0, (-1))) rfl ⟨dX10_indexOfName_37, Or.inl rfl⟩ F
  · have F := F.2 hc
    refine x_aload_n dX10_indexOfName_8 rfl ?_
    refine x_iload_n dX10_indexOfName_9 rfl ?_
    obtain ⟨hi, F⟩ := F
    refine x_aald (r' := (X.2 37 x3)) dX10_indexOfName_10 (sW37 hW) (by decide) (gW37 hW) hi rfl ?_
    refine x_astore [(2, 37), (1, a2), (3, 0), (0, x3), (2, (X.2 37 x3))] dX10_indexOfName_11 rfl (Nat.le_of_ble_eq_true rfl) ?_
    refine x_aload dX10_indexOfName_13 rfl ?_
    refine x_ifnull 30 dX10_indexOfName_15 rfl (fun hc => ?_) (fun hc => ?_)
    · have F := F.1 hc
      obtain ⟨hz, F⟩ := F
      refine x_iinc [(2, 37), (1, a2), (3, 0), (0, (x3 + 1)), (2, (X.2 37 x3))] dX10_indexOfName_30 rfl rfl (Nat.le_of_ble_eq_true rfl) hz ?_
      refine x_goto 2 dX10_indexOfName_33 rfl ?_
      exact x_less [(2, 37), (1, a2), (3, 0), (0, (x3 + 1)), (3, 0)] ⟨Or.inr rfl, ⟨Or.inr rfl, ⟨Or.inr rfl, ⟨Or.inr rfl, ⟨Or.inl rfl, trivial⟩⟩⟩⟩⟩ F
    · have F := F.2 hc
      refine x_aload dX10_indexOfName_18 rfl ?_
      obtain ⟨hs1, hr1, F⟩ := F
      refine x_geti (e := (v (X.2 37 x3) 0)) 1 flX10_285 dX10_indexOfName_20 hs1 hr1 rfl rfl (Nat.le_of_ble_eq_true rfl) (tagn2 rfl) ?_
      refine x_lload_n dX10_indexOfName_23 rfl ?_
      refine x_lcmp dX10_indexOfName_24 (fun z2 hz21 hz22 hz23 => ?_)
      refine x_if_ne 30 dX10_indexOfName_25 rfl (fun hc => ?_) (fun hc => ?_)
      · have F := F.1 (fun q => hc (hz21.mpr q))
        obtain ⟨hz, F⟩ := F
        refine x_iinc [(2, 37), (1, a2), (3, 0), (0, (x3 + 1)), (2, (X.2 37 x3))] dX10_indexOfName_30 rfl rfl (Nat.le_of_ble_eq_true rfl) hz ?_
        refine x_goto 2 dX10_indexOfName_33 rfl ?_
        exact x_less [(2, 37), (1, a2), (3, 0), (0, (x3 + 1)), (3, 0)] ⟨Or.inr rfl, ⟨Or.inr rfl, ⟨Or.inr rfl, ⟨Or.inr rfl, ⟨Or.inl rfl, trivial⟩⟩⟩⟩⟩ F
      · have F := F.2 (hz21.mp hc)
        refine x_iload_n dX10_indexOfName_28 rfl ?_
        exact x_ret (some (0, x3)) rfl ⟨dX10_indexOfName_29, Or.inl rfl⟩ F

set_option maxRecDepth 100000 in
set_option maxHeartbeats 4000000 in
theorem bX10_isType_0 {d mc ms : Nat} {X : XX} {v : VV} {Q : QQ} (a1 : Int) (hd : 0 ≤ d) (hW : SW X) (F : i32 a1 → (((a1 = 110) → Q (some (0, 1)) X v) ∧ ((¬ a1 = 110) → (((a1 = 116) → Q (some (0, 1)) X v) ∧ ((¬ a1 = 116) → (((¬ a1 = 100) → Q (some (0, 0)) X v) ∧ ((a1 = 100) → Q (some (0, 1)) X v))))))) : Ex mX10_isType d 0 [(0, a1)] [] X v mc ms Q := by
  refine x_li32 (i := 0) rfl (fun ha1 => ?_)
  have F := F ha1
  refine x_iload_n dX10_isType_0 rfl ?_
  refine x_bipush dX10_isType_1 kb_110 (i32_of rfl) ?_
  refine x_icmp_eq 18 dX10_isType_3 rfl (fun hc => ?_) (fun hc => ?_)
  · have F := F.1 hc
    refine x_iconst dX10_isType_18 rfl (i32_of rfl) ?_
    refine x_goto 23 dX10_isType_19 rfl ?_
    exact x_ret (some (0, 1)) rfl ⟨dX10_isType_23, Or.inr ⟨rfl, Or.inr rfl⟩⟩ F
  · have F := F.2 hc
    refine x_iload_n dX10_isType_6 rfl ?_
    refine x_bipush dX10_isType_7 kb_116 (i32_of rfl) ?_
    refine x_icmp_eq 18 dX10_isType_9 rfl (fun hc => ?_) (fun hc => ?_)
    · have F := F.1 hc
      refine x_iconst dX10_isType_18 rfl (i32_of rfl) ?_
      refine x_goto 23 dX10_isType_19 rfl ?_
      exact x_ret (some (0, 1)) rfl ⟨dX10_isType_23, Or.inr ⟨rfl, Or.inr rfl⟩⟩ F
    · have F := F.2 hc
      refine x_iload_n dX10_isType_12 rfl ?_
      refine x_bipush dX10_isType_13 kb_100 (i32_of rfl) ?_
      refine x_icmp_ne 22 dX10_isType_15 rfl (fun hc => ?_) (fun hc => ?_)
      · have F := F.1 hc
        refine x_iconst dX10_isType_22 rfl (i32_of rfl) ?_
        exact x_ret (some (0, 0)) rfl ⟨dX10_isType_23, Or.inr ⟨rfl, Or.inl rfl⟩⟩ F
      · have F := F.2 hc
        refine x_iconst dX10_isType_18 rfl (i32_of rfl) ?_
        refine x_goto 23 dX10_isType_19 rfl ?_
        exact x_ret (some (0, 1)) rfl ⟨dX10_isType_23, Or.inr ⟨rfl, Or.inr rfl⟩⟩ F

set_option maxRecDepth 100000 in
set_option maxHeartbeats 4000000 in
theorem bX10_markEarlierSteps_0 {d mc ms : Nat} {X : XX} {v : VV} {Q : QQ} (a1 : Int) (hd : 2 ≤ d) (hW : SW X) (F : i32 a1 → i32 (a1 - 1) ∧ Ex mX10_markEarlierSteps d 4 [(2, 0), (0, a1), (0, (a1 - 1)), (3, 0), (3, 0)] [] X v mc ms Q) : Ex mX10_markEarlierSteps d 0 [(2, 0), (0, a1), (3, 0), (3, 0), (3, 0)] [] X v mc ms Q := by
  refine x_li32 (i := 1) rfl (fun ha1 => ?_)
  have F := F ha1
  refine x_iload_n dX10_markEarlierSteps_0 rfl ?_
  refine x_iconst dX10_markEarlierSteps_1 rfl (i32_of rfl) ?_
  obtain ⟨hz, F⟩ := F
  refine x_isub dX10_markEarlierSteps_2 hz ?_
  refine x_istore_n [(2, 0), (0, a1), (0, (a1 - 1)), (3, 0), (3, 0)] dX10_markEarlierSteps_3 rfl (Nat.le_of_ble_eq_true rfl) ?_
  exact F

set_option maxRecDepth 100000 in
set_option maxHeartbeats 4000000 in
theorem bX10_markEarlierSteps_4 {d mc ms : Nat} {X : XX} {v : VV} {Q : QQ} (a1 : Int) (x2 : Int) (hd : 2 ≤ d) (hW : SW X) (F : i32 a1 → i32 x2 → (((x2 < 0) → Q none X v) ∧ ((0 ≤ x2) → ∃ P1 : Option AV → VV → Prop, Con mX10_tableAt 0 0 0 [(2, 0), (0, x2)] X v (fun o X1 v1 => X1 = X ∧ P1 o v1) ∧ ∀ (r2 : Int) (w3 : VV), P1 (some (2, r2)) w3 → (((¬ r2 = -1) → Ex mX10_markEarlierSteps d 24 [(2, 0), (0, a1), (0, x2), (2, r2), (0, 0)] [] X w3 mc ms Q) ∧ ((r2 = -1) → i32 (x2 + (-1)) ∧ Ex mX10_markEarlierSteps d 4 [(2, 0), (0, a1), (0, (x2 + (-1))), (3, 0), (3, 0)] [] X w3 mc ms Q))))) : Ex mX10_markEarlierSteps d 4 [(2, 0), (0, a1), (0, x2), (3, 0), (3, 0)] [] X v mc ms Q := by
  refine x_li32 (i := 1) rfl (fun ha1 => ?_)
  have F := F ha1
  refine x_li32 (i := 2) rfl (fun hx2 => ?_)
  have F := F hx2
  refine x_iload_n dX10_markEarlierSteps_4 rfl ?_
  refine x_if_lt 75 dX10_markEarlierSteps_5 rfl (fun hc => ?_) (fun hc => ?_)
  · have F := F.1 hc
    exact x_ret none rfl ⟨dX10_markEarlierSteps_75, rfl⟩ F
  · have F := F.2 hc
    refine x_aload_n dX10_markEarlierSteps_8 rfl ?_
    refine x_iload_n dX10_markEarlierSteps_9 rfl ?_
    obtain ⟨P1, hC, F⟩ := F
    refine x_inv dY40_markEarlierSteps_10 mlY40_143 hC (sW0 hW) (Nat.le_of_ble_eq_true rfl) (gW0 hW) rfl rfl (by omega) (Nat.zero_le _) (Nat.zero_le _) (Nat.le_of_ble_eq_true rfl) (fun o1 Y4 w3 ht hP => ?_)
    obtain ⟨r2, rfl⟩ : ∃ i, o1 = some (2, i) := ht
    obtain ⟨rfl, hP⟩ := hP
    have F := F r2 w3 hP
    refine x_astore_n [(2, 0), (0, a1), (0, x2), (2, r2), (3, 0)] dX10_markEarlierSteps_13 rfl (Nat.le_of_ble_eq_true rfl) ?_
    refine x_aload_n dX10_markEarlierSteps_14 rfl ?_
    refine x_ifnonnull 21 dX10_markEarlierSteps_15 rfl (fun hc => ?_) (fun hc => ?_)
    · have F := F.1 hc
      refine x_iconst dX10_markEarlierSteps_21 rfl (i32_of rfl) ?_
      refine x_istore [(2, 0), (0, a1), (0, x2), (2, r2), (0, 0)] dX10_markEarlierSteps_22 rfl (Nat.le_of_ble_eq_true rfl) ?_
      exact F
    · have F := F.2 hc
      refine x_goto 69 dX10_markEarlierSteps_18 rfl ?_
      obtain ⟨hz, F⟩ := F
      refine x_iinc [(2, 0), (0, a1), (0, (x2 + (-1))), (2, r2), (3, 0)] dX10_markEarlierSteps_69 rfl rfl (Nat.le_of_ble_eq_true rfl) hz ?_
      refine x_goto 4 dX10_markEarlierSteps_72 rfl ?_
      exact x_less [(2, 0), (0, a1), (0, (x2 + (-1))), (3, 0), (3, 0)] ⟨Or.inr rfl, ⟨Or.inr rfl, ⟨Or.inr rfl, ⟨Or.inl rfl, ⟨Or.inr rfl, trivial⟩⟩⟩⟩⟩ F

set_option maxRecDepth 100000 in
set_option maxHeartbeats 4000000 in
theorem bX10_markEarlierSteps_24 {d mc ms : Nat} {X : XX} {v : VV} {Q : QQ} (a1 : Int) (x2 : Int) (x3 : Int) (x4 : Int) (hd : 2 ≤ d) (hW : SW X) (F : i32 a1 → i32 x2 → i32 x4 → X.1.2 x3 = (7, 0) ∧ (0 ≤ x3 ∧ x3 < X.1.1) ∧ ∃ P6 : Option AV → VV → Prop, Con mX7_columnCount 0 0 0 [(2, x3)] X v (fun o X1 v1 => X1 = X ∧ P6 o v1) ∧ ∀ (r7 : Int) (w8 : VV), P6 (some (0, r7)) w8 → (((r7 ≤ x4) → i32 (x2 + (-1)) ∧ Ex mX10_markEarlierSteps d 4 [(2, 0), (0, a1), (0, (x2 + (-1))), (3, 0), (3, 0)] [] X w8 mc ms Q) ∧ ((x4 < r7) → i32 (x2 * 8) ∧ (i32 (x2 * 8) → i32 ((x2 * 8) + x4)) ∧ ∃ P10 : Option AV → VV → Prop, Con mX2_has 1 0 0 [(2, 41), (0, ((x2 * 8) + x4))] X w8 (fun o X1 v1 => X1 = X ∧ P10 o v1) ∧ ∀ (r11 : Int) (w12 : VV), P10 (some (0, r11)) w12 → (((r11 = 0) → i32 (x4 + 1) ∧ Ex mX10_markEarlierSteps d 24 [(2, 0), (0, a1), (0, x2), (2, x3), (0, (x4 + 1))] [] X w12 mc ms Q) ∧ ((¬ r11 = 0) → X.1.2 (X.2 x3 3) = (5, 0) ∧ (0 ≤ (X.2 x3 3) ∧ (X.2 x3 3) < X.1.1) ∧ ∃ P15 : Option AV → VV → Prop, Con mX5_markUsed 1 0 0 [(2, (X.2 x3 3)), (0, x4), (2, 41)] X w12 (fun o X1 v1 => X1 = X ∧ P15 o v1) ∧ ∀ (w17 : VV), P15 none w17 → i32 (x4 + 1) ∧ Ex mX10_markEarlierSteps d 24 [(2, 0), (0, a1), (0, x2), (2, x3), (0, (x4 + 1))] [] X w17 mc ms Q))))) : Ex mX10_markEarlierSteps d 24 [(2, 0), (0, a1), (0, x2), (2, x3), (0, x4)] [] X v mc ms Q := by
  refine x_li32 (i := 1) rfl (fun ha1 => ?_)
  have F := F ha1
  refine x_li32 (i := 2) rfl (fun hx2 => ?_)
  have F := F hx2
  refine x_li32 (i := 4) rfl (fun hx4 => ?_)
  have F := F hx4
  refine x_iload dX10_markEarlierSteps_24 rfl ?_
  refine x_aload_n dX10_markEarlierSteps_26 rfl ?_
  obtain ⟨hs5, hr5, F⟩ := F
  obtain ⟨P6, hC, F⟩ := F
  refine x_inv dY90_markEarlierSteps_27 mlY90_150 hC hs5 (Nat.le_of_ble_eq_true rfl) hr5 rfl rfl (by omega) (Nat.zero_le _) (Nat.zero_le _) (Nat.le_of_ble_eq_true rfl) (fun o1 Y9 w8 ht hP => ?_)
  obtain ⟨r7, rfl⟩ : ∃ i, o1 = some (0, i) := ht
  obtain ⟨rfl, hP⟩ := hP
  have F := F r7 w8 hP
  refine x_icmp_ge 69 dX10_markEarlierSteps_30 rfl (fun hc => ?_) (fun hc => ?_)
  · have F := F.1 hc
    obtain ⟨hz, F⟩ := F
    refine x_iinc [(2, 0), (0, a1), (0, (x2 + (-1))), (2, x3), (0, x4)] dX10_markEarlierSteps_69 rfl rfl (Nat.le_of_ble_eq_true rfl) hz ?_
    refine x_goto 4 dX10_markEarlierSteps_72 rfl ?_
    exact x_less [(2, 0), (0, a1), (0, (x2 + (-1))), (3, 0), (3, 0)] ⟨Or.inr rfl, ⟨Or.inr rfl, ⟨Or.inr rfl, ⟨Or.inl rfl, ⟨Or.inl rfl, trivial⟩⟩⟩⟩⟩ F
  · have F := F.2 hc
    refine x_aload_n dX10_markEarlierSteps_33 rfl ?_
    refine x_getr (r' := 41) flX10_61 dX10_markEarlierSteps_34 (sW0 hW) (gW0 hW) (rW0_8 hW) rfl (Nat.le_of_ble_eq_true rfl) ?_
    refine x_iload_n dX10_markEarlierSteps_37 rfl ?_
    refine x_bipush dX10_markEarlierSteps_38 kb_8 (i32_of rfl) ?_
    obtain ⟨hz, F⟩ := F
    refine x_imul dX10_markEarlierSteps_40 hz ?_
    refine x_iload dX10_markEarlierSteps_41 rfl ?_
    refine x_si32 (i := 1) rfl (fun hk1 => ?_)
    obtain ⟨hz, F⟩ := F
    have hz := hz hk1
    refine x_iadd dX10_markEarlierSteps_43 hz ?_
    obtain ⟨P10, hC, F⟩ := F
    refine x_inv dY130_markEarlierSteps_44 mlY130_289 hC (sW41 hW) (Nat.le_of_ble_eq_true rfl) (gW41 hW) rfl rfl (by omega) (Nat.zero_le _) (Nat.zero_le _) (Nat.le_of_ble_eq_true rfl) (fun o1 Y13 w12 ht hP => ?_)
    obtain ⟨r11, rfl⟩ : ∃ i, o1 = some (0, i) := ht
    obtain ⟨rfl, hP⟩ := hP
    have F := F r11 w12 hP
    refine x_if_eq 63 dX10_markEarlierSteps_47 rfl (fun hc => ?_) (fun hc => ?_)
    · have F := F.1 hc
      obtain ⟨hz, F⟩ := F
      refine x_iinc [(2, 0), (0, a1), (0, x2), (2, x3), (0, (x4 + 1))] dX10_markEarlierSteps_63 rfl rfl (Nat.le_of_ble_eq_true rfl) hz ?_
      refine x_goto 24 dX10_markEarlierSteps_66 rfl ?_
      exact F
    · have F := F.2 hc
      refine x_aload_n dX10_markEarlierSteps_50 rfl ?_
      refine x_getr (r' := (X.2 x3 3)) flX10_179 dX10_markEarlierSteps_51 hs5 hr5 rfl rfl (Nat.le_of_ble_eq_true rfl) ?_
      refine x_iload dX10_markEarlierSteps_54 rfl ?_
      refine x_aload_n dX10_markEarlierSteps_56 rfl ?_
      refine x_getr (r' := 41) flX10_61 dX10_markEarlierSteps_57 (sW0 hW) (gW0 hW) (rW0_8 hW) rfl (Nat.le_of_ble_eq_true rfl) ?_
      obtain ⟨hs14, hr14, F⟩ := F
      obtain ⟨P15, hC, F⟩ := F
      refine x_inv dY180_markEarlierSteps_60 mlY180_183 hC hs14 (Nat.le_of_ble_eq_true rfl) hr14 rfl rfl (by omega) (Nat.zero_le _) (Nat.zero_le _) (Nat.le_of_ble_eq_true rfl) (fun o1 Y18 w17 ht hP => ?_)
      obtain rfl : o1 = none := ht
      obtain ⟨rfl, hP⟩ := hP
      have F := F w17 hP
      obtain ⟨hz, F⟩ := F
      refine x_iinc [(2, 0), (0, a1), (0, x2), (2, x3), (0, (x4 + 1))] dX10_markEarlierSteps_63 rfl rfl (Nat.le_of_ble_eq_true rfl) hz ?_
      refine x_goto 24 dX10_markEarlierSteps_66 rfl ?_
      exact F

set_option maxRecDepth 100000 in
set_option maxHeartbeats 4000000 in
theorem bX10_markTouched_0 {d mc ms : Nat} {X : XX} {v : VV} {Q : QQ} (a1 : Int) (a2 : Int) (hd : 3 ≤ d) (hW : SW X) (F : i32 a1 → i32 a2 → ∃ P1 : Option AV → VV → Prop, Con mX2_clear 0 0 0 [(2, 41)] X v (fun o X1 v1 => X1 = X ∧ P1 o v1) ∧ ∀ (w3 : VV), P1 none w3 → i32 (a1 * 8) ∧ (i32 (a1 * 8) → i32 ((a1 * 8) + a2)) ∧ ∃ P5 : Option AV → VV → Prop, Con mX2_add 0 0 0 [(2, 41), (0, ((a1 * 8) + a2))] X w3 (fun o X1 v1 => X1 = X ∧ P5 o v1) ∧ ∀ (w7 : VV), P5 none w7 → i32 (a1 + 1) ∧ Ex mX10_markTouched d 24 [(2, 0), (0, a1), (0, a2), (0, (a1 + 1)), (3, 0), (3, 0), (3, 0)] [] X w7 mc ms Q) : Ex mX10_markTouched d 0 [(2, 0), (0, a1), (0, a2), (3, 0), (3, 0), (3, 0), (3, 0)] [] X v mc ms Q := by
  refine x_li32 (i := 1) rfl (fun ha1 => ?_)
  have F := F ha1
  refine x_li32 (i := 2) rfl (fun ha2 => ?_)
  have F := F ha2
  refine x_aload_n dX10_markTouched_0 rfl ?_
  refine x_getr (r' := 41) flX10_61 dX10_markTouched_1 (sW0 hW) (gW0 hW) (rW0_8 hW) rfl (Nat.le_of_ble_eq_true rfl) ?_
  obtain ⟨P1, hC, F⟩ := F
  refine x_inv dY40_markTouched_4 mlY40_176 hC (sW41 hW) (Nat.le_of_ble_eq_true rfl) (gW41 hW) rfl rfl (by omega) (Nat.zero_le _) (Nat.zero_le _) (Nat.le_of_ble_eq_true rfl) (fun o1 Y4 w3 ht hP => ?_)
  obtain rfl : o1 = none := ht
  obtain ⟨rfl, hP⟩ := hP
  have F := F w3 hP
  refine x_aload_n dX10_markTouched_7 rfl ?_
  refine x_getr (r' := 41) flX10_61 dX10_markTouched_8 (sW0 hW) (gW0 hW) (rW0_8 hW) rfl (Nat.le_of_ble_eq_true rfl) ?_
  refine x_iload_n dX10_markTouched_11 rfl ?_
  refine x_bipush dX10_markTouched_12 kb_8 (i32_of rfl) ?_
  obtain ⟨hz, F⟩ := F
  refine x_imul dX10_markTouched_14 hz ?_
  refine x_iload_n dX10_markTouched_15 rfl ?_
  refine x_si32 (i := 1) rfl (fun hk1 => ?_)
  obtain ⟨hz, F⟩ := F
  have hz := hz hk1
  refine x_iadd dX10_markTouched_16 hz ?_
  obtain ⟨P5, hC, F⟩ := F
  refine x_inv dY80_markTouched_17 mlY80_290 hC (sW41 hW) (Nat.le_of_ble_eq_true rfl) (gW41 hW) rfl rfl (by omega) (Nat.zero_le _) (Nat.zero_le _) (Nat.le_of_ble_eq_true rfl) (fun o1 Y8 w7 ht hP => ?_)
  obtain rfl : o1 = none := ht
  obtain ⟨rfl, hP⟩ := hP
  have F := F w7 hP
  refine x_iload_n dX10_markTouched_20 rfl ?_
  refine x_iconst dX10_markTouched_21 rfl (i32_of rfl) ?_
  obtain ⟨hz, F⟩ := F
  refine x_iadd dX10_markTouched_22 hz ?_
  refine x_istore_n [(2, 0), (0, a1), (0, a2), (0, (a1 + 1)), (3, 0), (3, 0), (3, 0)] dX10_markTouched_23 rfl (Nat.le_of_ble_eq_true rfl) ?_
  exact F

set_option maxRecDepth 100000 in
set_option maxHeartbeats 4000000 in
theorem bX10_markTouched_24 {d mc ms : Nat} {X : XX} {v : VV} {Q : QQ} (a1 : Int) (a2 : Int) (x3 : Int) (hd : 3 ≤ d) (hW : SW X) (F : i32 a1 → i32 a2 → i32 x3 → (((16 ≤ x3) → Q none X v) ∧ ((x3 < 16) → ∃ P9 : Option AV → VV → Prop, Con mX10_tableAt 0 0 0 [(2, 0), (0, x3)] X v (fun o X1 v1 => X1 = X ∧ P9 o v1) ∧ ∀ (r10 : Int) (w11 : VV), P9 (some (2, r10)) w11 → (((¬ r10 = -1) → X.1.2 r10 = (7, 0) ∧ (0 ≤ r10 ∧ r10 < X.1.1) ∧ X.1.2 (X.2 r10 3) = (5, 0) ∧ (0 ≤ (X.2 r10 3) ∧ (X.2 r10 3) < X.1.1) ∧ ∃ P15 : Option AV → VV → Prop, Con mX5_usesMarked 2 0 0 [(2, (X.2 r10 3)), (0, 6), (2, 41)] X w11 (fun o X1 v1 => X1 = X ∧ P15 o v1) ∧ ∀ (r16 : Int) (w17 : VV), P15 (some (0, r16)) w17 → Ex mX10_markTouched d 64 [(2, 0), (0, a1), (0, a2), (0, x3), (2, r10), (0, r16), (0, 0)] [] X w17 mc ms Q) ∧ ((r10 = -1) → i32 (x3 + 1) ∧ Ex mX10_markTouched d 24 [(2, 0), (0, a1), (0, a2), (0, (x3 + 1)), (3, 0), (3, 0), (3, 0)] [] X w11 mc ms Q))))) : Ex mX10_markTouched d 24 [(2, 0), (0, a1), (0, a2), (0, x3), (3, 0), (3, 0), (3, 0)] [] X v mc ms Q := by
  refine x_li32 (i := 1) rfl (fun ha1 => ?_)
  have F := F ha1
  refine x_li32 (i := 2) rfl (fun ha2 => ?_)
  have F := F ha2
  refine x_li32 (i := 3) rfl (fun hx3 => ?_)
  have F := F hx3
  refine x_iload_n dX10_markTouched_24 rfl ?_
  refine x_bipush dX10_markTouched_25 kb_16 (i32_of rfl) ?_
  refine x_icmp_ge 122 dX10_markTouched_27 rfl (fun hc => ?_) (fun hc => ?_)
  · have F := F.1 hc
    exact x_ret none rfl ⟨dX10_markTouched_122, rfl⟩ F
  · have F := F.2 hc
    refine x_aload_n dX10_markTouched_30 rfl ?_
    refine x_iload_n dX10_markTouched_31 rfl ?_
    obtain ⟨P9, hC, F⟩ := F
    refine x_inv dY120_markTouched_32 mlY120_143 hC (sW0 hW) (Nat.le_of_ble_eq_true rfl) (gW0 hW) rfl rfl (by omega) (Nat.zero_le _) (Nat.zero_le _) (Nat.le_of_ble_eq_true rfl) (fun o1 Y12 w11 ht hP => ?_)
    obtain ⟨r10, rfl⟩ : ∃ i, o1 = some (2, i) := ht
    obtain ⟨rfl, hP⟩ := hP
    have F := F r10 w11 hP
    refine x_astore [(2, 0), (0, a1), (0, a2), (0, x3), (2, r10), (3, 0), (3, 0)] dX10_markTouched_35 rfl (Nat.le_of_ble_eq_true rfl) ?_
    refine x_aload dX10_markTouched_37 rfl ?_
    refine x_ifnonnull 45 dX10_markTouched_39 rfl (fun hc => ?_) (fun hc => ?_)
    · have F := F.1 hc
      refine x_aload dX10_markTouched_45 rfl ?_
      obtain ⟨hs13, hr13, F⟩ := F
      refine x_getr (r' := (X.2 r10 3)) flX10_179 dX10_markTouched_47 hs13 hr13 rfl rfl (Nat.le_of_ble_eq_true rfl) ?_
      refine x_bipush dX10_markTouched_50 kb_6 (i32_of rfl) ?_
      refine x_aload_n dX10_markTouched_52 rfl ?_
      refine x_getr (r' := 41) flX10_61 dX10_markTouched_53 (sW0 hW) (gW0 hW) (rW0_8 hW) rfl (Nat.le_of_ble_eq_true rfl) ?_
      obtain ⟨hs14, hr14, F⟩ := F
      obtain ⟨P15, hC, F⟩ := F
      refine x_inv dY180_markTouched_56 mlY180_291 hC hs14 (Nat.le_of_ble_eq_true rfl) hr14 rfl rfl (by omega) (Nat.zero_le _) (Nat.zero_le _) (Nat.le_of_ble_eq_true rfl) (fun o1 Y18 w17 ht hP => ?_)
      obtain ⟨r16, rfl⟩ : ∃ i, o1 = some (0, i) := ht
      obtain ⟨rfl, hP⟩ := hP
      have F := F r16 w17 hP
      refine x_istore [(2, 0), (0, a1), (0, a2), (0, x3), (2, r10), (0, r16), (3, 0)] dX10_markTouched_59 rfl (Nat.le_of_ble_eq_true rfl) ?_
      refine x_iconst dX10_markTouched_61 rfl (i32_of rfl) ?_
      refine x_istore [(2, 0), (0, a1), (0, a2), (0, x3), (2, r10), (0, r16), (0, 0)] dX10_markTouched_62 rfl (Nat.le_of_ble_eq_true rfl) ?_
      exact F
    · have F := F.2 hc
      refine x_goto 116 dX10_markTouched_42 rfl ?_
      obtain ⟨hz, F⟩ := F
      refine x_iinc [(2, 0), (0, a1), (0, a2), (0, (x3 + 1)), (2, r10), (3, 0), (3, 0)] dX10_markTouched_116 rfl rfl (Nat.le_of_ble_eq_true rfl) hz ?_
      refine x_goto 24 dX10_markTouched_119 rfl ?_
      exact x_less [(2, 0), (0, a1), (0, a2), (0, (x3 + 1)), (3, 0), (3, 0), (3, 0)] ⟨Or.inr rfl, ⟨Or.inr rfl, ⟨Or.inr rfl, ⟨Or.inr rfl, ⟨Or.inl rfl, ⟨Or.inr rfl, ⟨Or.inr rfl, trivial⟩⟩⟩⟩⟩⟩⟩ F

set_option maxRecDepth 100000 in
set_option maxHeartbeats 4000000 in
theorem bX10_markTouched_64 {d mc ms : Nat} {X : XX} {v : VV} {Q : QQ} (a1 : Int) (a2 : Int) (x3 : Int) (x4 : Int) (x5 : Int) (x6 : Int) (hd : 3 ≤ d) (hW : SW X) (F : i32 a1 → i32 a2 → i32 x3 → i32 x5 → i32 x6 → X.1.2 x4 = (7, 0) ∧ (0 ≤ x4 ∧ x4 < X.1.1) ∧ ∃ P20 : Option AV → VV → Prop, Con mX7_columnCount 0 0 0 [(2, x4)] X v (fun o X1 v1 => X1 = X ∧ P20 o v1) ∧ ∀ (r21 : Int) (w22 : VV), P20 (some (0, r21)) w22 → (((r21 ≤ x6) → i32 (x3 + 1) ∧ Ex mX10_markTouched d 24 [(2, 0), (0, a1), (0, a2), (0, (x3 + 1)), (3, 0), (3, 0), (3, 0)] [] X w22 mc ms Q) ∧ ((x6 < r21) → (((¬ x5 = 0) → Ex mX10_markTouched d 96 [(2, 0), (0, a1), (0, a2), (0, x3), (2, x4), (0, x5), (0, x6)] [] X w22 mc ms Q) ∧ ((x5 = 0) → X.1.2 (X.2 x4 3) = (5, 0) ∧ (0 ≤ (X.2 x4 3) ∧ (X.2 x4 3) < X.1.1) ∧ ∃ P25 : Option AV → VV → Prop, Con mX5_usesMarked 2 0 0 [(2, (X.2 x4 3)), (0, x6), (2, 41)] X w22 (fun o X1 v1 => X1 = X ∧ P25 o v1) ∧ ∀ (r26 : Int) (w27 : VV), P25 (some (0, r26)) w27 → (((r26 = 0) → i32 (x6 + 1) ∧ Ex mX10_markTouched d 64 [(2, 0), (0, a1), (0, a2), (0, x3), (2, x4), (0, x5), (0, (x6 + 1))] [] X w27 mc ms Q) ∧ ((¬ r26 = 0) → Ex mX10_markTouched d 96 [(2, 0), (0, a1), (0, a2), (0, x3), (2, x4), (0, x5), (0, x6)] [] X w27 mc ms Q))))))) : Ex mX10_markTouched d 64 [(2, 0), (0, a1), (0, a2), (0, x3), (2, x4), (0, x5), (0, x6)] [] X v mc ms Q := by
  refine x_li32 (i := 1) rfl (fun ha1 => ?_)
  have F := F ha1
  refine x_li32 (i := 2) rfl (fun ha2 => ?_)
  have F := F ha2
  refine x_li32 (i := 3) rfl (fun hx3 => ?_)
  have F := F hx3
  refine x_li32 (i := 5) rfl (fun hx5 => ?_)
  have F := F hx5
  refine x_li32 (i := 6) rfl (fun hx6 => ?_)
  have F := F hx6
  refine x_iload dX10_markTouched_64 rfl ?_
  refine x_aload dX10_markTouched_66 rfl ?_
  obtain ⟨hs19, hr19, F⟩ := F
  obtain ⟨P20, hC, F⟩ := F
  refine x_inv dY230_markTouched_68 mlY230_150 hC hs19 (Nat.le_of_ble_eq_true rfl) hr19 rfl rfl (by omega) (Nat.zero_le _) (Nat.zero_le _) (Nat.le_of_ble_eq_true rfl) (fun o1 Y23 w22 ht hP => ?_)
  obtain ⟨r21, rfl⟩ : ∃ i, o1 = some (0, i) := ht
  obtain ⟨rfl, hP⟩ := hP
  have F := F r21 w22 hP
  refine x_icmp_ge 116 dX10_markTouched_71 rfl (fun hc => ?_) (fun hc => ?_)
  · have F := F.1 hc
    obtain ⟨hz, F⟩ := F
    refine x_iinc [(2, 0), (0, a1), (0, a2), (0, (x3 + 1)), (2, x4), (0, x5), (0, x6)] dX10_markTouched_116 rfl rfl (Nat.le_of_ble_eq_true rfl) hz ?_
    refine x_goto 24 dX10_markTouched_119 rfl ?_
    exact x_less [(2, 0), (0, a1), (0, a2), (0, (x3 + 1)), (3, 0), (3, 0), (3, 0)] ⟨Or.inr rfl, ⟨Or.inr rfl, ⟨Or.inr rfl, ⟨Or.inr rfl, ⟨Or.inl rfl, ⟨Or.inl rfl, ⟨Or.inl rfl, trivial⟩⟩⟩⟩⟩⟩⟩ F
  · have F := F.2 hc
    refine x_iload dX10_markTouched_74 rfl ?_
    refine x_if_ne 96 dX10_markTouched_76 rfl (fun hc => ?_) (fun hc => ?_)
    · have F := F.1 hc
      exact F
    · have F := F.2 hc
      refine x_aload dX10_markTouched_79 rfl ?_
      refine x_getr (r' := (X.2 x4 3)) flX10_179 dX10_markTouched_81 hs19 hr19 rfl rfl (Nat.le_of_ble_eq_true rfl) ?_
      refine x_iload dX10_markTouched_84 rfl ?_
      refine x_aload_n dX10_markTouched_86 rfl ?_
      refine x_getr (r' := 41) flX10_61 dX10_markTouched_87 (sW0 hW) (gW0 hW) (rW0_8 hW) rfl (Nat.le_of_ble_eq_true rfl) ?_
      obtain ⟨hs24, hr24, F⟩ := F
      obtain ⟨P25, hC, F⟩ := F
      refine x_inv dY280_markTouched_90 mlY280_291 hC hs24 (Nat.le_of_ble_eq_true rfl) hr24 rfl rfl (by omega) (Nat.zero_le _) (Nat.zero_le _) (Nat.le_of_ble_eq_true rfl) (fun o1 Y28 w27 ht hP => ?_)
      obtain ⟨r26, rfl⟩ : ∃ i, o1 = some (0, i) := ht
      obtain ⟨rfl, hP⟩ := hP
      have F := F r26 w27 hP
      refine x_if_eq 110 dX10_markTouched_93 rfl (fun hc => ?_) (fun hc => ?_)
      · have F := F.1 hc
        obtain ⟨hz, F⟩ := F
        refine x_iinc [(2, 0), (0, a1), (0, a2), (0, x3), (2, x4), (0, x5), (0, (x6 + 1))] dX10_markTouched_110 rfl rfl (Nat.le_of_ble_eq_true rfl) hz ?_
        refine x_goto 64 dX10_markTouched_113 rfl ?_
        exact F
      · have F := F.2 hc
        exact F

set_option maxRecDepth 100000 in
set_option maxHeartbeats 4000000 in
theorem bX10_markTouched_96 {d mc ms : Nat} {X : XX} {v : VV} {Q : QQ} (a1 : Int) (a2 : Int) (x3 : Int) (x4 : Int) (x5 : Int) (x6 : Int) (hd : 3 ≤ d) (hW : SW X) (F : i32 a1 → i32 a2 → i32 x3 → i32 x5 → i32 x6 → i32 (x3 * 8) ∧ (i32 (x3 * 8) → i32 ((x3 * 8) + x6)) ∧ ∃ P29 : Option AV → VV → Prop, Con mX2_add 0 0 0 [(2, 41), (0, ((x3 * 8) + x6))] X v (fun o X1 v1 => X1 = X ∧ P29 o v1) ∧ ∀ (w31 : VV), P29 none w31 → i32 (x6 + 1) ∧ Ex mX10_markTouched d 64 [(2, 0), (0, a1), (0, a2), (0, x3), (2, x4), (0, x5), (0, (x6 + 1))] [] X w31 mc ms Q) : Ex mX10_markTouched d 96 [(2, 0), (0, a1), (0, a2), (0, x3), (2, x4), (0, x5), (0, x6)] [] X v mc ms Q := by
  refine x_li32 (i := 1) rfl (fun ha1 => ?_)
  have F := F ha1
  refine x_li32 (i := 2) rfl (fun ha2 => ?_)
  have F := F ha2
  refine x_li32 (i := 3) rfl (fun hx3 => ?_)
  have F := F hx3
  refine x_li32 (i := 5) rfl (fun hx5 => ?_)
  have F := F hx5
  refine x_li32 (i := 6) rfl (fun hx6 => ?_)
  have F := F hx6
  refine x_aload_n dX10_markTouched_96 rfl ?_
  refine x_getr (r' := 41) flX10_61 dX10_markTouched_97 (sW0 hW) (gW0 hW) (rW0_8 hW) rfl (Nat.le_of_ble_eq_true rfl) ?_
  refine x_iload_n dX10_markTouched_100 rfl ?_
  refine x_bipush dX10_markTouched_101 kb_8 (i32_of rfl) ?_
  obtain ⟨hz, F⟩ := F
  refine x_imul dX10_markTouched_103 hz ?_
  refine x_iload dX10_markTouched_104 rfl ?_
  refine x_si32 (i := 1) rfl (fun hk1 => ?_)
  obtain ⟨hz, F⟩ := F
  have hz := hz hk1
  refine x_iadd dX10_markTouched_106 hz ?_
  obtain ⟨P29, hC, F⟩ := F
  refine x_inv dY320_markTouched_107 mlY320_290 hC (sW41 hW) (Nat.le_of_ble_eq_true rfl) (gW41 hW) rfl rfl (by omega) (Nat.zero_le _) (Nat.zero_le _) (Nat.le_of_ble_eq_true rfl) (fun o1 Y32 w31 ht hP => ?_)
  obtain rfl : o1 = none := ht
  obtain ⟨rfl, hP⟩ := hP
  have F := F w31 hP
  obtain ⟨hz, F⟩ := F
  refine x_iinc [(2, 0), (0, a1), (0, a2), (0, x3), (2, x4), (0, x5), (0, (x6 + 1))] dX10_markTouched_110 rfl rfl (Nat.le_of_ble_eq_true rfl) hz ?_
  refine x_goto 64 dX10_markTouched_113 rfl ?_
  exact F

set_option maxRecDepth 100000 in
set_option maxHeartbeats 4000000 in
theorem bX10_findMarked_0 {d mc ms : Nat} {X : XX} {v : VV} {Q : QQ} (a1 : Int) (hd : 2 ≤ d) (hW : SW X) (F : i32 a1 → ∃ P1 : Option AV → VV → Prop, Con mX6_cutTo 0 0 0 [(2, 43), (0, 0)] X v (fun o X1 v1 => X1 = X ∧ P1 o v1) ∧ ∀ (w3 : VV), P1 none w3 → Ex mX10_findMarked d 10 [(2, 0), (0, a1), (0, 0), (3, 0)] [] X w3 mc ms Q) : Ex mX10_findMarked d 0 [(2, 0), (0, a1), (3, 0), (3, 0)] [] X v mc ms Q := by
  refine x_li32 (i := 1) rfl (fun ha1 => ?_)
  have F := F ha1
  refine x_aload_n dX10_findMarked_0 rfl ?_
  refine x_getr (r' := 43) flX10_65 dX10_findMarked_1 (sW0 hW) (gW0 hW) (rW0_9 hW) rfl (Nat.le_of_ble_eq_true rfl) ?_
  refine x_iconst dX10_findMarked_4 rfl (i32_of rfl) ?_
  obtain ⟨P1, hC, F⟩ := F
  refine x_inv dY40_findMarked_5 mlY40_82 hC (sW43 hW) (Nat.le_of_ble_eq_true rfl) (gW43 hW) rfl rfl (by omega) (Nat.zero_le _) (Nat.zero_le _) (Nat.le_of_ble_eq_true rfl) (fun o1 Y4 w3 ht hP => ?_)
  obtain rfl : o1 = none := ht
  obtain ⟨rfl, hP⟩ := hP
  have F := F w3 hP
  refine x_iconst dX10_findMarked_8 rfl (i32_of rfl) ?_
  refine x_istore_n [(2, 0), (0, a1), (0, 0), (3, 0)] dX10_findMarked_9 rfl (Nat.le_of_ble_eq_true rfl) ?_
  exact F

set_option maxRecDepth 100000 in
set_option maxHeartbeats 4000000 in
theorem bX10_findMarked_10 {d mc ms : Nat} {X : XX} {v : VV} {Q : QQ} (a1 : Int) (x2 : Int) (hd : 2 ≤ d) (hW : SW X) (F : i32 a1 → i32 x2 → (((128 ≤ x2) → ∃ P5 : Option AV → VV → Prop, Con mX6_size 0 0 0 [(2, 43)] X v (fun o X1 v1 => X1 = X ∧ P5 o v1) ∧ ∀ (r6 : Int) (w7 : VV), P5 (some (0, r6)) w7 → Q (some (0, r6)) X w7) ∧ ((x2 < 128) → (0 ≤ x2 ∧ 0 < 8) ∧ ∃ P9 : Option AV → VV → Prop, Con mX10_tableAt 0 0 0 [(2, 0), (0, (x2 / 8))] X v (fun o X1 v1 => X1 = X ∧ P9 o v1) ∧ ∀ (r10 : Int) (w11 : VV), P9 (some (2, r10)) w11 → (((r10 = -1) → i32 (x2 + 1) ∧ Ex mX10_findMarked d 10 [(2, 0), (0, a1), (0, (x2 + 1)), (3, 0)] [] X w11 mc ms Q) ∧ ((¬ r10 = -1) → (((a1 = 0) → Ex mX10_findMarked d 44 [(2, 0), (0, a1), (0, x2), (2, r10)] [] X w11 mc ms Q) ∧ ((¬ a1 = 0) → X.1.2 r10 = (7, 0) ∧ (0 ≤ r10 ∧ r10 < X.1.1) ∧ ((((w11 r10 5) = 0) → Ex mX10_findMarked d 44 [(2, 0), (0, a1), (0, x2), (2, r10)] [] X w11 mc ms Q) ∧ ((¬ (w11 r10 5) = 0) → i32 (x2 + 1) ∧ Ex mX10_findMarked d 10 [(2, 0), (0, a1), (0, (x2 + 1)), (3, 0)] [] X w11 mc ms Q))))))))) : Ex mX10_findMarked d 10 [(2, 0), (0, a1), (0, x2), (3, 0)] [] X v mc ms Q := by
  refine x_li32 (i := 1) rfl (fun ha1 => ?_)
  have F := F ha1
  refine x_li32 (i := 2) rfl (fun hx2 => ?_)
  have F := F hx2
  refine x_iload_n dX10_findMarked_10 rfl ?_
  refine x_sipush dX10_findMarked_11 ks_128 (i32_of rfl) ?_
  refine x_icmp_ge 69 dX10_findMarked_14 rfl (fun hc => ?_) (fun hc => ?_)
  · have F := F.1 hc
    refine x_aload_n dX10_findMarked_69 rfl ?_
    refine x_getr (r' := 43) flX10_65 dX10_findMarked_70 (sW0 hW) (gW0 hW) (rW0_9 hW) rfl (Nat.le_of_ble_eq_true rfl) ?_
    obtain ⟨P5, hC, F⟩ := F
    refine x_inv dY80_findMarked_73 mlY80_75 hC (sW43 hW) (Nat.le_of_ble_eq_true rfl) (gW43 hW) rfl rfl (by omega) (Nat.zero_le _) (Nat.zero_le _) (Nat.le_of_ble_eq_true rfl) (fun o1 Y8 w7 ht hP => ?_)
    obtain ⟨r6, rfl⟩ : ∃ i, o1 = some (0, i) := ht
    obtain ⟨rfl, hP⟩ := hP
    have F := F r6 w7 hP
    exact x_ret (some (0, r6)) rfl ⟨dX10_findMarked_76, Or.inl rfl⟩ F
  · have F := F.2 hc
    refine x_aload_n dX10_findMarked_17 rfl ?_
    refine x_iload_n dX10_findMarked_18 rfl ?_
    refine x_bipush dX10_findMarked_19 kb_8 (i32_of rfl) ?_
    obtain ⟨hz, F⟩ := F
    refine x_si32 (i := 0) rfl (fun hk0 => ?_)
    refine x_si32 (i := 1) rfl (fun hk1 => ?_)
    refine x_idiv (z := (x2 / 8)) dX10_findMarked_21 (idiv_ne hk0 hz.2) (idiv_nn hk1 hk0 hz.1 hz.2) (idiv_ok hk1 hk0 hz.1 hz.2) ?_
    obtain ⟨P9, hC, F⟩ := F
    refine x_inv dY120_findMarked_22 mlY120_143 hC (sW0 hW) (Nat.le_of_ble_eq_true rfl) (gW0 hW) rfl rfl (by omega) (Nat.zero_le _) (Nat.zero_le _) (Nat.le_of_ble_eq_true rfl) (fun o1 Y12 w11 ht hP => ?_)
    obtain ⟨r10, rfl⟩ : ∃ i, o1 = some (2, i) := ht
    obtain ⟨rfl, hP⟩ := hP
    have F := F r10 w11 hP
    refine x_astore_n [(2, 0), (0, a1), (0, x2), (2, r10)] dX10_findMarked_25 rfl (Nat.le_of_ble_eq_true rfl) ?_
    refine x_aload_n dX10_findMarked_26 rfl ?_
    refine x_ifnull 63 dX10_findMarked_27 rfl (fun hc => ?_) (fun hc => ?_)
    · have F := F.1 hc
      obtain ⟨hz, F⟩ := F
      refine x_iinc [(2, 0), (0, a1), (0, (x2 + 1)), (2, r10)] dX10_findMarked_63 rfl rfl (Nat.le_of_ble_eq_true rfl) hz ?_
      refine x_goto 10 dX10_findMarked_66 rfl ?_
      exact x_less [(2, 0), (0, a1), (0, (x2 + 1)), (3, 0)] ⟨Or.inr rfl, ⟨Or.inr rfl, ⟨Or.inr rfl, ⟨Or.inl rfl, trivial⟩⟩⟩⟩ F
    · have F := F.2 hc
      refine x_iload_n dX10_findMarked_30 rfl ?_
      refine x_if_eq 44 dX10_findMarked_31 rfl (fun hc => ?_) (fun hc => ?_)
      · have F := F.1 hc
        exact F
      · have F := F.2 hc
        refine x_aload_n dX10_findMarked_34 rfl ?_
        obtain ⟨hs13, hr13, F⟩ := F
        refine x_geti (e := (w11 r10 5)) 0 flX10_147 dX10_findMarked_35 hs13 hr13 rfl rfl (Nat.le_of_ble_eq_true rfl) (tagn2 rfl) ?_
        refine x_if_eq 44 dX10_findMarked_38 rfl (fun hc => ?_) (fun hc => ?_)
        · have F := F.1 hc
          exact F
        · have F := F.2 hc
          refine x_goto 63 dX10_findMarked_41 rfl ?_
          obtain ⟨hz, F⟩ := F
          refine x_iinc [(2, 0), (0, a1), (0, (x2 + 1)), (2, r10)] dX10_findMarked_63 rfl rfl (Nat.le_of_ble_eq_true rfl) hz ?_
          refine x_goto 10 dX10_findMarked_66 rfl ?_
          exact x_less [(2, 0), (0, a1), (0, (x2 + 1)), (3, 0)] ⟨Or.inr rfl, ⟨Or.inr rfl, ⟨Or.inr rfl, ⟨Or.inl rfl, trivial⟩⟩⟩⟩ F

set_option maxRecDepth 100000 in
set_option maxHeartbeats 4000000 in
theorem bX10_findMarked_44 {d mc ms : Nat} {X : XX} {v : VV} {Q : QQ} (a1 : Int) (x2 : Int) (x3 : Int) (hd : 2 ≤ d) (hW : SW X) (F : i32 a1 → i32 x2 → ∃ P14 : Option AV → VV → Prop, Con mX2_has 1 0 0 [(2, 41), (0, x2)] X v (fun o X1 v1 => X1 = X ∧ P14 o v1) ∧ ∀ (r15 : Int) (w16 : VV), P14 (some (0, r15)) w16 → (((r15 = 0) → i32 (x2 + 1) ∧ Ex mX10_findMarked d 10 [(2, 0), (0, a1), (0, (x2 + 1)), (3, 0)] [] X w16 mc ms Q) ∧ ((¬ r15 = 0) → ∃ P18 : Option AV → VV → Prop, Con mX6_add 0 0 0 [(2, 43), (0, x2)] X w16 (fun o X1 v1 => X1 = X ∧ P18 o v1) ∧ ∀ (w20 : VV), P18 none w20 → i32 (x2 + 1) ∧ Ex mX10_findMarked d 10 [(2, 0), (0, a1), (0, (x2 + 1)), (3, 0)] [] X w20 mc ms Q))) : Ex mX10_findMarked d 44 [(2, 0), (0, a1), (0, x2), (2, x3)] [] X v mc ms Q := by
  refine x_li32 (i := 1) rfl (fun ha1 => ?_)
  have F := F ha1
  refine x_li32 (i := 2) rfl (fun hx2 => ?_)
  have F := F hx2
  refine x_aload_n dX10_findMarked_44 rfl ?_
  refine x_getr (r' := 41) flX10_61 dX10_findMarked_45 (sW0 hW) (gW0 hW) (rW0_8 hW) rfl (Nat.le_of_ble_eq_true rfl) ?_
  refine x_iload_n dX10_findMarked_48 rfl ?_
  obtain ⟨P14, hC, F⟩ := F
  refine x_inv dY170_findMarked_49 mlY170_289 hC (sW41 hW) (Nat.le_of_ble_eq_true rfl) (gW41 hW) rfl rfl (by omega) (Nat.zero_le _) (Nat.zero_le _) (Nat.le_of_ble_eq_true rfl) (fun o1 Y17 w16 ht hP => ?_)
  obtain ⟨r15, rfl⟩ : ∃ i, o1 = some (0, i) := ht
  obtain ⟨rfl, hP⟩ := hP
  have F := F r15 w16 hP
  refine x_if_eq 63 dX10_findMarked_52 rfl (fun hc => ?_) (fun hc => ?_)
  · have F := F.1 hc
    obtain ⟨hz, F⟩ := F
    refine x_iinc [(2, 0), (0, a1), (0, (x2 + 1)), (2, x3)] dX10_findMarked_63 rfl rfl (Nat.le_of_ble_eq_true rfl) hz ?_
    refine x_goto 10 dX10_findMarked_66 rfl ?_
    exact x_less [(2, 0), (0, a1), (0, (x2 + 1)), (3, 0)] ⟨Or.inr rfl, ⟨Or.inr rfl, ⟨Or.inr rfl, ⟨Or.inl rfl, trivial⟩⟩⟩⟩ F
  · have F := F.2 hc
    refine x_aload_n dX10_findMarked_55 rfl ?_
    refine x_getr (r' := 43) flX10_65 dX10_findMarked_56 (sW0 hW) (gW0 hW) (rW0_9 hW) rfl (Nat.le_of_ble_eq_true rfl) ?_
    refine x_iload_n dX10_findMarked_59 rfl ?_
    obtain ⟨P18, hC, F⟩ := F
    refine x_inv dY210_findMarked_60 mlY210_212 hC (sW43 hW) (Nat.le_of_ble_eq_true rfl) (gW43 hW) rfl rfl (by omega) (Nat.zero_le _) (Nat.zero_le _) (Nat.le_of_ble_eq_true rfl) (fun o1 Y21 w20 ht hP => ?_)
    obtain rfl : o1 = none := ht
    obtain ⟨rfl, hP⟩ := hP
    have F := F w20 hP
    obtain ⟨hz, F⟩ := F
    refine x_iinc [(2, 0), (0, a1), (0, (x2 + 1)), (2, x3)] dX10_findMarked_63 rfl rfl (Nat.le_of_ble_eq_true rfl) hz ?_
    refine x_goto 10 dX10_findMarked_66 rfl ?_
    exact x_less [(2, 0), (0, a1), (0, (x2 + 1)), (3, 0)] ⟨Or.inr rfl, ⟨Or.inr rfl, ⟨Or.inr rfl, ⟨Or.inl rfl, trivial⟩⟩⟩⟩ F

set_option maxRecDepth 100000 in
set_option maxHeartbeats 4000000 in
theorem bX10_tryTypes_0 {d mc ms : Nat} {X : XX} {v : VV} {Q : QQ} (a1 : Int) (hd : 4 ≤ d) (hW : SW X) (F : i32 a1 → ∃ P1 : Option AV → VV → Prop, Con mX10_tableAt 0 0 0 [(2, 0), (0, a1)] X v (fun o X1 v1 => X1 = X ∧ P1 o v1) ∧ ∀ (r2 : Int) (w3 : VV), P1 (some (2, r2)) w3 → (((r2 = -1) → Q none X w3) ∧ ((¬ r2 = -1) → X.1.2 r2 = (7, 0) ∧ (0 ≤ r2 ∧ r2 < X.1.1) ∧ ∃ P6 : Option AV → VV → Prop, Con mX7_hasSelect 0 0 0 [(2, r2)] X w3 (fun o X1 v1 => X1 = X ∧ P6 o v1) ∧ ∀ (r7 : Int) (w8 : VV), P6 (some (0, r7)) w8 → (((¬ r7 = 0) → Ex mX10_tryTypes d 20 [(2, 0), (0, a1), (2, r2), (0, 0), (3, 0)] [] X w8 mc ms Q) ∧ ((r7 = 0) → Q none X w8))))) : Ex mX10_tryTypes d 0 [(2, 0), (0, a1), (3, 0), (3, 0), (3, 0)] [] X v mc ms Q := by
  refine x_li32 (i := 1) rfl (fun ha1 => ?_)
  have F := F ha1
  refine x_aload_n dX10_tryTypes_0 rfl ?_
  refine x_iload_n dX10_tryTypes_1 rfl ?_
  obtain ⟨P1, hC, F⟩ := F
  refine x_inv dY40_tryTypes_2 mlY40_143 hC (sW0 hW) (Nat.le_of_ble_eq_true rfl) (gW0 hW) rfl rfl (by omega) (Nat.zero_le _) (Nat.zero_le _) (Nat.le_of_ble_eq_true rfl) (fun o1 Y4 w3 ht hP => ?_)
  obtain ⟨r2, rfl⟩ : ∃ i, o1 = some (2, i) := ht
  obtain ⟨rfl, hP⟩ := hP
  have F := F r2 w3 hP
  refine x_astore_n [(2, 0), (0, a1), (2, r2), (3, 0), (3, 0)] dX10_tryTypes_5 rfl (Nat.le_of_ble_eq_true rfl) ?_
  refine x_aload_n dX10_tryTypes_6 rfl ?_
  refine x_ifnull 17 dX10_tryTypes_7 rfl (fun hc => ?_) (fun hc => ?_)
  · have F := F.1 hc
    exact x_ret none rfl ⟨dX10_tryTypes_17, rfl⟩ F
  · have F := F.2 hc
    refine x_aload_n dX10_tryTypes_10 rfl ?_
    obtain ⟨hs5, hr5, F⟩ := F
    obtain ⟨P6, hC, F⟩ := F
    refine x_inv dY90_tryTypes_11 mlY90_269 hC hs5 (Nat.le_of_ble_eq_true rfl) hr5 rfl rfl (by omega) (Nat.zero_le _) (Nat.zero_le _) (Nat.le_of_ble_eq_true rfl) (fun o1 Y9 w8 ht hP => ?_)
    obtain ⟨r7, rfl⟩ : ∃ i, o1 = some (0, i) := ht
    obtain ⟨rfl, hP⟩ := hP
    have F := F r7 w8 hP
    refine x_if_ne 18 dX10_tryTypes_14 rfl (fun hc => ?_) (fun hc => ?_)
    · have F := F.1 hc
      refine x_iconst dX10_tryTypes_18 rfl (i32_of rfl) ?_
      refine x_istore_n [(2, 0), (0, a1), (2, r2), (0, 0), (3, 0)] dX10_tryTypes_19 rfl (Nat.le_of_ble_eq_true rfl) ?_
      exact F
    · have F := F.2 hc
      exact x_ret none rfl ⟨dX10_tryTypes_17, rfl⟩ F

set_option maxRecDepth 100000 in
set_option maxHeartbeats 4000000 in
theorem bX10_tryTypes_20 {d mc ms : Nat} {X : XX} {v : VV} {Q : QQ} (a1 : Int) (x2 : Int) (x3 : Int) (hd : 4 ≤ d) (hW : SW X) (F : i32 a1 → i32 x3 → X.1.2 x2 = (7, 0) ∧ (0 ≤ x2 ∧ x2 < X.1.1) ∧ ∃ P11 : Option AV → VV → Prop, Con mX7_columnCount 0 0 0 [(2, x2)] X v (fun o X1 v1 => X1 = X ∧ P11 o v1) ∧ ∀ (r12 : Int) (w13 : VV), P11 (some (0, r12)) w13 → (((r12 ≤ x3) → ∃ P15 : Option AV → VV → Prop, Con mX9_typeOfPart 3 0 0 [(2, 35), (2, (X.2 x2 3)), (0, 6), (2, 39)] X w13 (fun o X1 v1 => X1 = X ∧ P15 o v1) ∧ ∀ (r16 : Int) (w17 : VV), P15 (some (0, r16)) w17 → ((((w17 35 2) = (-1)) → Q none X w17) ∧ ((¬ (w17 35 2) = (-1)) → i32 (a1 * 8) ∧ (i32 (a1 * 8) → i32 ((a1 * 8) + 6)) ∧ ∃ P19 : Option AV → VV → Prop, Con mX6_add 0 0 0 [(2, 45), (0, ((a1 * 8) + 6))] X w17 (fun o X1 v1 => X1 = X ∧ P19 o v1) ∧ ∀ (w21 : VV), P19 none w21 → Q none X w21))) ∧ ((x3 < r12) → ∃ P23 : Option AV → VV → Prop, Con mX9_typeOfPart 3 0 0 [(2, 35), (2, (X.2 x2 3)), (0, x3), (2, 39)] X w13 (fun o X1 v1 => X1 = X ∧ P23 o v1) ∧ ∀ (r24 : Int) (w25 : VV), P23 (some (0, r24)) w25 → (((¬ (w25 35 2) = (-1)) → i32 (a1 * 8) ∧ (i32 (a1 * 8) → i32 ((a1 * 8) + x3)) ∧ ∃ P27 : Option AV → VV → Prop, Con mX6_add 0 0 0 [(2, 45), (0, ((a1 * 8) + x3))] X w25 (fun o X1 v1 => X1 = X ∧ P27 o v1) ∧ ∀ (w29 : VV), P27 none w29 → i32 (x3 + 1) ∧ Ex mX10_tryTypes d 20 [(2, 0), (0, a1), (2, x2), (0, (x3 + 1)), (3, 0)] [] X w29 mc ms Q) ∧ (((w25 35 2) = (-1)) → i32 (a1 * 8) ∧ (i32 (a1 * 8) → i32 ((a1 * 8) + x3)) ∧ (0 ≤ ((a1 * 8) + x3) ∧ ((a1 * 8) + x3) < 128) ∧ i32 (x3 + 1) ∧ Ex mX10_tryTypes d 20 [(2, 0), (0, a1), (2, x2), (0, (x3 + 1)), (3, 0)] [] X (upd2 w25 39 ((a1 * 8) + x3) r24) mc ms Q))))) : Ex mX10_tryTypes d 20 [(2, 0), (0, a1), (2, x2), (0, x3), (3, 0)] [] X v mc ms Q := by
  refine x_li32 (i := 1) rfl (fun ha1 => ?_)
  have F := F ha1
  refine x_li32 (i := 3) rfl (fun hx3 => ?_)
  have F := F hx3
  refine x_iload_n dX10_tryTypes_20 rfl ?_
  refine x_aload_n dX10_tryTypes_21 rfl ?_
  obtain ⟨hs10, hr10, F⟩ := F
  obtain ⟨P11, hC, F⟩ := F
  refine x_inv dY140_tryTypes_22 mlY140_150 hC hs10 (Nat.le_of_ble_eq_true rfl) hr10 rfl rfl (by omega) (Nat.zero_le _) (Nat.zero_le _) (Nat.le_of_ble_eq_true rfl) (fun o1 Y14 w13 ht hP => ?_)
  obtain ⟨r12, rfl⟩ : ∃ i, o1 = some (0, i) := ht
  obtain ⟨rfl, hP⟩ := hP
  have F := F r12 w13 hP
  refine x_icmp_ge 92 dX10_tryTypes_25 rfl (fun hc => ?_) (fun hc => ?_)
  · have F := F.1 hc
    refine x_aload_n dX10_tryTypes_92 rfl ?_
    refine x_getr (r' := 35) flX10_35 dX10_tryTypes_93 (sW0 hW) (gW0 hW) (rW0_3 hW) rfl (Nat.le_of_ble_eq_true rfl) ?_
    refine x_aload_n dX10_tryTypes_96 rfl ?_
    refine x_getr (r' := (X.2 x2 3)) flX10_179 dX10_tryTypes_97 hs10 hr10 rfl rfl (Nat.le_of_ble_eq_true rfl) ?_
    refine x_bipush dX10_tryTypes_100 kb_6 (i32_of rfl) ?_
    refine x_aload_n dX10_tryTypes_102 rfl ?_
    refine x_getr (r' := 39) flX10_49 dX10_tryTypes_103 (sW0 hW) (gW0 hW) (rW0_6 hW) rfl (Nat.le_of_ble_eq_true rfl) ?_
    obtain ⟨P15, hC, F⟩ := F
    refine x_inv dY180_tryTypes_106 mlY180_295 hC (sW35 hW) (Nat.le_of_ble_eq_true rfl) (gW35 hW) rfl rfl (by omega) (Nat.zero_le _) (Nat.zero_le _) (Nat.le_of_ble_eq_true rfl) (fun o1 Y18 w17 ht hP => ?_)
    obtain ⟨r16, rfl⟩ : ∃ i, o1 = some (0, i) := ht
    obtain ⟨rfl, hP⟩ := hP
    have F := F r16 w17 hP
    refine x_pop dX10_tryTypes_109 (tag1 rfl) ?_
    refine x_aload_n dX10_tryTypes_110 rfl ?_
    refine x_getr (r' := 35) flX10_35 dX10_tryTypes_111 (sW0 hW) (gW0 hW) (rW0_3 hW) rfl (Nat.le_of_ble_eq_true rfl) ?_
    refine x_geti (e := (w17 35 2)) 0 flX10_299 dX10_tryTypes_114 (sW35 hW) (gW35 hW) rfl rfl (Nat.le_of_ble_eq_true rfl) (tagn2 rfl) ?_
    refine x_iconst dX10_tryTypes_117 rfl (i32_of rfl) ?_
    refine x_icmp_eq 135 dX10_tryTypes_118 rfl (fun hc => ?_) (fun hc => ?_)
    · have F := F.1 hc
      exact x_ret none rfl ⟨dX10_tryTypes_135, rfl⟩ F
    · have F := F.2 hc
      refine x_aload_n dX10_tryTypes_121 rfl ?_
      refine x_getr (r' := 45) flX10_68 dX10_tryTypes_122 (sW0 hW) (gW0 hW) (rW0_10 hW) rfl (Nat.le_of_ble_eq_true rfl) ?_
      refine x_iload_n dX10_tryTypes_125 rfl ?_
      refine x_bipush dX10_tryTypes_126 kb_8 (i32_of rfl) ?_
      obtain ⟨hz, F⟩ := F
      refine x_imul dX10_tryTypes_128 hz ?_
      refine x_bipush dX10_tryTypes_129 kb_6 (i32_of rfl) ?_
      refine x_si32 (i := 1) rfl (fun hk1 => ?_)
      obtain ⟨hz, F⟩ := F
      have hz := hz hk1
      refine x_iadd dX10_tryTypes_131 hz ?_
      obtain ⟨P19, hC, F⟩ := F
      refine x_inv dY220_tryTypes_132 mlY220_212 hC (sW45 hW) (Nat.le_of_ble_eq_true rfl) (gW45 hW) rfl rfl (by omega) (Nat.zero_le _) (Nat.zero_le _) (Nat.le_of_ble_eq_true rfl) (fun o1 Y22 w21 ht hP => ?_)
      obtain rfl : o1 = none := ht
      obtain ⟨rfl, hP⟩ := hP
      have F := F w21 hP
      exact x_ret none rfl ⟨dX10_tryTypes_135, rfl⟩ F
  · have F := F.2 hc
    refine x_aload_n dX10_tryTypes_28 rfl ?_
    refine x_getr (r' := 35) flX10_35 dX10_tryTypes_29 (sW0 hW) (gW0 hW) (rW0_3 hW) rfl (Nat.le_of_ble_eq_true rfl) ?_
    refine x_aload_n dX10_tryTypes_32 rfl ?_
    refine x_getr (r' := (X.2 x2 3)) flX10_179 dX10_tryTypes_33 hs10 hr10 rfl rfl (Nat.le_of_ble_eq_true rfl) ?_
    refine x_iload_n dX10_tryTypes_36 rfl ?_
    refine x_aload_n dX10_tryTypes_37 rfl ?_
    refine x_getr (r' := 39) flX10_49 dX10_tryTypes_38 (sW0 hW) (gW0 hW) (rW0_6 hW) rfl (Nat.le_of_ble_eq_true rfl) ?_
    obtain ⟨P23, hC, F⟩ := F
    refine x_inv dY260_tryTypes_41 mlY260_295 hC (sW35 hW) (Nat.le_of_ble_eq_true rfl) (gW35 hW) rfl rfl (by omega) (Nat.zero_le _) (Nat.zero_le _) (Nat.le_of_ble_eq_true rfl) (fun o1 Y26 w25 ht hP => ?_)
    obtain ⟨r24, rfl⟩ : ∃ i, o1 = some (0, i) := ht
    obtain ⟨rfl, hP⟩ := hP
    have F := F r24 w25 hP
    refine x_istore [(2, 0), (0, a1), (2, x2), (0, x3), (0, r24)] dX10_tryTypes_44 rfl (Nat.le_of_ble_eq_true rfl) ?_
    refine x_aload_n dX10_tryTypes_46 rfl ?_
    refine x_getr (r' := 35) flX10_35 dX10_tryTypes_47 (sW0 hW) (gW0 hW) (rW0_3 hW) rfl (Nat.le_of_ble_eq_true rfl) ?_
    refine x_geti (e := (w25 35 2)) 0 flX10_299 dX10_tryTypes_50 (sW35 hW) (gW35 hW) rfl rfl (Nat.le_of_ble_eq_true rfl) (tagn2 rfl) ?_
    refine x_iconst dX10_tryTypes_53 rfl (i32_of rfl) ?_
    refine x_icmp_ne 73 dX10_tryTypes_54 rfl (fun hc => ?_) (fun hc => ?_)
    · have F := F.1 hc
      refine x_aload_n dX10_tryTypes_73 rfl ?_
      refine x_getr (r' := 45) flX10_68 dX10_tryTypes_74 (sW0 hW) (gW0 hW) (rW0_10 hW) rfl (Nat.le_of_ble_eq_true rfl) ?_
      refine x_iload_n dX10_tryTypes_77 rfl ?_
      refine x_bipush dX10_tryTypes_78 kb_8 (i32_of rfl) ?_
      obtain ⟨hz, F⟩ := F
      refine x_imul dX10_tryTypes_80 hz ?_
      refine x_iload_n dX10_tryTypes_81 rfl ?_
      refine x_si32 (i := 1) rfl (fun hk1 => ?_)
      obtain ⟨hz, F⟩ := F
      have hz := hz hk1
      refine x_iadd dX10_tryTypes_82 hz ?_
      obtain ⟨P27, hC, F⟩ := F
      refine x_inv dY300_tryTypes_83 mlY300_212 hC (sW45 hW) (Nat.le_of_ble_eq_true rfl) (gW45 hW) rfl rfl (by omega) (Nat.zero_le _) (Nat.zero_le _) (Nat.le_of_ble_eq_true rfl) (fun o1 Y30 w29 ht hP => ?_)
      obtain rfl : o1 = none := ht
      obtain ⟨rfl, hP⟩ := hP
      have F := F w29 hP
      obtain ⟨hz, F⟩ := F
      refine x_iinc [(2, 0), (0, a1), (2, x2), (0, (x3 + 1)), (0, r24)] dX10_tryTypes_86 rfl rfl (Nat.le_of_ble_eq_true rfl) hz ?_
      refine x_goto 20 dX10_tryTypes_89 rfl ?_
      exact x_less [(2, 0), (0, a1), (2, x2), (0, (x3 + 1)), (3, 0)] ⟨Or.inr rfl, ⟨Or.inr rfl, ⟨Or.inr rfl, ⟨Or.inr rfl, ⟨Or.inl rfl, trivial⟩⟩⟩⟩⟩ F
    · have F := F.2 hc
      refine x_aload_n dX10_tryTypes_57 rfl ?_
      refine x_getr (r' := 39) flX10_49 dX10_tryTypes_58 (sW0 hW) (gW0 hW) (rW0_6 hW) rfl (Nat.le_of_ble_eq_true rfl) ?_
      refine x_iload_n dX10_tryTypes_61 rfl ?_
      refine x_bipush dX10_tryTypes_62 kb_8 (i32_of rfl) ?_
      obtain ⟨hz, F⟩ := F
      refine x_imul dX10_tryTypes_64 hz ?_
      refine x_iload_n dX10_tryTypes_65 rfl ?_
      refine x_si32 (i := 1) rfl (fun hk1 => ?_)
      obtain ⟨hz, F⟩ := F
      have hz := hz hk1
      refine x_iadd dX10_tryTypes_66 hz ?_
      refine x_iload dX10_tryTypes_67 rfl ?_
      obtain ⟨hi, F⟩ := F
      refine x_iast dX10_tryTypes_69 (sW39 hW) (gW39 hW) hi ?_
      refine x_goto 86 dX10_tryTypes_70 rfl ?_
      obtain ⟨hz, F⟩ := F
      refine x_iinc [(2, 0), (0, a1), (2, x2), (0, (x3 + 1)), (0, r24)] dX10_tryTypes_86 rfl rfl (Nat.le_of_ble_eq_true rfl) hz ?_
      refine x_goto 20 dX10_tryTypes_89 rfl ?_
      exact x_less [(2, 0), (0, a1), (2, x2), (0, (x3 + 1)), (3, 0)] ⟨Or.inr rfl, ⟨Or.inr rfl, ⟨Or.inr rfl, ⟨Or.inr rfl, ⟨Or.inl rfl, trivial⟩⟩⟩⟩⟩ F

set_option maxRecDepth 100000 in
set_option maxHeartbeats 4000000 in
theorem bX10_countRetypedBeside_0 {d mc ms : Nat} {X : XX} {v : VV} {Q : QQ} (a1 : Int) (hd : 0 ≤ d) (hW : SW X) (F : i32 a1 → Ex mX10_countRetypedBeside d 4 [(2, 0), (0, a1), (0, 0), (0, 0)] [] X v mc ms Q) : Ex mX10_countRetypedBeside d 0 [(2, 0), (0, a1), (3, 0), (3, 0)] [] X v mc ms Q := by
  refine x_li32 (i := 1) rfl (fun ha1 => ?_)
  have F := F ha1
  refine x_iconst dX10_countRetypedBeside_0 rfl (i32_of rfl) ?_
  refine x_istore_n [(2, 0), (0, a1), (0, 0), (3, 0)] dX10_countRetypedBeside_1 rfl (Nat.le_of_ble_eq_true rfl) ?_
  refine x_iconst dX10_countRetypedBeside_2 rfl (i32_of rfl) ?_
  refine x_istore_n [(2, 0), (0, a1), (0, 0), (0, 0)] dX10_countRetypedBeside_3 rfl (Nat.le_of_ble_eq_true rfl) ?_
  exact F

set_option maxRecDepth 100000 in
set_option maxHeartbeats 4000000 in
theorem bX10_countRetypedBeside_4 {d mc ms : Nat} {X : XX} {v : VV} {Q : QQ} (a1 : Int) (x2 : Int) (x3 : Int) (hd : 0 ≤ d) (hW : SW X) (F : i32 a1 → i32 x2 → i32 x3 → (((128 ≤ x3) → Q (some (0, x2)) X v) ∧ ((x3 < 128) → (((x3 = a1) → i32 (x3 + 1) ∧ Ex mX10_countRetypedBeside d 4 [(2, 0), (0, a1), (0, x2), (0, (x3 + 1))] [] X v mc ms Q) ∧ ((¬ x3 = a1) → (0 ≤ x3 ∧ x3 < 128) ∧ (0 ≤ x3 ∧ x3 < 128) ∧ ((((v 39 x3) = (v 38 x3)) → i32 (x3 + 1) ∧ Ex mX10_countRetypedBeside d 4 [(2, 0), (0, a1), (0, x2), (0, (x3 + 1))] [] X v mc ms Q) ∧ ((¬ (v 39 x3) = (v 38 x3)) → i32 (x2 + 1) ∧ i32 (x3 + 1) ∧ Ex mX10_countRetypedBeside d 4 [(2, 0), (0, a1), (0, (x2 + 1)), (0, (x3 + 1))] [] X v mc ms Q))))))) : Ex mX10_countRetypedBeside d 4 [(2, 0), (0, a1), (0, x2), (0, x3)] [] X v mc ms Q := by
  refine x_li32 (i := 1) rfl (fun ha1 => ?_)
  have F := F ha1
  refine x_li32 (i := 2) rfl (fun hx2 => ?_)
  have F := F hx2
  refine x_li32 (i := 3) rfl (fun hx3 => ?_)
  have F := F hx3
  refine x_iload_n dX10_countRetypedBeside_4 rfl ?_
  refine x_sipush dX10_countRetypedBeside_5 ks_128 (i32_of rfl) ?_
  refine x_icmp_ge 40 dX10_countRetypedBeside_8 rfl (fun hc => ?_) (fun hc => ?_)
  · have F := F.1 hc
    refine x_iload_n dX10_countRetypedBeside_40 rfl ?_
    exact x_ret (some (0, x2)) rfl ⟨dX10_countRetypedBeside_41, Or.inl rfl⟩ F
  · have F := F.2 hc
    refine x_iload_n dX10_countRetypedBeside_11 rfl ?_
    refine x_iload_n dX10_countRetypedBeside_12 rfl ?_
    refine x_icmp_eq 34 dX10_countRetypedBeside_13 rfl (fun hc => ?_) (fun hc => ?_)
    · have F := F.1 hc
      obtain ⟨hz, F⟩ := F
      refine x_iinc [(2, 0), (0, a1), (0, x2), (0, (x3 + 1))] dX10_countRetypedBeside_34 rfl rfl (Nat.le_of_ble_eq_true rfl) hz ?_
      refine x_goto 4 dX10_countRetypedBeside_37 rfl ?_
      exact F
    · have F := F.2 hc
      refine x_aload_n dX10_countRetypedBeside_16 rfl ?_
      refine x_getr (r' := 39) flX10_49 dX10_countRetypedBeside_17 (sW0 hW) (gW0 hW) (rW0_6 hW) rfl (Nat.le_of_ble_eq_true rfl) ?_
      refine x_iload_n dX10_countRetypedBeside_20 rfl ?_
      obtain ⟨hi, F⟩ := F
      refine x_iald (e := (v 39 x3)) dX10_countRetypedBeside_21 (sW39 hW) (gW39 hW) hi rfl ?_
      refine x_aload_n dX10_countRetypedBeside_22 rfl ?_
      refine x_getr (r' := 38) flX10_45 dX10_countRetypedBeside_23 (sW0 hW) (gW0 hW) (rW0_5 hW) rfl (Nat.le_of_ble_eq_true rfl) ?_
      refine x_iload_n dX10_countRetypedBeside_26 rfl ?_
      obtain ⟨hi, F⟩ := F
      refine x_iald (e := (v 38 x3)) dX10_countRetypedBeside_27 (sW38 hW) (gW38 hW) hi rfl ?_
      refine x_icmp_eq 34 dX10_countRetypedBeside_28 rfl (fun hc => ?_) (fun hc => ?_)
      · have F := F.1 hc
        obtain ⟨hz, F⟩ := F
        refine x_iinc [(2, 0), (0, a1), (0, x2), (0, (x3 + 1))] dX10_countRetypedBeside_34 rfl rfl (Nat.le_of_ble_eq_true rfl) hz ?_
        refine x_goto 4 dX10_countRetypedBeside_37 rfl ?_
        exact F
      · have F := F.2 hc
        obtain ⟨hz, F⟩ := F
        refine x_iinc [(2, 0), (0, a1), (0, (x2 + 1)), (0, x3)] dX10_countRetypedBeside_31 rfl rfl (Nat.le_of_ble_eq_true rfl) hz ?_
        obtain ⟨hz, F⟩ := F
        refine x_iinc [(2, 0), (0, a1), (0, (x2 + 1)), (0, (x3 + 1))] dX10_countRetypedBeside_34 rfl rfl (Nat.le_of_ble_eq_true rfl) hz ?_
        refine x_goto 4 dX10_countRetypedBeside_37 rfl ?_
        exact F

set_option maxRecDepth 100000 in
set_option maxHeartbeats 4000000 in
theorem bX10_dropAsksOf_0 {d mc ms : Nat} {X : XX} {v : VV} {Q : QQ} (a1 : Int) (hd : 0 ≤ d) (hW : SW X) (F : i32 a1 → Ex mX10_dropAsksOf d 4 [(2, 0), (0, a1), (0, 0), (0, 0), (3, 0)] [] X v mc ms Q) : Ex mX10_dropAsksOf d 0 [(2, 0), (0, a1), (3, 0), (3, 0), (3, 0)] [] X v mc ms Q := by
  refine x_li32 (i := 1) rfl (fun ha1 => ?_)
  have F := F ha1
  refine x_iconst dX10_dropAsksOf_0 rfl (i32_of rfl) ?_
  refine x_istore_n [(2, 0), (0, a1), (0, 0), (3, 0), (3, 0)] dX10_dropAsksOf_1 rfl (Nat.le_of_ble_eq_true rfl) ?_
  refine x_iconst dX10_dropAsksOf_2 rfl (i32_of rfl) ?_
  refine x_istore_n [(2, 0), (0, a1), (0, 0), (0, 0), (3, 0)] dX10_dropAsksOf_3 rfl (Nat.le_of_ble_eq_true rfl) ?_
  exact F

set_option maxRecDepth 100000 in
set_option maxHeartbeats 4000000 in
theorem bX10_dropAsksOf_4 {d mc ms : Nat} {X : XX} {v : VV} {Q : QQ} (a1 : Int) (x2 : Int) (x3 : Int) (hd : 0 ≤ d) (hW : SW X) (F : i32 a1 → i32 x2 → i32 x3 → (((40 ≤ x3) → Q (some (0, x2)) X v) ∧ ((x3 < 40) → (0 ≤ x3 ∧ x3 < 40) ∧ ((((X.2 40 x3) = -1) → i32 (x3 + 1) ∧ Ex mX10_dropAsksOf d 4 [(2, 0), (0, a1), (0, x2), (0, (x3 + 1)), (3, 0)] [] X v mc ms Q) ∧ ((¬ (X.2 40 x3) = -1) → X.1.2 (X.2 40 x3) = (0, 0) ∧ (0 ≤ (X.2 40 x3) ∧ (X.2 40 x3) < X.1.1) ∧ (((¬ (v (X.2 40 x3) 0) = a1) → i32 (x3 + 1) ∧ Ex mX10_dropAsksOf d 4 [(2, 0), (0, a1), (0, x2), (0, (x3 + 1)), (3, 0)] [] X v mc ms Q) ∧ (((v (X.2 40 x3) 0) = a1) → (0 ≤ x3 ∧ x3 < 40) ∧ i32 (x2 + 1) ∧ i32 (x3 + 1) ∧ Ex mX10_dropAsksOf d 4 [(2, 0), (0, a1), (0, (x2 + 1)), (0, (x3 + 1)), (3, 0)] [] (X.1, upd2 X.2 40 x3 (-1)) v mc ms Q))))))) : Ex mX10_dropAsksOf d 4 [(2, 0), (0, a1), (0, x2), (0, x3), (3, 0)] [] X v mc ms Q := by
  refine x_li32 (i := 1) rfl (fun ha1 => ?_)
  have F := F ha1
  refine x_li32 (i := 2) rfl (fun hx2 => ?_)
  have F := F hx2
  refine x_li32 (i := 3) rfl (fun hx3 => ?_)
  have F := F hx3
  refine x_iload_n dX10_dropAsksOf_4 rfl ?_
  refine x_bipush dX10_dropAsksOf_5 kb_40 (i32_of rfl) ?_
  refine x_icmp_ge 48 dX10_dropAsksOf_7 rfl (fun hc => ?_) (fun hc => ?_)
  · have F := F.1 hc
    refine x_iload_n dX10_dropAsksOf_48 rfl ?_
    exact x_ret (some (0, x2)) rfl ⟨dX10_dropAsksOf_49, Or.inl rfl⟩ F
  · have F := F.2 hc
    refine x_aload_n dX10_dropAsksOf_10 rfl ?_
    refine x_getr (r' := 40) flX10_54 dX10_dropAsksOf_11 (sW0 hW) (gW0 hW) (rW0_7 hW) rfl (Nat.le_of_ble_eq_true rfl) ?_
    refine x_iload_n dX10_dropAsksOf_14 rfl ?_
    obtain ⟨hi, F⟩ := F
    refine x_aald (r' := (X.2 40 x3)) dX10_dropAsksOf_15 (sW40 hW) (by decide) (gW40 hW) hi rfl ?_
    refine x_astore [(2, 0), (0, a1), (0, x2), (0, x3), (2, (X.2 40 x3))] dX10_dropAsksOf_16 rfl (Nat.le_of_ble_eq_true rfl) ?_
    refine x_aload dX10_dropAsksOf_18 rfl ?_
    refine x_ifnull 42 dX10_dropAsksOf_20 rfl (fun hc => ?_) (fun hc => ?_)
    · have F := F.1 hc
      obtain ⟨hz, F⟩ := F
      refine x_iinc [(2, 0), (0, a1), (0, x2), (0, (x3 + 1)), (2, (X.2 40 x3))] dX10_dropAsksOf_42 rfl rfl (Nat.le_of_ble_eq_true rfl) hz ?_
      refine x_goto 4 dX10_dropAsksOf_45 rfl ?_
      exact x_less [(2, 0), (0, a1), (0, x2), (0, (x3 + 1)), (3, 0)] ⟨Or.inr rfl, ⟨Or.inr rfl, ⟨Or.inr rfl, ⟨Or.inr rfl, ⟨Or.inl rfl, trivial⟩⟩⟩⟩⟩ F
    · have F := F.2 hc
      refine x_aload dX10_dropAsksOf_23 rfl ?_
      obtain ⟨hs1, hr1, F⟩ := F
      refine x_geti (e := (v (X.2 40 x3) 0)) 0 flX10_203 dX10_dropAsksOf_25 hs1 hr1 rfl rfl (Nat.le_of_ble_eq_true rfl) (tagn2 rfl) ?_
      refine x_iload_n dX10_dropAsksOf_28 rfl ?_
      refine x_icmp_ne 42 dX10_dropAsksOf_29 rfl (fun hc => ?_) (fun hc => ?_)
      · have F := F.1 hc
        obtain ⟨hz, F⟩ := F
        refine x_iinc [(2, 0), (0, a1), (0, x2), (0, (x3 + 1)), (2, (X.2 40 x3))] dX10_dropAsksOf_42 rfl rfl (Nat.le_of_ble_eq_true rfl) hz ?_
        refine x_goto 4 dX10_dropAsksOf_45 rfl ?_
        exact x_less [(2, 0), (0, a1), (0, x2), (0, (x3 + 1)), (3, 0)] ⟨Or.inr rfl, ⟨Or.inr rfl, ⟨Or.inr rfl, ⟨Or.inr rfl, ⟨Or.inl rfl, trivial⟩⟩⟩⟩⟩ F
      · have F := F.2 hc
        refine x_aload_n dX10_dropAsksOf_32 rfl ?_
        refine x_getr (r' := 40) flX10_54 dX10_dropAsksOf_33 (sW0 hW) (gW0 hW) (rW0_7 hW) rfl (Nat.le_of_ble_eq_true rfl) ?_
        refine x_iload_n dX10_dropAsksOf_36 rfl ?_
        refine x_null dX10_dropAsksOf_37 ?_
        obtain ⟨hi, F⟩ := F
        refine x_aastN dX10_dropAsksOf_38 (sW40 hW) (by decide) (gW40 hW) hi ?_
        have hW2 : SW (X.1, upd2 X.2 40 x3 (-1)) := hW.ref40 _ _
        obtain ⟨hz, F⟩ := F
        refine x_iinc [(2, 0), (0, a1), (0, (x2 + 1)), (0, x3), (2, (X.2 40 x3))] dX10_dropAsksOf_39 rfl rfl (Nat.le_of_ble_eq_true rfl) hz ?_
        obtain ⟨hz, F⟩ := F
        refine x_iinc [(2, 0), (0, a1), (0, (x2 + 1)), (0, (x3 + 1)), (2, (X.2 40 x3))] dX10_dropAsksOf_42 rfl rfl (Nat.le_of_ble_eq_true rfl) hz ?_
        refine x_goto 4 dX10_dropAsksOf_45 rfl ?_
        exact x_less [(2, 0), (0, a1), (0, (x2 + 1)), (0, (x3 + 1)), (3, 0)] ⟨Or.inr rfl, ⟨Or.inr rfl, ⟨Or.inr rfl, ⟨Or.inr rfl, ⟨Or.inl rfl, trivial⟩⟩⟩⟩⟩ F

set_option maxRecDepth 100000 in
set_option maxHeartbeats 4000000 in
theorem bX10_takeAgeFromBehind_0 {d mc ms : Nat} {X : XX} {v : VV} {Q : QQ} (a1 : Int) (hd : 1 ≤ d) (hW : SW X) (F : Ex mX10_takeAgeFromBehind d 9 [(2, 0), (2, a1), (0, 30000), (0, (-1)), (0, 0), (3, 0)] [] X v mc ms Q) : Ex mX10_takeAgeFromBehind d 0 [(2, 0), (2, a1), (3, 0), (3, 0), (3, 0), (3, 0)] [] X v mc ms Q := by
  refine x_sipush dX10_takeAgeFromBehind_0 ks_30000 (i32_of rfl) ?_
  refine x_istore_n [(2, 0), (2, a1), (0, 30000), (3, 0), (3, 0), (3, 0)] dX10_takeAgeFromBehind_3 rfl (Nat.le_of_ble_eq_true rfl) ?_
  refine x_iconst dX10_takeAgeFromBehind_4 rfl (i32_of rfl) ?_
  refine x_istore_n [(2, 0), (2, a1), (0, 30000), (0, (-1)), (3, 0), (3, 0)] dX10_takeAgeFromBehind_5 rfl (Nat.le_of_ble_eq_true rfl) ?_
  refine x_iconst dX10_takeAgeFromBehind_6 rfl (i32_of rfl) ?_
  refine x_istore [(2, 0), (2, a1), (0, 30000), (0, (-1)), (0, 0), (3, 0)] dX10_takeAgeFromBehind_7 rfl (Nat.le_of_ble_eq_true rfl) ?_
  exact F

set_option maxRecDepth 100000 in
set_option maxHeartbeats 4000000 in
theorem bX10_takeAgeFromBehind_9 {d mc ms : Nat} {X : XX} {v : VV} {Q : QQ} (a1 : Int) (x2 : Int) (x3 : Int) (x4 : Int) (hd : 1 ≤ d) (hW : SW X) (F : i32 x2 → i32 x3 → i32 x4 → X.1.2 a1 = (7, 0) ∧ (0 ≤ a1 ∧ a1 < X.1.1) ∧ X.1.2 (X.2 a1 2) = (6, 0) ∧ (0 ≤ (X.2 a1 2) ∧ (X.2 a1 2) < X.1.1) ∧ ∃ P3 : Option AV → VV → Prop, Con mX6_size 0 0 0 [(2, (X.2 a1 2))] X v (fun o X1 v1 => X1 = X ∧ P3 o v1) ∧ ∀ (r4 : Int) (w5 : VV), P3 (some (0, r4)) w5 → (((r4 ≤ x4) → (((¬ x3 = (-1)) → Q (some (0, 1)) X (upd2 (upd2 w5 a1 6 x2) a1 7 x3)) ∧ ((x3 = (-1)) → Q (some (0, 0)) X w5))) ∧ ((x4 < r4) → ∃ P7 : Option AV → VV → Prop, Con mX6_get 0 0 0 [(2, (X.2 a1 2)), (0, x4)] X w5 (fun o X1 v1 => X1 = X ∧ P7 o v1) ∧ ∀ (r8 : Int) (w9 : VV), P7 (some (0, r8)) w9 → ∃ P11 : Option AV → VV → Prop, Con mX10_tableAt 0 0 0 [(2, 0), (0, r8)] X w9 (fun o X1 v1 => X1 = X ∧ P11 o v1) ∧ ∀ (r12 : Int) (w13 : VV), P11 (some (2, r12)) w13 → (((r12 = -1) → Q (some (0, 0)) X w13) ∧ ((¬ r12 = -1) → X.1.2 r12 = (7, 0) ∧ (0 ≤ r12 ∧ r12 < X.1.1) ∧ (((¬ (w13 r12 7) = (-1)) → i32 (x4 + 1) ∧ Ex mX10_takeAgeFromBehind d 9 [(2, 0), (2, a1), (0, (if (w13 r12 6) < x2 then (w13 r12 6) else x2)), (0, (if x3 < (w13 r12 7) then (w13 r12 7) else x3)), (0, (x4 + 1)), (3, 0)] [] X w13 mc ms Q) ∧ (((w13 r12 7) = (-1)) → Q (some (0, 0)) X w13))))))) : Ex mX10_takeAgeFromBehind d 9 [(2, 0), (2, a1), (0, x2), (0, x3), (0, x4), (3, 0)] [] X v mc ms Q := by
  refine x_li32 (i := 2) rfl (fun hx2 => ?_)
  have F := F hx2
  refine x_li32 (i := 3) rfl (fun hx3 => ?_)
  have F := F hx3
  refine x_li32 (i := 4) rfl (fun hx4 => ?_)
  have F := F hx4
  refine x_iload dX10_takeAgeFromBehind_9 rfl ?_
  refine x_aload_n dX10_takeAgeFromBehind_11 rfl ?_
  obtain ⟨hs1, hr1, F⟩ := F
  refine x_getr (r' := (X.2 a1 2)) flX10_153 dX10_takeAgeFromBehind_12 hs1 hr1 rfl rfl (Nat.le_of_ble_eq_true rfl) ?_
  obtain ⟨hs2, hr2, F⟩ := F
  obtain ⟨P3, hC, F⟩ := F
  refine x_inv dY60_takeAgeFromBehind_15 mlY60_75 hC hs2 (Nat.le_of_ble_eq_true rfl) hr2 rfl rfl (by omega) (Nat.zero_le _) (Nat.zero_le _) (Nat.le_of_ble_eq_true rfl) (fun o1 Y6 w5 ht hP => ?_)
  obtain ⟨r4, rfl⟩ : ∃ i, o1 = some (0, i) := ht
  obtain ⟨rfl, hP⟩ := hP
  have F := F r4 w5 hP
  refine x_icmp_ge 78 dX10_takeAgeFromBehind_18 rfl (fun hc => ?_) (fun hc => ?_)
  · have F := F.1 hc
    refine x_iload_n dX10_takeAgeFromBehind_78 rfl ?_
    refine x_iconst dX10_takeAgeFromBehind_79 rfl (i32_of rfl) ?_
    refine x_icmp_ne 85 dX10_takeAgeFromBehind_80 rfl (fun hc => ?_) (fun hc => ?_)
    · have F := F.1 hc
      refine x_aload_n dX10_takeAgeFromBehind_85 rfl ?_
      refine x_iload_n dX10_takeAgeFromBehind_86 rfl ?_
      refine x_puti 0 fwX10_160 dX10_takeAgeFromBehind_87 hs1 hr1 (fun h => Bool.noConfusion h) (Nat.le_of_ble_eq_true rfl) rfl (Or.inl ⟨rfl, Or.inl rfl⟩) ?_
      refine x_aload_n dX10_takeAgeFromBehind_90 rfl ?_
      refine x_iload_n dX10_takeAgeFromBehind_91 rfl ?_
      refine x_puti 0 fwX10_163 dX10_takeAgeFromBehind_92 hs1 hr1 (fun h => Bool.noConfusion h) (Nat.le_of_ble_eq_true rfl) rfl (Or.inl ⟨rfl, Or.inl rfl⟩) ?_
      refine x_iconst dX10_takeAgeFromBehind_95 rfl (i32_of rfl) ?_
      exact x_ret (some (0, 1)) rfl ⟨dX10_takeAgeFromBehind_96, Or.inr ⟨rfl, Or.inr rfl⟩⟩ F
    · have F := F.2 hc
      refine x_iconst dX10_takeAgeFromBehind_83 rfl (i32_of rfl) ?_
      exact x_ret (some (0, 0)) rfl ⟨dX10_takeAgeFromBehind_84, Or.inr ⟨rfl, Or.inl rfl⟩⟩ F
  · have F := F.2 hc
    refine x_aload_n dX10_takeAgeFromBehind_21 rfl ?_
    refine x_aload_n dX10_takeAgeFromBehind_22 rfl ?_
    refine x_getr (r' := (X.2 a1 2)) flX10_153 dX10_takeAgeFromBehind_23 hs1 hr1 rfl rfl (Nat.le_of_ble_eq_true rfl) ?_
    refine x_iload dX10_takeAgeFromBehind_26 rfl ?_
    obtain ⟨P7, hC, F⟩ := F
    refine x_inv dY100_takeAgeFromBehind_28 mlY100_156 hC hs2 (Nat.le_of_ble_eq_true rfl) hr2 rfl rfl (by omega) (Nat.zero_le _) (Nat.zero_le _) (Nat.le_of_ble_eq_true rfl) (fun o1 Y10 w9 ht hP => ?_)
    obtain ⟨r8, rfl⟩ : ∃ i, o1 = some (0, i) := ht
    obtain ⟨rfl, hP⟩ := hP
    have F := F r8 w9 hP
    obtain ⟨P11, hC, F⟩ := F
    refine x_inv dY140_takeAgeFromBehind_31 mlY140_143 hC (sW0 hW) (Nat.le_of_ble_eq_true rfl) (gW0 hW) rfl rfl (by omega) (Nat.zero_le _) (Nat.zero_le _) (Nat.le_of_ble_eq_true rfl) (fun o1 Y14 w13 ht hP => ?_)
    obtain ⟨r12, rfl⟩ : ∃ i, o1 = some (2, i) := ht
    obtain ⟨rfl, hP⟩ := hP
    have F := F r12 w13 hP
    refine x_astore [(2, 0), (2, a1), (0, x2), (0, x3), (0, x4), (2, r12)] dX10_takeAgeFromBehind_34 rfl (Nat.le_of_ble_eq_true rfl) ?_
    refine x_aload dX10_takeAgeFromBehind_36 rfl ?_
    refine x_ifnull 50 dX10_takeAgeFromBehind_38 rfl (fun hc => ?_) (fun hc => ?_)
    · have F := F.1 hc
      refine x_iconst dX10_takeAgeFromBehind_50 rfl (i32_of rfl) ?_
      exact x_ret (some (0, 0)) rfl ⟨dX10_takeAgeFromBehind_51, Or.inr ⟨rfl, Or.inl rfl⟩⟩ F
    · have F := F.2 hc
      refine x_aload dX10_takeAgeFromBehind_41 rfl ?_
      obtain ⟨hs15, hr15, F⟩ := F
      refine x_geti (e := (w13 r12 7)) 0 flX10_163 dX10_takeAgeFromBehind_43 hs15 hr15 rfl rfl (Nat.le_of_ble_eq_true rfl) (tagn2 rfl) ?_
      refine x_iconst dX10_takeAgeFromBehind_46 rfl (i32_of rfl) ?_
      refine x_icmp_ne 52 dX10_takeAgeFromBehind_47 rfl (fun hc => ?_) (fun hc => ?_)
      · have F := F.1 hc
        refine x_iload_n dX10_takeAgeFromBehind_52 rfl ?_
        refine x_aload dX10_takeAgeFromBehind_53 rfl ?_
        refine x_geti (e := (w13 r12 6)) 0 flX10_160 dX10_takeAgeFromBehind_55 hs15 hr15 rfl rfl (Nat.le_of_ble_eq_true rfl) (tagn2 rfl) ?_
        refine x_min dX10_takeAgeFromBehind_58 mlX10_302 (by omega) (Nat.le_of_ble_eq_true rfl) ?_
        refine x_istore_n [(2, 0), (2, a1), (0, (if (w13 r12 6) < x2 then (w13 r12 6) else x2)), (0, x3), (0, x4), (2, r12)] dX10_takeAgeFromBehind_61 rfl (Nat.le_of_ble_eq_true rfl) ?_
        refine x_iload_n dX10_takeAgeFromBehind_62 rfl ?_
        refine x_aload dX10_takeAgeFromBehind_63 rfl ?_
        refine x_geti (e := (w13 r12 7)) 0 flX10_163 dX10_takeAgeFromBehind_65 hs15 hr15 rfl rfl (Nat.le_of_ble_eq_true rfl) (tagn2 rfl) ?_
        refine x_max dX10_takeAgeFromBehind_68 mlX10_307 (by omega) (Nat.le_of_ble_eq_true rfl) ?_
        refine x_istore_n [(2, 0), (2, a1), (0, (if (w13 r12 6) < x2 then (w13 r12 6) else x2)), (0, (if x3 < (w13 r12 7) then (w13 r12 7) else x3)), (0, x4), (2, r12)] dX10_takeAgeFromBehind_71 rfl (Nat.le_of_ble_eq_true rfl) ?_
        obtain ⟨hz, F⟩ := F
        refine x_iinc [(2, 0), (2, a1), (0, (if (w13 r12 6) < x2 then (w13 r12 6) else x2)), (0, (if x3 < (w13 r12 7) then (w13 r12 7) else x3)), (0, (x4 + 1)), (2, r12)] dX10_takeAgeFromBehind_72 rfl rfl (Nat.le_of_ble_eq_true rfl) hz ?_
        refine x_goto 9 dX10_takeAgeFromBehind_75 rfl ?_
        exact x_less [(2, 0), (2, a1), (0, (if (w13 r12 6) < x2 then (w13 r12 6) else x2)), (0, (if x3 < (w13 r12 7) then (w13 r12 7) else x3)), (0, (x4 + 1)), (3, 0)] ⟨Or.inr rfl, ⟨Or.inr rfl, ⟨Or.inr rfl, ⟨Or.inr rfl, ⟨Or.inr rfl, ⟨Or.inl rfl, trivial⟩⟩⟩⟩⟩⟩ F
      · have F := F.2 hc
        refine x_iconst dX10_takeAgeFromBehind_50 rfl (i32_of rfl) ?_
        exact x_ret (some (0, 0)) rfl ⟨dX10_takeAgeFromBehind_51, Or.inr ⟨rfl, Or.inl rfl⟩⟩ F

set_option maxRecDepth 100000 in
set_option maxHeartbeats 4000000 in
theorem bX10_settleViews_0 {d mc ms : Nat} {X : XX} {v : VV} {Q : QQ} (hd : 2 ≤ d) (hW : SW X) (F : Ex mX10_settleViews d 2 [(2, 0), (0, 0), (3, 0)] [] X v mc ms Q) : Ex mX10_settleViews d 0 [(2, 0), (3, 0), (3, 0)] [] X v mc ms Q := by
  refine x_iconst dX10_settleViews_0 rfl (i32_of rfl) ?_
  refine x_istore_n [(2, 0), (0, 0), (3, 0)] dX10_settleViews_1 rfl (Nat.le_of_ble_eq_true rfl) ?_
  exact F

set_option maxRecDepth 100000 in
set_option maxHeartbeats 4000000 in
theorem bX10_settleViews_2 {d mc ms : Nat} {X : XX} {v : VV} {Q : QQ} (x1 : Int) (hd : 2 ≤ d) (hW : SW X) (F : i32 x1 → (((16 ≤ x1) → Q none X v) ∧ ((x1 < 16) → (0 ≤ x1 ∧ x1 < 16) ∧ ((((X.2 37 x1) = -1) → i32 (x1 + 1) ∧ Ex mX10_settleViews d 2 [(2, 0), (0, (x1 + 1)), (3, 0)] [] X v mc ms Q) ∧ ((¬ (X.2 37 x1) = -1) → X.1.2 (X.2 37 x1) = (7, 0) ∧ (0 ≤ (X.2 37 x1) ∧ (X.2 37 x1) < X.1.1) ∧ (((¬ (v (X.2 37 x1) 5) = 1) → i32 (x1 + 1) ∧ Ex mX10_settleViews d 2 [(2, 0), (0, (x1 + 1)), (3, 0)] [] X v mc ms Q) ∧ (((v (X.2 37 x1) 5) = 1) → ∃ P2 : Option AV → VV → Prop, Con mX10_takeAgeFromBehind 1 0 0 [(2, 0), (2, (X.2 37 x1))] X v (fun o X1 v1 => X1 = X ∧ P2 o v1) ∧ ∀ (r3 : Int) (w4 : VV), P2 (some (0, r3)) w4 → i32 (x1 + 1) ∧ Ex mX10_settleViews d 2 [(2, 0), (0, (x1 + 1)), (3, 0)] [] X w4 mc ms Q))))))) : Ex mX10_settleViews d 2 [(2, 0), (0, x1), (3, 0)] [] X v mc ms Q := by
  refine x_li32 (i := 1) rfl (fun hx1 => ?_)
  have F := F hx1
  refine x_iload_n dX10_settleViews_2 rfl ?_
  refine x_bipush dX10_settleViews_3 kb_16 (i32_of rfl) ?_
  refine x_icmp_ge 39 dX10_settleViews_5 rfl (fun hc => ?_) (fun hc => ?_)
  · have F := F.1 hc
    exact x_ret none rfl ⟨dX10_settleViews_39, rfl⟩ F
  · have F := F.2 hc
    refine x_aload_n dX10_settleViews_8 rfl ?_
    refine x_getr (r' := 37) flX10_41 dX10_settleViews_9 (sW0 hW) (gW0 hW) (rW0_4 hW) rfl (Nat.le_of_ble_eq_true rfl) ?_
    refine x_iload_n dX10_settleViews_12 rfl ?_
    obtain ⟨hi, F⟩ := F
    refine x_aald (r' := (X.2 37 x1)) dX10_settleViews_13 (sW37 hW) (by decide) (gW37 hW) hi rfl ?_
    refine x_astore_n [(2, 0), (0, x1), (2, (X.2 37 x1))] dX10_settleViews_14 rfl (Nat.le_of_ble_eq_true rfl) ?_
    refine x_aload_n dX10_settleViews_15 rfl ?_
    refine x_ifnull 33 dX10_settleViews_16 rfl (fun hc => ?_) (fun hc => ?_)
    · have F := F.1 hc
      obtain ⟨hz, F⟩ := F
      refine x_iinc [(2, 0), (0, (x1 + 1)), (2, (X.2 37 x1))] dX10_settleViews_33 rfl rfl (Nat.le_of_ble_eq_true rfl) hz ?_
      refine x_goto 2 dX10_settleViews_36 rfl ?_
      exact x_less [(2, 0), (0, (x1 + 1)), (3, 0)] ⟨Or.inr rfl, ⟨Or.inr rfl, ⟨Or.inl rfl, trivial⟩⟩⟩ F
    · have F := F.2 hc
      refine x_aload_n dX10_settleViews_19 rfl ?_
      obtain ⟨hs1, hr1, F⟩ := F
      refine x_geti (e := (v (X.2 37 x1) 5)) 0 flX10_147 dX10_settleViews_20 hs1 hr1 rfl rfl (Nat.le_of_ble_eq_true rfl) (tagn2 rfl) ?_
      refine x_iconst dX10_settleViews_23 rfl (i32_of rfl) ?_
      refine x_icmp_ne 33 dX10_settleViews_24 rfl (fun hc => ?_) (fun hc => ?_)
      · have F := F.1 hc
        obtain ⟨hz, F⟩ := F
        refine x_iinc [(2, 0), (0, (x1 + 1)), (2, (X.2 37 x1))] dX10_settleViews_33 rfl rfl (Nat.le_of_ble_eq_true rfl) hz ?_
        refine x_goto 2 dX10_settleViews_36 rfl ?_
        exact x_less [(2, 0), (0, (x1 + 1)), (3, 0)] ⟨Or.inr rfl, ⟨Or.inr rfl, ⟨Or.inl rfl, trivial⟩⟩⟩ F
      · have F := F.2 hc
        refine x_aload_n dX10_settleViews_27 rfl ?_
        refine x_aload_n dX10_settleViews_28 rfl ?_
        obtain ⟨P2, hC, F⟩ := F
        refine x_inv dY50_settleViews_29 mlY50_247 hC (sW0 hW) (Nat.le_of_ble_eq_true rfl) (gW0 hW) rfl rfl (by omega) (Nat.zero_le _) (Nat.zero_le _) (Nat.le_of_ble_eq_true rfl) (fun o1 Y5 w4 ht hP => ?_)
        obtain ⟨r3, rfl⟩ : ∃ i, o1 = some (0, i) := ht
        obtain ⟨rfl, hP⟩ := hP
        have F := F r3 w4 hP
        refine x_pop dX10_settleViews_32 (tag1 rfl) ?_
        obtain ⟨hz, F⟩ := F
        refine x_iinc [(2, 0), (0, (x1 + 1)), (2, (X.2 37 x1))] dX10_settleViews_33 rfl rfl (Nat.le_of_ble_eq_true rfl) hz ?_
        refine x_goto 2 dX10_settleViews_36 rfl ?_
        exact x_less [(2, 0), (0, (x1 + 1)), (3, 0)] ⟨Or.inr rfl, ⟨Or.inr rfl, ⟨Or.inl rfl, trivial⟩⟩⟩ F

set_option maxRecDepth 100000 in
set_option maxHeartbeats 4000000 in
theorem bX10_isBroken_0 {d mc ms : Nat} {X : XX} {v : VV} {Q : QQ} (a1 : Int) (hd : 1 ≤ d) (hW : SW X) (F : (((a1 = -1) → Q (some (0, 0)) X v) ∧ ((¬ a1 = -1) → X.1.2 a1 = (7, 0) ∧ (0 ≤ a1 ∧ a1 < X.1.1) ∧ ((((v a1 9) = (-1)) → Q (some (0, 0)) X v) ∧ ((¬ (v a1 9) = (-1)) → (i32 (v a1 9) → i32 (v 0 13) → i32 ((v 0 13) - (v a1 9))) ∧ ∃ P2 : Option AV → VV → Prop, Con mX10_isBelow 0 0 0 [(2, a1), (0, ((v 0 13) - (v a1 9)))] X v (fun o X1 v1 => X1 = X ∧ P2 o v1) ∧ ∀ (r3 : Int) (w4 : VV), P2 (some (0, r3)) w4 → (((r3 = 0) → Q (some (0, 0)) X w4) ∧ ((¬ r3 = 0) → Q (some (0, 1)) X w4))))))) : Ex mX10_isBroken d 0 [(2, 0), (2, a1)] [] X v mc ms Q := by
  refine x_aload_n dX10_isBroken_0 rfl ?_
  refine x_ifnull 32 dX10_isBroken_1 rfl (fun hc => ?_) (fun hc => ?_)
  · have F := F.1 hc
    refine x_iconst dX10_isBroken_32 rfl (i32_of rfl) ?_
    exact x_ret (some (0, 0)) rfl ⟨dX10_isBroken_33, Or.inr ⟨rfl, Or.inl rfl⟩⟩ F
  · have F := F.2 hc
    refine x_aload_n dX10_isBroken_4 rfl ?_
    obtain ⟨hs1, hr1, F⟩ := F
    refine x_geti (e := (v a1 9)) 0 flX10_169 dX10_isBroken_5 hs1 hr1 rfl rfl (Nat.le_of_ble_eq_true rfl) (tagn2 rfl) ?_
    refine x_iconst dX10_isBroken_8 rfl (i32_of rfl) ?_
    refine x_icmp_eq 32 dX10_isBroken_9 rfl (fun hc => ?_) (fun hc => ?_)
    · have F := F.1 hc
      refine x_iconst dX10_isBroken_32 rfl (i32_of rfl) ?_
      exact x_ret (some (0, 0)) rfl ⟨dX10_isBroken_33, Or.inr ⟨rfl, Or.inl rfl⟩⟩ F
    · have F := F.2 hc
      refine x_aload_n dX10_isBroken_12 rfl ?_
      refine x_aload_n dX10_isBroken_13 rfl ?_
      refine x_geti (e := (v 0 13)) 0 flX10_241 dX10_isBroken_14 (sW0 hW) (gW0 hW) rfl rfl (Nat.le_of_ble_eq_true rfl) (tagn2 rfl) ?_
      refine x_aload_n dX10_isBroken_17 rfl ?_
      refine x_geti (e := (v a1 9)) 0 flX10_169 dX10_isBroken_18 hs1 hr1 rfl rfl (Nat.le_of_ble_eq_true rfl) (tagn2 rfl) ?_
      refine x_si32 (i := 0) rfl (fun hk0 => ?_)
      refine x_si32 (i := 1) rfl (fun hk1 => ?_)
      obtain ⟨hz, F⟩ := F
      have hz := hz hk0 hk1
      refine x_isub dX10_isBroken_21 hz ?_
      obtain ⟨P2, hC, F⟩ := F
      refine x_static dY50_isBroken_22 mlY50_310 hC rfl rfl (by omega) (Nat.zero_le _) (Nat.zero_le _) (Nat.le_of_ble_eq_true rfl) (fun o1 Y5 w4 ht hP => ?_)
      obtain ⟨r3, rfl⟩ : ∃ i, o1 = some (0, i) := ht
      obtain ⟨rfl, hP⟩ := hP
      have F := F r3 w4 hP
      refine x_if_eq 32 dX10_isBroken_25 rfl (fun hc => ?_) (fun hc => ?_)
      · have F := F.1 hc
        refine x_iconst dX10_isBroken_32 rfl (i32_of rfl) ?_
        exact x_ret (some (0, 0)) rfl ⟨dX10_isBroken_33, Or.inr ⟨rfl, Or.inl rfl⟩⟩ F
      · have F := F.2 hc
        refine x_iconst dX10_isBroken_28 rfl (i32_of rfl) ?_
        refine x_goto 33 dX10_isBroken_29 rfl ?_
        exact x_ret (some (0, 1)) rfl ⟨dX10_isBroken_33, Or.inr ⟨rfl, Or.inr rfl⟩⟩ F

set_option maxRecDepth 100000 in
set_option maxHeartbeats 4000000 in
theorem bX10_isBelow_0 {d mc ms : Nat} {X : XX} {v : VV} {Q : QQ} (a1 : Int) (a2 : Int) (hd : 0 ≤ d) (hW : SW X) (F : i32 a2 → X.1.2 a1 = (7, 0) ∧ (0 ≤ a1 ∧ a1 < X.1.1) ∧ ((((v a1 7) = (-1)) → Q (some (0, 1)) X v) ∧ ((¬ (v a1 7) = (-1)) → (((a2 ≤ (v a1 7)) → Q (some (0, 0)) X v) ∧ (((v a1 7) < a2) → Q (some (0, 1)) X v))))) : Ex mX10_isBelow d 0 [(2, a1), (0, a2)] [] X v mc ms Q := by
  refine x_li32 (i := 1) rfl (fun ha2 => ?_)
  have F := F ha2
  refine x_aload_n dX10_isBelow_0 rfl ?_
  obtain ⟨hs1, hr1, F⟩ := F
  refine x_geti (e := (v a1 7)) 0 flX10_163 dX10_isBelow_1 hs1 hr1 rfl rfl (Nat.le_of_ble_eq_true rfl) (tagn2 rfl) ?_
  refine x_iconst dX10_isBelow_4 rfl (i32_of rfl) ?_
  refine x_icmp_eq 16 dX10_isBelow_5 rfl (fun hc => ?_) (fun hc => ?_)
  · have F := F.1 hc
    refine x_iconst dX10_isBelow_16 rfl (i32_of rfl) ?_
    refine x_goto 21 dX10_isBelow_17 rfl ?_
    exact x_ret (some (0, 1)) rfl ⟨dX10_isBelow_21, Or.inr ⟨rfl, Or.inr rfl⟩⟩ F
  · have F := F.2 hc
    refine x_aload_n dX10_isBelow_8 rfl ?_
    refine x_geti (e := (v a1 7)) 0 flX10_163 dX10_isBelow_9 hs1 hr1 rfl rfl (Nat.le_of_ble_eq_true rfl) (tagn2 rfl) ?_
    refine x_iload_n dX10_isBelow_12 rfl ?_
    refine x_icmp_ge 20 dX10_isBelow_13 rfl (fun hc => ?_) (fun hc => ?_)
    · have F := F.1 hc
      refine x_iconst dX10_isBelow_20 rfl (i32_of rfl) ?_
      exact x_ret (some (0, 0)) rfl ⟨dX10_isBelow_21, Or.inr ⟨rfl, Or.inl rfl⟩⟩ F
    · have F := F.2 hc
      refine x_iconst dX10_isBelow_16 rfl (i32_of rfl) ?_
      refine x_goto 21 dX10_isBelow_17 rfl ?_
      exact x_ret (some (0, 1)) rfl ⟨dX10_isBelow_21, Or.inr ⟨rfl, Or.inr rfl⟩⟩ F

set_option maxRecDepth 100000 in
set_option maxHeartbeats 4000000 in
theorem bX10_firstLateBehind_0 {d mc ms : Nat} {X : XX} {v : VV} {Q : QQ} (a1 : Int) (a2 : Int) (hd : 1 ≤ d) (hW : SW X) (F : i32 a1 → i32 a2 → ∃ P1 : Option AV → VV → Prop, Con mX10_tableAt 0 0 0 [(2, 0), (0, a1)] X v (fun o X1 v1 => X1 = X ∧ P1 o v1) ∧ ∀ (r2 : Int) (w3 : VV), P1 (some (2, r2)) w3 → (((¬ r2 = -1) → Ex mX10_firstLateBehind d 15 [(2, 0), (0, a1), (0, a2), (2, r2), (0, 0), (3, 0)] [] X w3 mc ms Q) ∧ ((r2 = -1) → Q (some (0, (-1))) X w3))) : Ex mX10_firstLateBehind d 0 [(2, 0), (0, a1), (0, a2), (3, 0), (3, 0), (3, 0)] [] X v mc ms Q := by
  refine x_li32 (i := 1) rfl (fun ha1 => ?_)
  have F := F ha1
  refine x_li32 (i := 2) rfl (fun ha2 => ?_)
  have F := F ha2
  refine x_aload_n dX10_firstLateBehind_0 rfl ?_
  refine x_iload_n dX10_firstLateBehind_1 rfl ?_
  obtain ⟨P1, hC, F⟩ := F
  refine x_inv dY40_firstLateBehind_2 mlY40_143 hC (sW0 hW) (Nat.le_of_ble_eq_true rfl) (gW0 hW) rfl rfl (by omega) (Nat.zero_le _) (Nat.zero_le _) (Nat.le_of_ble_eq_true rfl) (fun o1 Y4 w3 ht hP => ?_)
  obtain ⟨r2, rfl⟩ : ∃ i, o1 = some (2, i) := ht
  obtain ⟨rfl, hP⟩ := hP
  have F := F r2 w3 hP
  refine x_astore_n [(2, 0), (0, a1), (0, a2), (2, r2), (3, 0), (3, 0)] dX10_firstLateBehind_5 rfl (Nat.le_of_ble_eq_true rfl) ?_
  refine x_aload_n dX10_firstLateBehind_6 rfl ?_
  refine x_ifnonnull 12 dX10_firstLateBehind_7 rfl (fun hc => ?_) (fun hc => ?_)
  · have F := F.1 hc
    refine x_iconst dX10_firstLateBehind_12 rfl (i32_of rfl) ?_
    refine x_istore [(2, 0), (0, a1), (0, a2), (2, r2), (0, 0), (3, 0)] dX10_firstLateBehind_13 rfl (Nat.le_of_ble_eq_true rfl) ?_
    exact F
  · have F := F.2 hc
    refine x_iconst dX10_firstLateBehind_10 rfl (i32_of rfl) ?_
    exact x_ret (some (0, (-1))) rfl ⟨dX10_firstLateBehind_11, Or.inl rfl⟩ F

set_option maxRecDepth 100000 in
set_option maxHeartbeats 4000000 in
theorem bX10_firstLateBehind_15 {d mc ms : Nat} {X : XX} {v : VV} {Q : QQ} (a1 : Int) (a2 : Int) (x3 : Int) (x4 : Int) (hd : 1 ≤ d) (hW : SW X) (F : i32 a1 → i32 a2 → i32 x4 → X.1.2 x3 = (7, 0) ∧ (0 ≤ x3 ∧ x3 < X.1.1) ∧ X.1.2 (X.2 x3 2) = (6, 0) ∧ (0 ≤ (X.2 x3 2) ∧ (X.2 x3 2) < X.1.1) ∧ ∃ P7 : Option AV → VV → Prop, Con mX6_size 0 0 0 [(2, (X.2 x3 2))] X v (fun o X1 v1 => X1 = X ∧ P7 o v1) ∧ ∀ (r8 : Int) (w9 : VV), P7 (some (0, r8)) w9 → (((r8 ≤ x4) → Q (some (0, (-1))) X w9) ∧ ((x4 < r8) → ∃ P11 : Option AV → VV → Prop, Con mX6_get 0 0 0 [(2, (X.2 x3 2)), (0, x4)] X w9 (fun o X1 v1 => X1 = X ∧ P11 o v1) ∧ ∀ (r12 : Int) (w13 : VV), P11 (some (0, r12)) w13 → ∃ P15 : Option AV → VV → Prop, Con mX10_tableAt 0 0 0 [(2, 0), (0, r12)] X w13 (fun o X1 v1 => X1 = X ∧ P15 o v1) ∧ ∀ (r16 : Int) (w17 : VV), P15 (some (2, r16)) w17 → (((r16 = -1) → i32 (x4 + 1) ∧ Ex mX10_firstLateBehind d 15 [(2, 0), (0, a1), (0, a2), (2, x3), (0, (x4 + 1)), (3, 0)] [] X w17 mc ms Q) ∧ ((¬ r16 = -1) → ∃ P19 : Option AV → VV → Prop, Con mX10_isBelow 0 0 0 [(2, r16), (0, a2)] X w17 (fun o X1 v1 => X1 = X ∧ P19 o v1) ∧ ∀ (r20 : Int) (w21 : VV), P19 (some (0, r20)) w21 → (((r20 = 0) → i32 (x4 + 1) ∧ Ex mX10_firstLateBehind d 15 [(2, 0), (0, a1), (0, a2), (2, x3), (0, (x4 + 1)), (3, 0)] [] X w21 mc ms Q) ∧ ((¬ r20 = 0) → ∃ P23 : Option AV → VV → Prop, Con mX6_get 0 0 0 [(2, (X.2 x3 2)), (0, x4)] X w21 (fun o X1 v1 => X1 = X ∧ P23 o v1) ∧ ∀ (r24 : Int) (w25 : VV), P23 (some (0, r24)) w25 → Q (some (0, r24)) X w25))))))) : Ex mX10_firstLateBehind d 15 [(2, 0), (0, a1), (0, a2), (2, x3), (0, x4), (3, 0)] [] X v mc ms Q := by
  refine x_li32 (i := 1) rfl (fun ha1 => ?_)
  have F := F ha1
  refine x_li32 (i := 2) rfl (fun ha2 => ?_)
  have F := F ha2
  refine x_li32 (i := 4) rfl (fun hx4 => ?_)
  have F := F hx4
  refine x_iload dX10_firstLateBehind_15 rfl ?_
  refine x_aload_n dX10_firstLateBehind_17 rfl ?_
  obtain ⟨hs5, hr5, F⟩ := F
  refine x_getr (r' := (X.2 x3 2)) flX10_153 dX10_firstLateBehind_18 hs5 hr5 rfl rfl (Nat.le_of_ble_eq_true rfl) ?_
  obtain ⟨hs6, hr6, F⟩ := F
  obtain ⟨P7, hC, F⟩ := F
  refine x_inv dY100_firstLateBehind_21 mlY100_75 hC hs6 (Nat.le_of_ble_eq_true rfl) hr6 rfl rfl (by omega) (Nat.zero_le _) (Nat.zero_le _) (Nat.le_of_ble_eq_true rfl) (fun o1 Y10 w9 ht hP => ?_)
  obtain ⟨r8, rfl⟩ : ∃ i, o1 = some (0, i) := ht
  obtain ⟨rfl, hP⟩ := hP
  have F := F r8 w9 hP
  refine x_icmp_ge 72 dX10_firstLateBehind_24 rfl (fun hc => ?_) (fun hc => ?_)
  · have F := F.1 hc
    refine x_iconst dX10_firstLateBehind_72 rfl (i32_of rfl) ?_
    exact x_ret (some (0, (-1))) rfl ⟨dX10_firstLateBehind_73, Or.inl rfl⟩ F
  · have F := F.2 hc
    refine x_aload_n dX10_firstLateBehind_27 rfl ?_
    refine x_aload_n dX10_firstLateBehind_28 rfl ?_
    refine x_getr (r' := (X.2 x3 2)) flX10_153 dX10_firstLateBehind_29 hs5 hr5 rfl rfl (Nat.le_of_ble_eq_true rfl) ?_
    refine x_iload dX10_firstLateBehind_32 rfl ?_
    obtain ⟨P11, hC, F⟩ := F
    refine x_inv dY140_firstLateBehind_34 mlY140_156 hC hs6 (Nat.le_of_ble_eq_true rfl) hr6 rfl rfl (by omega) (Nat.zero_le _) (Nat.zero_le _) (Nat.le_of_ble_eq_true rfl) (fun o1 Y14 w13 ht hP => ?_)
    obtain ⟨r12, rfl⟩ : ∃ i, o1 = some (0, i) := ht
    obtain ⟨rfl, hP⟩ := hP
    have F := F r12 w13 hP
    obtain ⟨P15, hC, F⟩ := F
    refine x_inv dY180_firstLateBehind_37 mlY180_143 hC (sW0 hW) (Nat.le_of_ble_eq_true rfl) (gW0 hW) rfl rfl (by omega) (Nat.zero_le _) (Nat.zero_le _) (Nat.le_of_ble_eq_true rfl) (fun o1 Y18 w17 ht hP => ?_)
    obtain ⟨r16, rfl⟩ : ∃ i, o1 = some (2, i) := ht
    obtain ⟨rfl, hP⟩ := hP
    have F := F r16 w17 hP
    refine x_astore [(2, 0), (0, a1), (0, a2), (2, x3), (0, x4), (2, r16)] dX10_firstLateBehind_40 rfl (Nat.le_of_ble_eq_true rfl) ?_
    refine x_aload dX10_firstLateBehind_42 rfl ?_
    refine x_ifnull 66 dX10_firstLateBehind_44 rfl (fun hc => ?_) (fun hc => ?_)
    · have F := F.1 hc
      obtain ⟨hz, F⟩ := F
      refine x_iinc [(2, 0), (0, a1), (0, a2), (2, x3), (0, (x4 + 1)), (2, r16)] dX10_firstLateBehind_66 rfl rfl (Nat.le_of_ble_eq_true rfl) hz ?_
      refine x_goto 15 dX10_firstLateBehind_69 rfl ?_
      exact x_less [(2, 0), (0, a1), (0, a2), (2, x3), (0, (x4 + 1)), (3, 0)] ⟨Or.inr rfl, ⟨Or.inr rfl, ⟨Or.inr rfl, ⟨Or.inr rfl, ⟨Or.inr rfl, ⟨Or.inl rfl, trivial⟩⟩⟩⟩⟩⟩ F
    · have F := F.2 hc
      refine x_aload dX10_firstLateBehind_47 rfl ?_
      refine x_iload_n dX10_firstLateBehind_49 rfl ?_
      obtain ⟨P19, hC, F⟩ := F
      refine x_static dY220_firstLateBehind_50 mlY220_310 hC rfl rfl (by omega) (Nat.zero_le _) (Nat.zero_le _) (Nat.le_of_ble_eq_true rfl) (fun o1 Y22 w21 ht hP => ?_)
      obtain ⟨r20, rfl⟩ : ∃ i, o1 = some (0, i) := ht
      obtain ⟨rfl, hP⟩ := hP
      have F := F r20 w21 hP
      refine x_if_eq 66 dX10_firstLateBehind_53 rfl (fun hc => ?_) (fun hc => ?_)
      · have F := F.1 hc
        obtain ⟨hz, F⟩ := F
        refine x_iinc [(2, 0), (0, a1), (0, a2), (2, x3), (0, (x4 + 1)), (2, r16)] dX10_firstLateBehind_66 rfl rfl (Nat.le_of_ble_eq_true rfl) hz ?_
        refine x_goto 15 dX10_firstLateBehind_69 rfl ?_
        exact x_less [(2, 0), (0, a1), (0, a2), (2, x3), (0, (x4 + 1)), (3, 0)] ⟨Or.inr rfl, ⟨Or.inr rfl, ⟨Or.inr rfl, ⟨Or.inr rfl, ⟨Or.inr rfl, ⟨Or.inl rfl, trivial⟩⟩⟩⟩⟩⟩ F
      · have F := F.2 hc
        refine x_aload_n dX10_firstLateBehind_56 rfl ?_
        refine x_getr (r' := (X.2 x3 2)) flX10_153 dX10_firstLateBehind_57 hs5 hr5 rfl rfl (Nat.le_of_ble_eq_true rfl) ?_
        refine x_iload dX10_firstLateBehind_60 rfl ?_
        obtain ⟨P23, hC, F⟩ := F
        refine x_inv dY260_firstLateBehind_62 mlY260_156 hC hs6 (Nat.le_of_ble_eq_true rfl) hr6 rfl rfl (by omega) (Nat.zero_le _) (Nat.zero_le _) (Nat.le_of_ble_eq_true rfl) (fun o1 Y26 w25 ht hP => ?_)
        obtain ⟨r24, rfl⟩ : ∃ i, o1 = some (0, i) := ht
        obtain ⟨rfl, hP⟩ := hP
        have F := F r24 w25 hP
        exact x_ret (some (0, r24)) rfl ⟨dX10_firstLateBehind_65, Or.inl rfl⟩ F

set_option maxRecDepth 100000 in
set_option maxHeartbeats 4000000 in
theorem bX10_ownerOf_0 {d mc ms : Nat} {X : XX} {v : VV} {Q : QQ} (a1 : Int) (hd : 1 ≤ d) (hW : SW X) (F : i32 a1 → ∃ P1 : Option AV → VV → Prop, Con mX10_tableAt 0 0 0 [(2, 0), (0, a1)] X v (fun o X1 v1 => X1 = X ∧ P1 o v1) ∧ ∀ (r2 : Int) (w3 : VV), P1 (some (2, r2)) w3 → Ex mX10_ownerOf d 8 [(2, 0), (0, a1), (2, r2), (0, 0)] [] X w3 mc ms Q) : Ex mX10_ownerOf d 0 [(2, 0), (0, a1), (3, 0), (3, 0)] [] X v mc ms Q := by
  refine x_li32 (i := 1) rfl (fun ha1 => ?_)
  have F := F ha1
  refine x_aload_n dX10_ownerOf_0 rfl ?_
  refine x_iload_n dX10_ownerOf_1 rfl ?_
  obtain ⟨P1, hC, F⟩ := F
  refine x_inv dY40_ownerOf_2 mlY40_143 hC (sW0 hW) (Nat.le_of_ble_eq_true rfl) (gW0 hW) rfl rfl (by omega) (Nat.zero_le _) (Nat.zero_le _) (Nat.le_of_ble_eq_true rfl) (fun o1 Y4 w3 ht hP => ?_)
  obtain ⟨r2, rfl⟩ : ∃ i, o1 = some (2, i) := ht
  obtain ⟨rfl, hP⟩ := hP
  have F := F r2 w3 hP
  refine x_astore_n [(2, 0), (0, a1), (2, r2), (3, 0)] dX10_ownerOf_5 rfl (Nat.le_of_ble_eq_true rfl) ?_
  refine x_iconst dX10_ownerOf_6 rfl (i32_of rfl) ?_
  refine x_istore_n [(2, 0), (0, a1), (2, r2), (0, 0)] dX10_ownerOf_7 rfl (Nat.le_of_ble_eq_true rfl) ?_
  exact F

set_option maxRecDepth 100000 in
set_option maxHeartbeats 4000000 in
theorem bX10_ownerOf_8 {d mc ms : Nat} {X : XX} {v : VV} {Q : QQ} (a1 : Int) (x2 : Int) (x3 : Int) (hd : 1 ≤ d) (hW : SW X) (F : i32 a1 → i32 x3 → (((16 ≤ x3) → Q (some (0, (-1))) X v) ∧ ((x3 < 16) → (((x2 = -1) → Q (some (0, (-1))) X v) ∧ ((¬ x2 = -1) → X.1.2 x2 = (7, 0) ∧ (0 ≤ x2 ∧ x2 < X.1.1) ∧ ((((v x2 8) = (-1)) → X.1.2 (X.2 x2 2) = (6, 0) ∧ (0 ≤ (X.2 x2 2) ∧ (X.2 x2 2) < X.1.1) ∧ ∃ P7 : Option AV → VV → Prop, Con mX6_get 0 0 0 [(2, (X.2 x2 2)), (0, 0)] X v (fun o X1 v1 => X1 = X ∧ P7 o v1) ∧ ∀ (r8 : Int) (w9 : VV), P7 (some (0, r8)) w9 → ∃ P11 : Option AV → VV → Prop, Con mX10_tableAt 0 0 0 [(2, 0), (0, r8)] X w9 (fun o X1 v1 => X1 = X ∧ P11 o v1) ∧ ∀ (r12 : Int) (w13 : VV), P11 (some (2, r12)) w13 → i32 (x3 + 1) ∧ Ex mX10_ownerOf d 8 [(2, 0), (0, a1), (2, r12), (0, (x3 + 1))] [] X w13 mc ms Q) ∧ ((¬ (v x2 8) = (-1)) → Q (some (0, (v x2 8))) X v))))))) : Ex mX10_ownerOf d 8 [(2, 0), (0, a1), (2, x2), (0, x3)] [] X v mc ms Q := by
  refine x_li32 (i := 1) rfl (fun ha1 => ?_)
  have F := F ha1
  refine x_li32 (i := 3) rfl (fun hx3 => ?_)
  have F := F hx3
  refine x_iload_n dX10_ownerOf_8 rfl ?_
  refine x_bipush dX10_ownerOf_9 kb_16 (i32_of rfl) ?_
  refine x_icmp_ge 50 dX10_ownerOf_11 rfl (fun hc => ?_) (fun hc => ?_)
  · have F := F.1 hc
    refine x_iconst dX10_ownerOf_50 rfl (i32_of rfl) ?_
    exact x_ret (some (0, (-1))) rfl ⟨dX10_ownerOf_51, Or.inl rfl⟩ F
  · have F := F.2 hc
    refine x_aload_n dX10_ownerOf_14 rfl ?_
    refine x_ifnull 50 dX10_ownerOf_15 rfl (fun hc => ?_) (fun hc => ?_)
    · have F := F.1 hc
      refine x_iconst dX10_ownerOf_50 rfl (i32_of rfl) ?_
      exact x_ret (some (0, (-1))) rfl ⟨dX10_ownerOf_51, Or.inl rfl⟩ F
    · have F := F.2 hc
      refine x_aload_n dX10_ownerOf_18 rfl ?_
      obtain ⟨hs5, hr5, F⟩ := F
      refine x_geti (e := (v x2 8)) 0 flX10_257 dX10_ownerOf_19 hs5 hr5 rfl rfl (Nat.le_of_ble_eq_true rfl) (tagn2 rfl) ?_
      refine x_iconst dX10_ownerOf_22 rfl (i32_of rfl) ?_
      refine x_icmp_eq 31 dX10_ownerOf_23 rfl (fun hc => ?_) (fun hc => ?_)
      · have F := F.1 hc
        refine x_aload_n dX10_ownerOf_31 rfl ?_
        refine x_aload_n dX10_ownerOf_32 rfl ?_
        refine x_getr (r' := (X.2 x2 2)) flX10_153 dX10_ownerOf_33 hs5 hr5 rfl rfl (Nat.le_of_ble_eq_true rfl) ?_
        refine x_iconst dX10_ownerOf_36 rfl (i32_of rfl) ?_
        obtain ⟨hs6, hr6, F⟩ := F
        obtain ⟨P7, hC, F⟩ := F
        refine x_inv dY100_ownerOf_37 mlY100_156 hC hs6 (Nat.le_of_ble_eq_true rfl) hr6 rfl rfl (by omega) (Nat.zero_le _) (Nat.zero_le _) (Nat.le_of_ble_eq_true rfl) (fun o1 Y10 w9 ht hP => ?_)
        obtain ⟨r8, rfl⟩ : ∃ i, o1 = some (0, i) := ht
        obtain ⟨rfl, hP⟩ := hP
        have F := F r8 w9 hP
        obtain ⟨P11, hC, F⟩ := F
        refine x_inv dY140_ownerOf_40 mlY140_143 hC (sW0 hW) (Nat.le_of_ble_eq_true rfl) (gW0 hW) rfl rfl (by omega) (Nat.zero_le _) (Nat.zero_le _) (Nat.le_of_ble_eq_true rfl) (fun o1 Y14 w13 ht hP => ?_)
        obtain ⟨r12, rfl⟩ : ∃ i, o1 = some (2, i) := ht
        obtain ⟨rfl, hP⟩ := hP
        have F := F r12 w13 hP
        refine x_astore_n [(2, 0), (0, a1), (2, r12), (0, x3)] dX10_ownerOf_43 rfl (Nat.le_of_ble_eq_true rfl) ?_
        obtain ⟨hz, F⟩ := F
        refine x_iinc [(2, 0), (0, a1), (2, r12), (0, (x3 + 1))] dX10_ownerOf_44 rfl rfl (Nat.le_of_ble_eq_true rfl) hz ?_
        refine x_goto 8 dX10_ownerOf_47 rfl ?_
        exact F
      · have F := F.2 hc
        refine x_aload_n dX10_ownerOf_26 rfl ?_
        refine x_geti (e := (v x2 8)) 0 flX10_257 dX10_ownerOf_27 hs5 hr5 rfl rfl (Nat.le_of_ble_eq_true rfl) (tagn2 rfl) ?_
        exact x_ret (some (0, (v x2 8))) rfl ⟨dX10_ownerOf_30, Or.inl rfl⟩ F

set_option maxRecDepth 100000 in
set_option maxHeartbeats 4000000 in
theorem bX10_usedTables_0 {d mc ms : Nat} {X : XX} {v : VV} {Q : QQ} (a1 : Int) (hd : 1 ≤ d) (hW : SW X) (F : i32 a1 → Ex mX10_usedTables d 4 [(2, 0), (0, a1), (0, 0), (0, 0), (3, 0), (3, 0)] [] X v mc ms Q) : Ex mX10_usedTables d 0 [(2, 0), (0, a1), (3, 0), (3, 0), (3, 0), (3, 0)] [] X v mc ms Q := by
  refine x_li32 (i := 1) rfl (fun ha1 => ?_)
  have F := F ha1
  refine x_iconst dX10_usedTables_0 rfl (i32_of rfl) ?_
  refine x_istore_n [(2, 0), (0, a1), (0, 0), (3, 0), (3, 0), (3, 0)] dX10_usedTables_1 rfl (Nat.le_of_ble_eq_true rfl) ?_
  refine x_iconst dX10_usedTables_2 rfl (i32_of rfl) ?_
  refine x_istore_n [(2, 0), (0, a1), (0, 0), (0, 0), (3, 0), (3, 0)] dX10_usedTables_3 rfl (Nat.le_of_ble_eq_true rfl) ?_
  exact F

set_option maxRecDepth 100000 in
set_option maxHeartbeats 4000000 in
theorem bX10_usedTables_4 {d mc ms : Nat} {X : XX} {v : VV} {Q : QQ} (a1 : Int) (x2 : Int) (x3 : Int) (hd : 1 ≤ d) (hW : SW X) (F : i32 a1 → i32 x2 → i32 x3 → (((40 ≤ x3) → Ex mX10_usedTables d 51 [(2, 0), (0, a1), (0, x2), (0, 15), (3, 0), (3, 0)] [] X v mc ms Q) ∧ ((x3 < 40) → (0 ≤ x3 ∧ x3 < 40) ∧ ((((X.2 40 x3) = -1) → i32 (x3 + 1) ∧ Ex mX10_usedTables d 4 [(2, 0), (0, a1), (0, x2), (0, (x3 + 1)), (3, 0), (3, 0)] [] X v mc ms Q) ∧ ((¬ (X.2 40 x3) = -1) → X.1.2 (X.2 40 x3) = (0, 0) ∧ (0 ≤ (X.2 40 x3) ∧ (X.2 40 x3) < X.1.1) ∧ ((((v (X.2 40 x3) 2) < a1) → i32 (x3 + 1) ∧ Ex mX10_usedTables d 4 [(2, 0), (0, a1), (0, x2), (0, (x3 + 1)), (3, 0), (3, 0)] [] X v mc ms Q) ∧ ((a1 ≤ (v (X.2 40 x3) 2)) → ∀ z2 : Int, Int32.ofInt 1 <<< (Int32.ofInt (v (X.2 40 x3) 0) &&& 31) = Int32.ofInt z2 → i32 z2 → ∀ z3 : Int, Int32.ofInt x2 ||| Int32.ofInt z2 = Int32.ofInt z3 → i32 z3 → i32 (x3 + 1) ∧ Ex mX10_usedTables d 4 [(2, 0), (0, a1), (0, z3), (0, (x3 + 1)), (3, 0), (3, 0)] [] X v mc ms Q))))))) : Ex mX10_usedTables d 4 [(2, 0), (0, a1), (0, x2), (0, x3), (3, 0), (3, 0)] [] X v mc ms Q := by
  refine x_li32 (i := 1) rfl (fun ha1 => ?_)
  have F := F ha1
  refine x_li32 (i := 2) rfl (fun hx2 => ?_)
  have F := F hx2
  refine x_li32 (i := 3) rfl (fun hx3 => ?_)
  have F := F hx3
  refine x_iload_n dX10_usedTables_4 rfl ?_
  refine x_bipush dX10_usedTables_5 kb_40 (i32_of rfl) ?_
  refine x_icmp_ge 48 dX10_usedTables_7 rfl (fun hc => ?_) (fun hc => ?_)
  · have F := F.1 hc
    refine x_bipush dX10_usedTables_48 kb_15 (i32_of rfl) ?_
    refine x_istore_n [(2, 0), (0, a1), (0, x2), (0, 15), (3, 0), (3, 0)] dX10_usedTables_50 rfl (Nat.le_of_ble_eq_true rfl) ?_
    exact F
  · have F := F.2 hc
    refine x_aload_n dX10_usedTables_10 rfl ?_
    refine x_getr (r' := 40) flX10_54 dX10_usedTables_11 (sW0 hW) (gW0 hW) (rW0_7 hW) rfl (Nat.le_of_ble_eq_true rfl) ?_
    refine x_iload_n dX10_usedTables_14 rfl ?_
    obtain ⟨hi, F⟩ := F
    refine x_aald (r' := (X.2 40 x3)) dX10_usedTables_15 (sW40 hW) (by decide) (gW40 hW) hi rfl ?_
    refine x_astore [(2, 0), (0, a1), (0, x2), (0, x3), (2, (X.2 40 x3)), (3, 0)] dX10_usedTables_16 rfl (Nat.le_of_ble_eq_true rfl) ?_
    refine x_aload dX10_usedTables_18 rfl ?_
    refine x_ifnull 42 dX10_usedTables_20 rfl (fun hc => ?_) (fun hc => ?_)
    · have F := F.1 hc
      obtain ⟨hz, F⟩ := F
      refine x_iinc [(2, 0), (0, a1), (0, x2), (0, (x3 + 1)), (2, (X.2 40 x3)), (3, 0)] dX10_usedTables_42 rfl rfl (Nat.le_of_ble_eq_true rfl) hz ?_
      refine x_goto 4 dX10_usedTables_45 rfl ?_
      exact x_less [(2, 0), (0, a1), (0, x2), (0, (x3 + 1)), (3, 0), (3, 0)] ⟨Or.inr rfl, ⟨Or.inr rfl, ⟨Or.inr rfl, ⟨Or.inr rfl, ⟨Or.inl rfl, ⟨Or.inr rfl, trivial⟩⟩⟩⟩⟩⟩ F
    · have F := F.2 hc
      refine x_aload dX10_usedTables_23 rfl ?_
      obtain ⟨hs1, hr1, F⟩ := F
      refine x_geti (e := (v (X.2 40 x3) 2)) 0 flX10_314 dX10_usedTables_25 hs1 hr1 rfl rfl (Nat.le_of_ble_eq_true rfl) (tagn2 rfl) ?_
      refine x_iload_n dX10_usedTables_28 rfl ?_
      refine x_icmp_lt 42 dX10_usedTables_29 rfl (fun hc => ?_) (fun hc => ?_)
      · have F := F.1 hc
        obtain ⟨hz, F⟩ := F
        refine x_iinc [(2, 0), (0, a1), (0, x2), (0, (x3 + 1)), (2, (X.2 40 x3)), (3, 0)] dX10_usedTables_42 rfl rfl (Nat.le_of_ble_eq_true rfl) hz ?_
        refine x_goto 4 dX10_usedTables_45 rfl ?_
        exact x_less [(2, 0), (0, a1), (0, x2), (0, (x3 + 1)), (3, 0), (3, 0)] ⟨Or.inr rfl, ⟨Or.inr rfl, ⟨Or.inr rfl, ⟨Or.inr rfl, ⟨Or.inl rfl, ⟨Or.inr rfl, trivial⟩⟩⟩⟩⟩⟩ F
      · have F := F.2 hc
        refine x_iload_n dX10_usedTables_32 rfl ?_
        refine x_iconst dX10_usedTables_33 rfl (i32_of rfl) ?_
        refine x_aload dX10_usedTables_34 rfl ?_
        refine x_geti (e := (v (X.2 40 x3) 0)) 0 flX10_203 dX10_usedTables_36 hs1 hr1 rfl rfl (Nat.le_of_ble_eq_true rfl) (tagn2 rfl) ?_
        obtain ⟨z2, ez2, hz2⟩ := i32_ex (Int32.ofInt 1 <<< (Int32.ofInt (v (X.2 40 x3) 0) &&& 31))
        have F := F z2 ez2 hz2
        refine x_ishl (z := z2) dX10_usedTables_39 ez2 hz2 ?_
        obtain ⟨z3, ez3, hz3⟩ := i32_ex (Int32.ofInt x2 ||| Int32.ofInt z2)
        have F := F z3 ez3 hz3
        refine x_ior (z := z3) dX10_usedTables_40 ez3 hz3 ?_
        refine x_istore_n [(2, 0), (0, a1), (0, z3), (0, x3), (2, (X.2 40 x3)), (3, 0)] dX10_usedTables_41 rfl (Nat.le_of_ble_eq_true rfl) ?_
        obtain ⟨hz, F⟩ := F
        refine x_iinc [(2, 0), (0, a1), (0, z3), (0, (x3 + 1)), (2, (X.2 40 x3)), (3, 0)] dX10_usedTables_42 rfl rfl (Nat.le_of_ble_eq_true rfl) hz ?_
        refine x_goto 4 dX10_usedTables_45 rfl ?_
        exact x_less [(2, 0), (0, a1), (0, z3), (0, (x3 + 1)), (3, 0), (3, 0)] ⟨Or.inr rfl, ⟨Or.inr rfl, ⟨Or.inr rfl, ⟨Or.inr rfl, ⟨Or.inl rfl, ⟨Or.inr rfl, trivial⟩⟩⟩⟩⟩⟩ F

set_option maxRecDepth 100000 in
set_option maxHeartbeats 4000000 in
theorem bX10_usedTables_51 {d mc ms : Nat} {X : XX} {v : VV} {Q : QQ} (a1 : Int) (x2 : Int) (x3 : Int) (hd : 1 ≤ d) (hW : SW X) (F : i32 a1 → i32 x2 → i32 x3 → (((x3 < 0) → Q (some (0, x2)) X v) ∧ ((0 ≤ x3) → (0 ≤ x3 ∧ x3 < 16) ∧ ((((X.2 37 x3) = -1) → i32 (x3 + (-1)) ∧ Ex mX10_usedTables d 51 [(2, 0), (0, a1), (0, x2), (0, (x3 + (-1))), (3, 0), (3, 0)] [] X v mc ms Q) ∧ ((¬ (X.2 37 x3) = -1) → ∀ z4 : Int, Int32.ofInt x2 >>> (Int32.ofInt x3 &&& 31) = Int32.ofInt z4 → i32 z4 → ∀ z5 : Int, Int32.ofInt z4 &&& Int32.ofInt 1 = Int32.ofInt z5 → i32 z5 → (((¬ z5 = 0) → Ex mX10_usedTables d 82 [(2, 0), (0, a1), (0, x2), (0, x3), (2, (X.2 37 x3)), (0, 0)] [] X v mc ms Q) ∧ ((z5 = 0) → i32 (x3 + (-1)) ∧ Ex mX10_usedTables d 51 [(2, 0), (0, a1), (0, x2), (0, (x3 + (-1))), (3, 0), (3, 0)] [] X v mc ms Q))))))) : Ex mX10_usedTables d 51 [(2, 0), (0, a1), (0, x2), (0, x3), (3, 0), (3, 0)] [] X v mc ms Q := by
  refine x_li32 (i := 1) rfl (fun ha1 => ?_)
  have F := F ha1
  refine x_li32 (i := 2) rfl (fun hx2 => ?_)
  have F := F hx2
  refine x_li32 (i := 3) rfl (fun hx3 => ?_)
  have F := F hx3
  refine x_iload_n dX10_usedTables_51 rfl ?_
  refine x_if_lt 122 dX10_usedTables_52 rfl (fun hc => ?_) (fun hc => ?_)
  · have F := F.1 hc
    refine x_iload_n dX10_usedTables_122 rfl ?_
    exact x_ret (some (0, x2)) rfl ⟨dX10_usedTables_123, Or.inl rfl⟩ F
  · have F := F.2 hc
    refine x_aload_n dX10_usedTables_55 rfl ?_
    refine x_getr (r' := 37) flX10_41 dX10_usedTables_56 (sW0 hW) (gW0 hW) (rW0_4 hW) rfl (Nat.le_of_ble_eq_true rfl) ?_
    refine x_iload_n dX10_usedTables_59 rfl ?_
    obtain ⟨hi, F⟩ := F
    refine x_aald (r' := (X.2 37 x3)) dX10_usedTables_60 (sW37 hW) (by decide) (gW37 hW) hi rfl ?_
    refine x_astore [(2, 0), (0, a1), (0, x2), (0, x3), (2, (X.2 37 x3)), (3, 0)] dX10_usedTables_61 rfl (Nat.le_of_ble_eq_true rfl) ?_
    refine x_aload dX10_usedTables_63 rfl ?_
    refine x_ifnull 116 dX10_usedTables_65 rfl (fun hc => ?_) (fun hc => ?_)
    · have F := F.1 hc
      obtain ⟨hz, F⟩ := F
      refine x_iinc [(2, 0), (0, a1), (0, x2), (0, (x3 + (-1))), (2, (X.2 37 x3)), (3, 0)] dX10_usedTables_116 rfl rfl (Nat.le_of_ble_eq_true rfl) hz ?_
      refine x_goto 51 dX10_usedTables_119 rfl ?_
      exact x_less [(2, 0), (0, a1), (0, x2), (0, (x3 + (-1))), (3, 0), (3, 0)] ⟨Or.inr rfl, ⟨Or.inr rfl, ⟨Or.inr rfl, ⟨Or.inr rfl, ⟨Or.inl rfl, ⟨Or.inr rfl, trivial⟩⟩⟩⟩⟩⟩ F
    · have F := F.2 hc
      refine x_iload_n dX10_usedTables_68 rfl ?_
      refine x_iload_n dX10_usedTables_69 rfl ?_
      obtain ⟨z4, ez4, hz4⟩ := i32_ex (Int32.ofInt x2 >>> (Int32.ofInt x3 &&& 31))
      have F := F z4 ez4 hz4
      refine x_ishr (z := z4) dX10_usedTables_70 ez4 hz4 ?_
      refine x_iconst dX10_usedTables_71 rfl (i32_of rfl) ?_
      obtain ⟨z5, ez5, hz5⟩ := i32_ex (Int32.ofInt z4 &&& Int32.ofInt 1)
      have F := F z5 ez5 hz5
      refine x_iand (z := z5) dX10_usedTables_72 ez5 hz5 ?_
      refine x_if_ne 79 dX10_usedTables_73 rfl (fun hc => ?_) (fun hc => ?_)
      · have F := F.1 hc
        refine x_iconst dX10_usedTables_79 rfl (i32_of rfl) ?_
        refine x_istore [(2, 0), (0, a1), (0, x2), (0, x3), (2, (X.2 37 x3)), (0, 0)] dX10_usedTables_80 rfl (Nat.le_of_ble_eq_true rfl) ?_
        exact F
      · have F := F.2 hc
        refine x_goto 116 dX10_usedTables_76 rfl ?_
        obtain ⟨hz, F⟩ := F
        refine x_iinc [(2, 0), (0, a1), (0, x2), (0, (x3 + (-1))), (2, (X.2 37 x3)), (3, 0)] dX10_usedTables_116 rfl rfl (Nat.le_of_ble_eq_true rfl) hz ?_
        refine x_goto 51 dX10_usedTables_119 rfl ?_
        exact x_less [(2, 0), (0, a1), (0, x2), (0, (x3 + (-1))), (3, 0), (3, 0)] ⟨Or.inr rfl, ⟨Or.inr rfl, ⟨Or.inr rfl, ⟨Or.inr rfl, ⟨Or.inl rfl, ⟨Or.inr rfl, trivial⟩⟩⟩⟩⟩⟩ F

set_option maxRecDepth 100000 in
set_option maxHeartbeats 4000000 in
theorem bX10_usedTables_82 {d mc ms : Nat} {X : XX} {v : VV} {Q : QQ} (a1 : Int) (x2 : Int) (x3 : Int) (x4 : Int) (x5 : Int) (hd : 1 ≤ d) (hW : SW X) (F : i32 a1 → i32 x2 → i32 x3 → i32 x5 → X.1.2 x4 = (7, 0) ∧ (0 ≤ x4 ∧ x4 < X.1.1) ∧ X.1.2 (X.2 x4 2) = (6, 0) ∧ (0 ≤ (X.2 x4 2) ∧ (X.2 x4 2) < X.1.1) ∧ ∃ P8 : Option AV → VV → Prop, Con mX6_size 0 0 0 [(2, (X.2 x4 2))] X v (fun o X1 v1 => X1 = X ∧ P8 o v1) ∧ ∀ (r9 : Int) (w10 : VV), P8 (some (0, r9)) w10 → (((r9 ≤ x5) → i32 (x3 + (-1)) ∧ Ex mX10_usedTables d 51 [(2, 0), (0, a1), (0, x2), (0, (x3 + (-1))), (3, 0), (3, 0)] [] X w10 mc ms Q) ∧ ((x5 < r9) → ∃ P12 : Option AV → VV → Prop, Con mX6_get 0 0 0 [(2, (X.2 x4 2)), (0, x5)] X w10 (fun o X1 v1 => X1 = X ∧ P12 o v1) ∧ ∀ (r13 : Int) (w14 : VV), P12 (some (0, r13)) w14 → ∀ z16 : Int, Int32.ofInt 1 <<< (Int32.ofInt r13 &&& 31) = Int32.ofInt z16 → i32 z16 → ∀ z17 : Int, Int32.ofInt x2 ||| Int32.ofInt z16 = Int32.ofInt z17 → i32 z17 → i32 (x5 + 1) ∧ Ex mX10_usedTables d 82 [(2, 0), (0, a1), (0, z17), (0, x3), (2, x4), (0, (x5 + 1))] [] X w14 mc ms Q))) : Ex mX10_usedTables d 82 [(2, 0), (0, a1), (0, x2), (0, x3), (2, x4), (0, x5)] [] X v mc ms Q := by
  refine x_li32 (i := 1) rfl (fun ha1 => ?_)
  have F := F ha1
  refine x_li32 (i := 2) rfl (fun hx2 => ?_)
  have F := F hx2
  refine x_li32 (i := 3) rfl (fun hx3 => ?_)
  have F := F hx3
  refine x_li32 (i := 5) rfl (fun hx5 => ?_)
  have F := F hx5
  refine x_iload dX10_usedTables_82 rfl ?_
  refine x_aload dX10_usedTables_84 rfl ?_
  obtain ⟨hs6, hr6, F⟩ := F
  refine x_getr (r' := (X.2 x4 2)) flX10_153 dX10_usedTables_86 hs6 hr6 rfl rfl (Nat.le_of_ble_eq_true rfl) ?_
  obtain ⟨hs7, hr7, F⟩ := F
  obtain ⟨P8, hC, F⟩ := F
  refine x_inv dY110_usedTables_89 mlY110_75 hC hs7 (Nat.le_of_ble_eq_true rfl) hr7 rfl rfl (by omega) (Nat.zero_le _) (Nat.zero_le _) (Nat.le_of_ble_eq_true rfl) (fun o1 Y11 w10 ht hP => ?_)
  obtain ⟨r9, rfl⟩ : ∃ i, o1 = some (0, i) := ht
  obtain ⟨rfl, hP⟩ := hP
  have F := F r9 w10 hP
  refine x_icmp_ge 116 dX10_usedTables_92 rfl (fun hc => ?_) (fun hc => ?_)
  · have F := F.1 hc
    obtain ⟨hz, F⟩ := F
    refine x_iinc [(2, 0), (0, a1), (0, x2), (0, (x3 + (-1))), (2, x4), (0, x5)] dX10_usedTables_116 rfl rfl (Nat.le_of_ble_eq_true rfl) hz ?_
    refine x_goto 51 dX10_usedTables_119 rfl ?_
    exact x_less [(2, 0), (0, a1), (0, x2), (0, (x3 + (-1))), (3, 0), (3, 0)] ⟨Or.inr rfl, ⟨Or.inr rfl, ⟨Or.inr rfl, ⟨Or.inr rfl, ⟨Or.inl rfl, ⟨Or.inl rfl, trivial⟩⟩⟩⟩⟩⟩ F
  · have F := F.2 hc
    refine x_iload_n dX10_usedTables_95 rfl ?_
    refine x_iconst dX10_usedTables_96 rfl (i32_of rfl) ?_
    refine x_aload dX10_usedTables_97 rfl ?_
    refine x_getr (r' := (X.2 x4 2)) flX10_153 dX10_usedTables_99 hs6 hr6 rfl rfl (Nat.le_of_ble_eq_true rfl) ?_
    refine x_iload dX10_usedTables_102 rfl ?_
    obtain ⟨P12, hC, F⟩ := F
    refine x_inv dY150_usedTables_104 mlY150_156 hC hs7 (Nat.le_of_ble_eq_true rfl) hr7 rfl rfl (by omega) (Nat.zero_le _) (Nat.zero_le _) (Nat.le_of_ble_eq_true rfl) (fun o1 Y15 w14 ht hP => ?_)
    obtain ⟨r13, rfl⟩ : ∃ i, o1 = some (0, i) := ht
    obtain ⟨rfl, hP⟩ := hP
    have F := F r13 w14 hP
    obtain ⟨z16, ez16, hz16⟩ := i32_ex (Int32.ofInt 1 <<< (Int32.ofInt r13 &&& 31))
    have F := F z16 ez16 hz16
    refine x_ishl (z := z16) dX10_usedTables_107 ez16 hz16 ?_
    obtain ⟨z17, ez17, hz17⟩ := i32_ex (Int32.ofInt x2 ||| Int32.ofInt z16)
    have F := F z17 ez17 hz17
    refine x_ior (z := z17) dX10_usedTables_108 ez17 hz17 ?_
    refine x_istore_n [(2, 0), (0, a1), (0, z17), (0, x3), (2, x4), (0, x5)] dX10_usedTables_109 rfl (Nat.le_of_ble_eq_true rfl) ?_
    obtain ⟨hz, F⟩ := F
    refine x_iinc [(2, 0), (0, a1), (0, z17), (0, x3), (2, x4), (0, (x5 + 1))] dX10_usedTables_110 rfl rfl (Nat.le_of_ble_eq_true rfl) hz ?_
    refine x_goto 82 dX10_usedTables_113 rfl ?_
    exact F
