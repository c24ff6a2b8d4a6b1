set_option maxRecDepth 100000 in
set_option maxHeartbeats 4000000 in
theorem bX10_asked_0 {d mc ms : Nat} {X : XX} {v : VV} {Q : QQ} (a1 : Int) (a2 : Int) (hd : 4 ≤ d) (hW : SW X) (F : i32 a1 → i32 a2 → ∃ P1 : Option AV → VV → Prop, Con mX10_hasColumn 1 0 0 [(2, 0), (0, a1), (0, a2)] X v (fun o X1 v1 => X1 = X ∧ P1 o v1) ∧ ∀ (r2 : Int) (w3 : VV), P1 (some (0, r2)) w3 → (((¬ r2 = 0) → ∃ P5 : Option AV → VV → Prop, Con mX10_markTouched 3 0 0 [(2, 0), (0, a1), (0, a2)] X w3 (fun o X1 v1 => X1 = X ∧ P5 o v1) ∧ ∀ (w7 : VV), P5 none w7 → ∃ P9 : Option AV → VV → Prop, Con mX6_cutTo 0 0 0 [(2, 43), (0, 0)] X w7 (fun o X1 v1 => X1 = X ∧ P9 o v1) ∧ ∀ (w11 : VV), P9 none w11 → Ex mX10_asked d 27 [(2, 0), (0, a1), (0, a2), (0, 0), (3, 0)] [] X w11 mc ms Q) ∧ ((r2 = 0) → Q (some (0, (-1))) X w3))) : Ex mX10_asked d 0 [(2, 0), (0, a1), (0, a2), (3, 0), (3, 0)] [] X v mc ms Q := by
  refine x_li32 (i := 1) rfl (fun ha1 => ?_)
  have F := F ha1
  refine x_li32 (i := 2) rfl (fun ha2 => ?_)
  have F := F ha2
  refine x_aload_n dX10_asked_0 rfl ?_
  refine x_iload_n dX10_asked_1 rfl ?_
  refine x_iload_n dX10_asked_2 rfl ?_
  obtain ⟨P1, hC, F⟩ := F
  refine x_inv dX10_asked_3 mlX10_172 hC (sW0 hW) (Nat.le_of_ble_eq_true rfl) (gW0 hW) rfl rfl (by omega) (Nat.zero_le _) (Nat.zero_le _) (Nat.le_of_ble_eq_true rfl) (fun o1 Y4 w3 ht hP => ?_)
  obtain ⟨r2, rfl⟩ : ∃ i, o1 = some (0, i) := ht
  obtain ⟨hX, hP⟩ := hP
  have hX := Eq.symm hX
  subst hX
  have F := F r2 w3 hP
  refine x_if_ne 11 dX10_asked_6 rfl (fun hc => ?_) (fun hc => ?_)
  · have F := F.1 hc
    refine x_aload_n dX10_asked_11 rfl ?_
    refine x_iload_n dX10_asked_12 rfl ?_
    refine x_iload_n dX10_asked_13 rfl ?_
    obtain ⟨P5, hC, F⟩ := F
    refine x_inv dX10_asked_14 mlX10_196 hC (sW0 hW) (Nat.le_of_ble_eq_true rfl) (gW0 hW) rfl rfl (by omega) (Nat.zero_le _) (Nat.zero_le _) (Nat.le_of_ble_eq_true rfl) (fun o1 Y8 w7 ht hP => ?_)
    obtain rfl : o1 = none := ht
    obtain ⟨hX, hP⟩ := hP
    have hX := Eq.symm hX
    subst hX
    have F := F w7 hP
    refine x_aload_n dX10_asked_17 rfl ?_
    refine x_getr (r' := 43) flX10_65 dX10_asked_18 (sW0 hW) (gW0 hW) (rW0_9 hW) rfl (Nat.le_of_ble_eq_true rfl) ?_
    refine x_iconst dX10_asked_21 rfl (i32_of rfl) ?_
    obtain ⟨P9, hC, F⟩ := F
    refine x_inv dX10_asked_22 mlX10_82 hC (sW43 hW) (Nat.le_of_ble_eq_true rfl) (gW43 hW) rfl rfl (by omega) (Nat.zero_le _) (Nat.zero_le _) (Nat.le_of_ble_eq_true rfl) (fun o1 Y12 w11 ht hP => ?_)
    obtain rfl : o1 = none := ht
    obtain ⟨hX, hP⟩ := hP
    have hX := Eq.symm hX
    subst hX
    have F := F w11 hP
    refine x_iconst dX10_asked_25 rfl (i32_of rfl) ?_
    refine x_istore_n [(2, 0), (0, a1), (0, a2), (0, 0), (3, 0)] dX10_asked_26 rfl (Nat.le_of_ble_eq_true rfl) ?_
    exact F
  · have F := F.2 hc
    refine x_iconst dX10_asked_9 rfl (i32_of rfl) ?_
    exact x_ret (some (0, (-1))) rfl ⟨dX10_asked_10, Or.inl rfl⟩ F

set_option maxRecDepth 100000 in
set_option maxHeartbeats 4000000 in
theorem bX10_asked_27 {d mc ms : Nat} {X : XX} {v : VV} {Q : QQ} (a1 : Int) (a2 : Int) (x3 : Int) (hd : 4 ≤ d) (hW : SW X) (F : i32 a1 → i32 a2 → i32 x3 → (((40 ≤ x3) → ∃ P13 : Option AV → VV → Prop, Con mX6_size 0 0 0 [(2, 43)] X v (fun o X1 v1 => X1 = X ∧ P13 o v1) ∧ ∀ (r14 : Int) (w15 : VV), P13 (some (0, r14)) w15 → Q (some (0, r14)) X w15) ∧ ((x3 < 40) → (0 ≤ x3 ∧ x3 < 40) ∧ ((((X.2 40 x3) = -1) → i32 (x3 + 1) ∧ Ex mX10_asked d 27 [(2, 0), (0, a1), (0, a2), (0, (x3 + 1)), (3, 0)] [] X v mc ms Q) ∧ ((¬ (X.2 40 x3) = -1) → X.1.2 (X.2 40 x3) = (0, 0) ∧ (0 ≤ (X.2 40 x3) ∧ (X.2 40 x3) < X.1.1) ∧ ∃ P18 : Option AV → VV → Prop, Con mX2_bitsOf 0 0 0 [(2, 41), (0, (v (X.2 40 x3) 0))] X v (fun o X1 v1 => X1 = X ∧ P18 o v1) ∧ ∀ (r19 : Int) (w20 : VV), P18 (some (0, r19)) w20 → ∀ z22 : Int, Int32.ofInt r19 &&& Int32.ofInt (w20 (X.2 40 x3) 1) = Int32.ofInt z22 → i32 z22 → (((z22 = 0) → i32 (x3 + 1) ∧ Ex mX10_asked d 27 [(2, 0), (0, a1), (0, a2), (0, (x3 + 1)), (3, 0)] [] X w20 mc ms Q) ∧ ((¬ z22 = 0) → ∃ P23 : Option AV → VV → Prop, Con mX6_add 0 0 0 [(2, 43), (0, x3)] X w20 (fun o X1 v1 => X1 = X ∧ P23 o v1) ∧ ∀ (w25 : VV), P23 none w25 → i32 (x3 + 1) ∧ Ex mX10_asked d 27 [(2, 0), (0, a1), (0, a2), (0, (x3 + 1)), (3, 0)] [] X w25 mc ms Q))))))) : Ex mX10_asked d 27 [(2, 0), (0, a1), (0, a2), (0, x3), (3, 0)] [] X v mc ms Q := by
  refine x_li32 (i := 1) rfl (fun ha1 => ?_)
  have F := F ha1
  refine x_li32 (i := 2) rfl (fun ha2 => ?_)
  have F := F ha2
  refine x_li32 (i := 3) rfl (fun hx3 => ?_)
  have F := F hx3
  refine x_iload_n dX10_asked_27 rfl ?_
  refine x_bipush dX10_asked_28 kb_40 (i32_of rfl) ?_
  refine x_icmp_ge 81 dX10_asked_30 rfl (fun hc => ?_) (fun hc => ?_)
  · have F := F.1 hc
    refine x_aload_n dX10_asked_81 rfl ?_
    refine x_getr (r' := 43) flX10_65 dX10_asked_82 (sW0 hW) (gW0 hW) (rW0_9 hW) rfl (Nat.le_of_ble_eq_true rfl) ?_
    obtain ⟨P13, hC, F⟩ := F
    refine x_inv dX10_asked_85 mlX10_75 hC (sW43 hW) (Nat.le_of_ble_eq_true rfl) (gW43 hW) rfl rfl (by omega) (Nat.zero_le _) (Nat.zero_le _) (Nat.le_of_ble_eq_true rfl) (fun o1 Y16 w15 ht hP => ?_)
    obtain ⟨r14, rfl⟩ : ∃ i, o1 = some (0, i) := ht
    obtain ⟨hX, hP⟩ := hP
    have hX := Eq.symm hX
    subst hX
    have F := F r14 w15 hP
    exact x_ret (some (0, r14)) rfl ⟨dX10_asked_88, Or.inl rfl⟩ F
  · have F := F.2 hc
    refine x_aload_n dX10_asked_33 rfl ?_
    refine x_getr (r' := 40) flX10_54 dX10_asked_34 (sW0 hW) (gW0 hW) (rW0_7 hW) rfl (Nat.le_of_ble_eq_true rfl) ?_
    refine x_iload_n dX10_asked_37 rfl ?_
    obtain ⟨hi, F⟩ := F
    refine x_aald (r' := (X.2 40 x3)) dX10_asked_38 (sW40 hW) (by decide) (gW40 hW) hi rfl ?_
    refine x_astore [(2, 0), (0, a1), (0, a2), (0, x3), (2, (X.2 40 x3))] dX10_asked_39 rfl (Nat.le_of_ble_eq_true rfl) ?_
    refine x_aload dX10_asked_41 rfl ?_
    refine x_ifnull 75 dX10_asked_43 rfl (fun hc => ?_) (fun hc => ?_)
    · have F := F.1 hc
      obtain ⟨hz, F⟩ := F
      refine x_iinc [(2, 0), (0, a1), (0, a2), (0, (x3 + 1)), (2, (X.2 40 x3))] dX10_asked_75 rfl rfl (Nat.le_of_ble_eq_true rfl) hz ?_
      refine x_goto 27 dX10_asked_78 rfl ?_
      exact x_less [(2, 0), (0, a1), (0, a2), (0, (x3 + 1)), (3, 0)] ⟨Or.inr rfl, ⟨Or.inr rfl, ⟨Or.inr rfl, ⟨Or.inr rfl, ⟨Or.inl rfl, trivial⟩⟩⟩⟩⟩ F
    · have F := F.2 hc
      refine x_aload_n dX10_asked_46 rfl ?_
      refine x_getr (r' := 41) flX10_61 dX10_asked_47 (sW0 hW) (gW0 hW) (rW0_8 hW) rfl (Nat.le_of_ble_eq_true rfl) ?_
      refine x_aload dX10_asked_50 rfl ?_
      obtain ⟨hs17, hr17, F⟩ := F
      refine x_geti (e := (v (X.2 40 x3) 0)) 0 flX10_203 dX10_asked_52 hs17 hr17 rfl rfl (Nat.le_of_ble_eq_true rfl) (tagn2 rfl) ?_
      obtain ⟨P18, hC, F⟩ := F
      refine x_inv dX10_asked_55 mlX10_206 hC (sW41 hW) (Nat.le_of_ble_eq_true rfl) (gW41 hW) rfl rfl (by omega) (Nat.zero_le _) (Nat.zero_le _) (Nat.le_of_ble_eq_true rfl) (fun o1 Y21 w20 ht hP => ?_)
      obtain ⟨r19, rfl⟩ : ∃ i, o1 = some (0, i) := ht
      obtain ⟨hX, hP⟩ := hP
      have hX := Eq.symm hX
      subst hX
      have F := F r19 w20 hP
      refine x_aload dX10_asked_58 rfl ?_
      refine x_geti (e := (w20 (X.2 40 x3) 1)) 0 flX10_209 dX10_asked_60 hs17 hr17 rfl rfl (Nat.le_of_ble_eq_true rfl) (tagn2 rfl) ?_
      obtain ⟨z22, ez22, hz22⟩ := i32_ex (Int32.ofInt r19 &&& Int32.ofInt (w20 (X.2 40 x3) 1))
      have F := F z22 ez22 hz22
      refine x_iand (z := z22) dX10_asked_63 ez22 hz22 ?_
      refine x_if_eq 75 dX10_asked_64 rfl (fun hc => ?_) (fun hc => ?_)
      · have F := F.1 hc
        obtain ⟨hz, F⟩ := F
        refine x_iinc [(2, 0), (0, a1), (0, a2), (0, (x3 + 1)), (2, (X.2 40 x3))] dX10_asked_75 rfl rfl (Nat.le_of_ble_eq_true rfl) hz ?_
        refine x_goto 27 dX10_asked_78 rfl ?_
        exact x_less [(2, 0), (0, a1), (0, a2), (0, (x3 + 1)), (3, 0)] ⟨Or.inr rfl, ⟨Or.inr rfl, ⟨Or.inr rfl, ⟨Or.inr rfl, ⟨Or.inl rfl, trivial⟩⟩⟩⟩⟩ F
      · have F := F.2 hc
        refine x_aload_n dX10_asked_67 rfl ?_
        refine x_getr (r' := 43) flX10_65 dX10_asked_68 (sW0 hW) (gW0 hW) (rW0_9 hW) rfl (Nat.le_of_ble_eq_true rfl) ?_
        refine x_iload_n dX10_asked_71 rfl ?_
        obtain ⟨P23, hC, F⟩ := F
        refine x_inv dX10_asked_72 mlX10_212 hC (sW43 hW) (Nat.le_of_ble_eq_true rfl) (gW43 hW) rfl rfl (by omega) (Nat.zero_le _) (Nat.zero_le _) (Nat.le_of_ble_eq_true rfl) (fun o1 Y26 w25 ht hP => ?_)
        obtain rfl : o1 = none := ht
        obtain ⟨hX, hP⟩ := hP
        have hX := Eq.symm hX
        subst hX
        have F := F w25 hP
        obtain ⟨hz, F⟩ := F
        refine x_iinc [(2, 0), (0, a1), (0, a2), (0, (x3 + 1)), (2, (X.2 40 x3))] dX10_asked_75 rfl rfl (Nat.le_of_ble_eq_true rfl) hz ?_
        refine x_goto 27 dX10_asked_78 rfl ?_
        exact x_less [(2, 0), (0, a1), (0, a2), (0, (x3 + 1)), (3, 0)] ⟨Or.inr rfl, ⟨Or.inr rfl, ⟨Or.inr rfl, ⟨Or.inr rfl, ⟨Or.inl rfl, trivial⟩⟩⟩⟩⟩ F

set_option maxRecDepth 100000 in
set_option maxHeartbeats 4000000 in
theorem bX10_found_0 {d mc ms : Nat} {X : XX} {v : VV} {Q : QQ} (a1 : Int) (hd : 1 ≤ d) (hW : SW X) (F : i32 a1 → ∃ P1 : Option AV → VV → Prop, Con mX6_get 0 0 0 [(2, 43), (0, a1)] X v (fun o X1 v1 => X1 = X ∧ P1 o v1) ∧ ∀ (r2 : Int) (w3 : VV), P1 (some (0, r2)) w3 → Q (some (0, r2)) X w3) : Ex mX10_found d 0 [(2, 0), (0, a1)] [] X v mc ms Q := by
  refine x_li32 (i := 1) rfl (fun ha1 => ?_)
  have F := F ha1
  refine x_aload_n dX10_found_0 rfl ?_
  refine x_getr (r' := 43) flX10_65 dX10_found_1 (sW0 hW) (gW0 hW) (rW0_9 hW) rfl (Nat.le_of_ble_eq_true rfl) ?_
  refine x_iload_n dX10_found_4 rfl ?_
  obtain ⟨P1, hC, F⟩ := F
  refine x_inv dX10_found_5 mlX10_156 hC (sW43 hW) (Nat.le_of_ble_eq_true rfl) (gW43 hW) rfl rfl (by omega) (Nat.zero_le _) (Nat.zero_le _) (Nat.le_of_ble_eq_true rfl) (fun o1 Y4 w3 ht hP => ?_)
  obtain ⟨r2, rfl⟩ : ∃ i, o1 = some (0, i) := ht
  obtain ⟨hX, hP⟩ := hP
  have hX := Eq.symm hX
  subst hX
  have F := F r2 w3 hP
  exact x_ret (some (0, r2)) rfl ⟨dX10_found_8, Or.inl rfl⟩ F

set_option maxRecDepth 100000 in
set_option maxHeartbeats 4000000 in
theorem bX10_retype_0 {d mc ms : Nat} {X : XX} {v : VV} {Q : QQ} (a1 : Int) (a2 : Int) (a3 : Int) (hd : 5 ≤ d) (hW : SW X) (F : i32 a1 → i32 a2 → i32 a3 → ∃ P1 : Option AV → VV → Prop, Con mX10_tableAt 0 0 0 [(2, 0), (0, a1)] X v (fun o X1 v1 => X1 = X ∧ P1 o v1) ∧ ∀ (r2 : Int) (w3 : VV), P1 (some (2, r2)) w3 → (((r2 = -1) → Q (some (0, (-1))) X w3) ∧ ((¬ r2 = -1) → X.1.2 r2 = (7, 0) ∧ (0 ≤ r2 ∧ r2 < X.1.1) ∧ (((¬ (w3 r2 5) = 0) → Q (some (0, (-1))) X w3) ∧ (((w3 r2 5) = 0) → ∃ P6 : Option AV → VV → Prop, Con mX10_hasColumn 1 0 0 [(2, 0), (0, a1), (0, a2)] X w3 (fun o X1 v1 => X1 = X ∧ P6 o v1) ∧ ∀ (r7 : Int) (w8 : VV), P6 (some (0, r7)) w8 → (((r7 = 0) → Q (some (0, (-1))) X w8) ∧ ((¬ r7 = 0) → ∃ P10 : Option AV → VV → Prop, Con mX10_isType 0 0 0 [(0, a3)] X w8 (fun o X1 v1 => X1 = X ∧ P10 o v1) ∧ ∀ (r11 : Int) (w12 : VV), P10 (some (0, r11)) w12 → (((¬ r11 = 0) → i32 (a1 * 8) ∧ (i32 (a1 * 8) → i32 ((a1 * 8) + a2)) ∧ ((0 : Int) ≤ 0 ∧ (0 : Int) ≤ 0 ∧ (0 : Int) ≤ 128 ∧ (0 + 128 : Int) ≤ 128 ∧ (0 + 128 : Int) ≤ 128) ∧ (0 ≤ ((a1 * 8) + a2) ∧ ((a1 * 8) + a2) < 128) ∧ ∃ P14 : Option AV → VV → Prop, Con mX6_cutTo 0 0 0 [(2, 45), (0, 0)] X (upd2 (cpy2 w12 38 0 39 0 128) 39 ((a1 * 8) + a2) a3) (fun o X1 v1 => X1 = X ∧ P14 o v1) ∧ ∀ (w16 : VV), P14 none w16 → i32 (a1 + 1) ∧ Ex mX10_retype d 83 [(2, 0), (0, a1), (0, a2), (0, a3), (2, r2), (0, ((a1 * 8) + a2)), (0, (a1 + 1))] [] X w16 mc ms Q) ∧ ((r11 = 0) → Q (some (0, (-1))) X w12))))))))) : Ex mX10_retype d 0 [(2, 0), (0, a1), (0, a2), (0, a3), (3, 0), (3, 0), (3, 0)] [] X v mc ms Q := by
  refine x_li32 (i := 1) rfl (fun ha1 => ?_)
  have F := F ha1
  refine x_li32 (i := 2) rfl (fun ha2 => ?_)
  have F := F ha2
  refine x_li32 (i := 3) rfl (fun ha3 => ?_)
  have F := F ha3
  refine x_aload_n dX10_retype_0 rfl ?_
  refine x_iload_n dX10_retype_1 rfl ?_
  obtain ⟨P1, hC, F⟩ := F
  refine x_inv dX10_retype_2 mlX10_143 hC (sW0 hW) (Nat.le_of_ble_eq_true rfl) (gW0 hW) rfl rfl (by omega) (Nat.zero_le _) (Nat.zero_le _) (Nat.le_of_ble_eq_true rfl) (fun o1 Y4 w3 ht hP => ?_)
  obtain ⟨r2, rfl⟩ : ∃ i, o1 = some (2, i) := ht
  obtain ⟨hX, hP⟩ := hP
  have hX := Eq.symm hX
  subst hX
  have F := F r2 w3 hP
  refine x_astore [(2, 0), (0, a1), (0, a2), (0, a3), (2, r2), (3, 0), (3, 0)] dX10_retype_5 rfl (Nat.le_of_ble_eq_true rfl) ?_
  refine x_aload dX10_retype_7 rfl ?_
  refine x_ifnull 36 dX10_retype_9 rfl (fun hc => ?_) (fun hc => ?_)
  · have F := F.1 hc
    refine x_iconst dX10_retype_36 rfl (i32_of rfl) ?_
    exact x_ret (some (0, (-1))) rfl ⟨dX10_retype_37, Or.inl rfl⟩ F
  · have F := F.2 hc
    refine x_aload dX10_retype_12 rfl ?_
    obtain ⟨hs5, hr5, F⟩ := F
    refine x_geti (e := (w3 r2 5)) 0 flX10_147 dX10_retype_14 hs5 hr5 rfl rfl (Nat.le_of_ble_eq_true rfl) (tagn2 rfl) ?_
    refine x_if_ne 36 dX10_retype_17 rfl (fun hc => ?_) (fun hc => ?_)
    · have F := F.1 hc
      refine x_iconst dX10_retype_36 rfl (i32_of rfl) ?_
      exact x_ret (some (0, (-1))) rfl ⟨dX10_retype_37, Or.inl rfl⟩ F
    · have F := F.2 hc
      refine x_aload_n dX10_retype_20 rfl ?_
      refine x_iload_n dX10_retype_21 rfl ?_
      refine x_iload_n dX10_retype_22 rfl ?_
      obtain ⟨P6, hC, F⟩ := F
      refine x_inv dX10_retype_23 mlX10_172 hC (sW0 hW) (Nat.le_of_ble_eq_true rfl) (gW0 hW) rfl rfl (by omega) (Nat.zero_le _) (Nat.zero_le _) (Nat.le_of_ble_eq_true rfl) (fun o1 Y9 w8 ht hP => ?_)
      obtain ⟨r7, rfl⟩ : ∃ i, o1 = some (0, i) := ht
      obtain ⟨hX, hP⟩ := hP
      have hX := Eq.symm hX
      subst hX
      have F := F r7 w8 hP
      refine x_if_eq 36 dX10_retype_26 rfl (fun hc => ?_) (fun hc => ?_)
      · have F := F.1 hc
        refine x_iconst dX10_retype_36 rfl (i32_of rfl) ?_
        exact x_ret (some (0, (-1))) rfl ⟨dX10_retype_37, Or.inl rfl⟩ F
      · have F := F.2 hc
        refine x_iload_n dX10_retype_29 rfl ?_
        obtain ⟨P10, hC, F⟩ := F
        refine x_static dX10_retype_30 mlX10_215 hC rfl rfl (by omega) (Nat.zero_le _) (Nat.zero_le _) (Nat.le_of_ble_eq_true rfl) (fun o1 Y13 w12 ht hP => ?_)
        obtain ⟨r11, rfl⟩ : ∃ i, o1 = some (0, i) := ht
        obtain ⟨hX, hP⟩ := hP
        have hX := Eq.symm hX
        subst hX
        have F := F r11 w12 hP
        refine x_if_ne 38 dX10_retype_33 rfl (fun hc => ?_) (fun hc => ?_)
        · have F := F.1 hc
          refine x_iload_n dX10_retype_38 rfl ?_
          refine x_bipush dX10_retype_39 kb_8 (i32_of rfl) ?_
          obtain ⟨hz, F⟩ := F
          refine x_imul dX10_retype_41 hz ?_
          refine x_iload_n dX10_retype_42 rfl ?_
          refine x_si32 (i := 1) rfl (fun hk1 => ?_)
          obtain ⟨hz, F⟩ := F
          have hz := hz hk1
          refine x_iadd dX10_retype_43 hz ?_
          refine x_istore [(2, 0), (0, a1), (0, a2), (0, a3), (2, r2), (0, ((a1 * 8) + a2)), (3, 0)] dX10_retype_44 rfl (Nat.le_of_ble_eq_true rfl) ?_
          refine x_aload_n dX10_retype_46 rfl ?_
          refine x_getr (r' := 38) flX10_45 dX10_retype_47 (sW0 hW) (gW0 hW) (rW0_5 hW) rfl (Nat.le_of_ble_eq_true rfl) ?_
          refine x_iconst dX10_retype_50 rfl (i32_of rfl) ?_
          refine x_aload_n dX10_retype_51 rfl ?_
          refine x_getr (r' := 39) flX10_49 dX10_retype_52 (sW0 hW) (gW0 hW) (rW0_6 hW) rfl (Nat.le_of_ble_eq_true rfl) ?_
          refine x_iconst dX10_retype_55 rfl (i32_of rfl) ?_
          refine x_sipush dX10_retype_56 ks_128 (i32_of rfl) ?_
          obtain ⟨hb, F⟩ := F
          refine x_copy dX10_retype_59 mlX10_219 (sW38 hW) (sW39 hW) (gW38 hW) (gW39 hW) hb.1 hb.2.1 hb.2.2.1 hb.2.2.2.1 hb.2.2.2.2 (by omega) rfl ?_
          refine x_aload_n dX10_retype_62 rfl ?_
          refine x_getr (r' := 39) flX10_49 dX10_retype_63 (sW0 hW) (gW0 hW) (rW0_6 hW) rfl (Nat.le_of_ble_eq_true rfl) ?_
          refine x_iload dX10_retype_66 rfl ?_
          refine x_iload_n dX10_retype_68 rfl ?_
          obtain ⟨hi, F⟩ := F
          refine x_iast dX10_retype_69 (sW39 hW) (gW39 hW) hi ?_
          refine x_aload_n dX10_retype_70 rfl ?_
          refine x_getr (r' := 45) flX10_68 dX10_retype_71 (sW0 hW) (gW0 hW) (rW0_10 hW) rfl (Nat.le_of_ble_eq_true rfl) ?_
          refine x_iconst dX10_retype_74 rfl (i32_of rfl) ?_
          obtain ⟨P14, hC, F⟩ := F
          refine x_inv dX10_retype_75 mlX10_82 hC (sW45 hW) (Nat.le_of_ble_eq_true rfl) (gW45 hW) rfl rfl (by omega) (Nat.zero_le _) (Nat.zero_le _) (Nat.le_of_ble_eq_true rfl) (fun o1 Y17 w16 ht hP => ?_)
          obtain rfl : o1 = none := ht
          obtain ⟨hX, hP⟩ := hP
          have hX := Eq.symm hX
          subst hX
          have F := F w16 hP
          refine x_iload_n dX10_retype_78 rfl ?_
          refine x_iconst dX10_retype_79 rfl (i32_of rfl) ?_
          obtain ⟨hz, F⟩ := F
          refine x_iadd dX10_retype_80 hz ?_
          refine x_istore [(2, 0), (0, a1), (0, a2), (0, a3), (2, r2), (0, ((a1 * 8) + a2)), (0, (a1 + 1))] dX10_retype_81 rfl (Nat.le_of_ble_eq_true rfl) ?_
          exact F
        · have F := F.2 hc
          refine x_iconst dX10_retype_36 rfl (i32_of rfl) ?_
          exact x_ret (some (0, (-1))) rfl ⟨dX10_retype_37, Or.inl rfl⟩ F

set_option maxRecDepth 100000 in
set_option maxHeartbeats 4000000 in
theorem bX10_retype_83 {d mc ms : Nat} {X : XX} {v : VV} {Q : QQ} (a1 : Int) (a2 : Int) (a3 : Int) (x4 : Int) (x5 : Int) (x6 : Int) (hd : 5 ≤ d) (hW : SW X) (F : i32 a1 → i32 a2 → i32 a3 → i32 x5 → i32 x6 → (((16 ≤ x6) → ∃ P18 : Option AV → VV → Prop, Con mX6_size 0 0 0 [(2, 45)] X v (fun o X1 v1 => X1 = X ∧ P18 o v1) ∧ ∀ (r19 : Int) (w20 : VV), P18 (some (0, r19)) w20 → (((r19 ≤ 0) → ∃ P22 : Option AV → VV → Prop, Con mX10_countRetypedBeside 0 0 0 [(2, 0), (0, x5)] X w20 (fun o X1 v1 => X1 = X ∧ P22 o v1) ∧ ∀ (r23 : Int) (w24 : VV), P22 (some (0, r23)) w24 → ((0 : Int) ≤ 0 ∧ (0 : Int) ≤ 0 ∧ (0 : Int) ≤ 128 ∧ (0 + 128 : Int) ≤ 128 ∧ (0 + 128 : Int) ≤ 128) ∧ Q (some (0, r23)) X (cpy2 w24 39 0 38 0 128)) ∧ ((0 < r19) → ∃ P26 : Option AV → VV → Prop, Con mX6_cutTo 0 0 0 [(2, 43), (0, 0)] X w20 (fun o X1 v1 => X1 = X ∧ P26 o v1) ∧ ∀ (w28 : VV), P26 none w28 → ∃ P30 : Option AV → VV → Prop, Con mX6_addAll 2 0 0 [(2, 43), (2, 45)] X w28 (fun o X1 v1 => X1 = X ∧ P30 o v1) ∧ ∀ (w32 : VV), P30 none w32 → Q (some (0, (-2))) X w32))) ∧ ((x6 < 16) → ∃ P34 : Option AV → VV → Prop, Con mX10_tryTypes 4 0 0 [(2, 0), (0, x6)] X v (fun o X1 v1 => X1 = X ∧ P34 o v1) ∧ ∀ (w36 : VV), P34 none w36 → i32 (x6 + 1) ∧ Ex mX10_retype d 83 [(2, 0), (0, a1), (0, a2), (0, a3), (2, x4), (0, x5), (0, (x6 + 1))] [] X w36 mc ms Q))) : Ex mX10_retype d 83 [(2, 0), (0, a1), (0, a2), (0, a3), (2, x4), (0, x5), (0, x6)] [] X v mc ms Q := by
  refine x_li32 (i := 1) rfl (fun ha1 => ?_)
  have F := F ha1
  refine x_li32 (i := 2) rfl (fun ha2 => ?_)
  have F := F ha2
  refine x_li32 (i := 3) rfl (fun ha3 => ?_)
  have F := F ha3
  refine x_li32 (i := 5) rfl (fun hx5 => ?_)
  have F := F hx5
  refine x_li32 (i := 6) rfl (fun hx6 => ?_)
  have F := F hx6
  refine x_iload dX10_retype_83 rfl ?_
  refine x_bipush dX10_retype_85 kb_16 (i32_of rfl) ?_
  refine x_icmp_ge 102 dX10_retype_87 rfl (fun hc => ?_) (fun hc => ?_)
  · have F := F.1 hc
    refine x_aload_n dX10_retype_102 rfl ?_
    refine x_getr (r' := 45) flX10_68 dX10_retype_103 (sW0 hW) (gW0 hW) (rW0_10 hW) rfl (Nat.le_of_ble_eq_true rfl) ?_
    obtain ⟨P18, hC, F⟩ := F
    refine x_inv dX10_retype_106 mlX10_75 hC (sW45 hW) (Nat.le_of_ble_eq_true rfl) (gW45 hW) rfl rfl (by omega) (Nat.zero_le _) (Nat.zero_le _) (Nat.le_of_ble_eq_true rfl) (fun o1 Y21 w20 ht hP => ?_)
    obtain ⟨r19, rfl⟩ : ∃ i, o1 = some (0, i) := ht
    obtain ⟨hX, hP⟩ := hP
    have hX := Eq.symm hX
    subst hX
    have F := F r19 w20 hP
    refine x_if_le 134 dX10_retype_109 rfl (fun hc => ?_) (fun hc => ?_)
    · have F := F.1 hc
      refine x_aload_n dX10_retype_134 rfl ?_
      refine x_iload dX10_retype_135 rfl ?_
      obtain ⟨P22, hC, F⟩ := F
      refine x_inv dX10_retype_137 mlX10_231 hC (sW0 hW) (Nat.le_of_ble_eq_true rfl) (gW0 hW) rfl rfl (by omega) (Nat.zero_le _) (Nat.zero_le _) (Nat.le_of_ble_eq_true rfl) (fun o1 Y25 w24 ht hP => ?_)
      obtain ⟨r23, rfl⟩ : ∃ i, o1 = some (0, i) := ht
      obtain ⟨hX, hP⟩ := hP
      have hX := Eq.symm hX
      subst hX
      have F := F r23 w24 hP
      refine x_istore [(2, 0), (0, a1), (0, a2), (0, a3), (2, x4), (0, x5), (0, r23)] dX10_retype_140 rfl (Nat.le_of_ble_eq_true rfl) ?_
      refine x_aload_n dX10_retype_142 rfl ?_
      refine x_getr (r' := 39) flX10_49 dX10_retype_143 (sW0 hW) (gW0 hW) (rW0_6 hW) rfl (Nat.le_of_ble_eq_true rfl) ?_
      refine x_iconst dX10_retype_146 rfl (i32_of rfl) ?_
      refine x_aload_n dX10_retype_147 rfl ?_
      refine x_getr (r' := 38) flX10_45 dX10_retype_148 (sW0 hW) (gW0 hW) (rW0_5 hW) rfl (Nat.le_of_ble_eq_true rfl) ?_
      refine x_iconst dX10_retype_151 rfl (i32_of rfl) ?_
      refine x_sipush dX10_retype_152 ks_128 (i32_of rfl) ?_
      obtain ⟨hb, F⟩ := F
      refine x_copy dX10_retype_155 mlX10_219 (sW39 hW) (sW38 hW) (gW39 hW) (gW38 hW) hb.1 hb.2.1 hb.2.2.1 hb.2.2.2.1 hb.2.2.2.2 (by omega) rfl ?_
      refine x_iload dX10_retype_158 rfl ?_
      exact x_ret (some (0, r23)) rfl ⟨dX10_retype_160, Or.inl rfl⟩ F
    · have F := F.2 hc
      refine x_aload_n dX10_retype_112 rfl ?_
      refine x_getr (r' := 43) flX10_65 dX10_retype_113 (sW0 hW) (gW0 hW) (rW0_9 hW) rfl (Nat.le_of_ble_eq_true rfl) ?_
      refine x_iconst dX10_retype_116 rfl (i32_of rfl) ?_
      obtain ⟨P26, hC, F⟩ := F
      refine x_inv dX10_retype_117 mlX10_82 hC (sW43 hW) (Nat.le_of_ble_eq_true rfl) (gW43 hW) rfl rfl (by omega) (Nat.zero_le _) (Nat.zero_le _) (Nat.le_of_ble_eq_true rfl) (fun o1 Y29 w28 ht hP => ?_)
      obtain rfl : o1 = none := ht
      obtain ⟨hX, hP⟩ := hP
      have hX := Eq.symm hX
      subst hX
      have F := F w28 hP
      refine x_aload_n dX10_retype_120 rfl ?_
      refine x_getr (r' := 43) flX10_65 dX10_retype_121 (sW0 hW) (gW0 hW) (rW0_9 hW) rfl (Nat.le_of_ble_eq_true rfl) ?_
      refine x_aload_n dX10_retype_124 rfl ?_
      refine x_getr (r' := 45) flX10_68 dX10_retype_125 (sW0 hW) (gW0 hW) (rW0_10 hW) rfl (Nat.le_of_ble_eq_true rfl) ?_
      obtain ⟨P30, hC, F⟩ := F
      refine x_inv dX10_retype_128 mlX10_228 hC (sW43 hW) (Nat.le_of_ble_eq_true rfl) (gW43 hW) rfl rfl (by omega) (Nat.zero_le _) (Nat.zero_le _) (Nat.le_of_ble_eq_true rfl) (fun o1 Y33 w32 ht hP => ?_)
      obtain rfl : o1 = none := ht
      obtain ⟨hX, hP⟩ := hP
      have hX := Eq.symm hX
      subst hX
      have F := F w32 hP
      refine x_bipush dX10_retype_131 kb_m2 (i32_of rfl) ?_
      exact x_ret (some (0, (-2))) rfl ⟨dX10_retype_133, Or.inl rfl⟩ F
  · have F := F.2 hc
    refine x_aload_n dX10_retype_90 rfl ?_
    refine x_iload dX10_retype_91 rfl ?_
    obtain ⟨P34, hC, F⟩ := F
    refine x_inv dX10_retype_93 mlX10_225 hC (sW0 hW) (Nat.le_of_ble_eq_true rfl) (gW0 hW) rfl rfl (by omega) (Nat.zero_le _) (Nat.zero_le _) (Nat.le_of_ble_eq_true rfl) (fun o1 Y37 w36 ht hP => ?_)
    obtain rfl : o1 = none := ht
    obtain ⟨hX, hP⟩ := hP
    have hX := Eq.symm hX
    subst hX
    have F := F w36 hP
    obtain ⟨hz, F⟩ := F
    refine x_iinc [(2, 0), (0, a1), (0, a2), (0, a3), (2, x4), (0, x5), (0, (x6 + 1))] dX10_retype_96 rfl rfl (Nat.le_of_ble_eq_true rfl) hz ?_
    refine x_goto 83 dX10_retype_99 rfl ?_
    exact F

set_option maxRecDepth 100000 in
set_option maxHeartbeats 4000000 in
theorem bX10_drop_0 {d mc ms : Nat} {X : XX} {v : VV} {Q : QQ} (a1 : Int) (hd : 1 ≤ d) (hW : SW X) (F : i32 a1 → ∃ P1 : Option AV → VV → Prop, Con mX10_tableAt 0 0 0 [(2, 0), (0, a1)] X v (fun o X1 v1 => X1 = X ∧ P1 o v1) ∧ ∀ (r2 : Int) (w3 : VV), P1 (some (2, r2)) w3 → (((¬ r2 = -1) → Ex mX10_drop d 12 [(2, 0), (0, a1), (0, 0), (3, 0)] [] X w3 mc ms Q) ∧ ((r2 = -1) → Q (some (0, (-1))) X w3))) : Ex mX10_drop d 0 [(2, 0), (0, a1), (3, 0), (3, 0)] [] X v mc ms Q := by
  refine x_li32 (i := 1) rfl (fun ha1 => ?_)
  have F := F ha1
  refine x_aload_n dX10_drop_0 rfl ?_
  refine x_iload_n dX10_drop_1 rfl ?_
  obtain ⟨P1, hC, F⟩ := F
  refine x_inv dX10_drop_2 mlX10_143 hC (sW0 hW) (Nat.le_of_ble_eq_true rfl) (gW0 hW) rfl rfl (by omega) (Nat.zero_le _) (Nat.zero_le _) (Nat.le_of_ble_eq_true rfl) (fun o1 Y4 w3 ht hP => ?_)
  obtain ⟨r2, rfl⟩ : ∃ i, o1 = some (2, i) := ht
  obtain ⟨hX, hP⟩ := hP
  have hX := Eq.symm hX
  subst hX
  have F := F r2 w3 hP
  refine x_ifnonnull 10 dX10_drop_5 rfl (fun hc => ?_) (fun hc => ?_)
  · have F := F.1 hc
    refine x_iconst dX10_drop_10 rfl (i32_of rfl) ?_
    refine x_istore_n [(2, 0), (0, a1), (0, 0), (3, 0)] dX10_drop_11 rfl (Nat.le_of_ble_eq_true rfl) ?_
    exact F
  · have F := F.2 hc
    refine x_iconst dX10_drop_8 rfl (i32_of rfl) ?_
    exact x_ret (some (0, (-1))) rfl ⟨dX10_drop_9, Or.inl rfl⟩ F

set_option maxRecDepth 100000 in
set_option maxHeartbeats 4000000 in
theorem bX10_drop_12 {d mc ms : Nat} {X : XX} {v : VV} {Q : QQ} (a1 : Int) (x2 : Int) (hd : 1 ≤ d) (hW : SW X) (F : i32 a1 → i32 x2 → (((16 ≤ x2) → (0 ≤ a1 ∧ a1 < 16) ∧ ∃ P6 : QQ, Con mX10_dropAsksOf 0 0 0 [(2, 0), (0, a1)] (X.1, upd2 X.2 37 a1 (-1)) v P6 ∧ ∀ (r7 : Int) (Y9 : XX) (w8 : VV), P6 (some (0, r7)) Y9 w8 → SW Y9 ∧ Q (some (0, r7)) Y9 w8) ∧ ((x2 < 16) → (0 ≤ x2 ∧ x2 < 16) ∧ ((((X.2 37 x2) = -1) → i32 (x2 + 1) ∧ Ex mX10_drop d 12 [(2, 0), (0, a1), (0, (x2 + 1)), (3, 0)] [] X v mc ms Q) ∧ ((¬ (X.2 37 x2) = -1) → X.1.2 (X.2 37 x2) = (7, 0) ∧ (0 ≤ (X.2 37 x2) ∧ (X.2 37 x2) < X.1.1) ∧ X.1.2 (X.2 (X.2 37 x2) 2) = (6, 0) ∧ (0 ≤ (X.2 (X.2 37 x2) 2) ∧ (X.2 (X.2 37 x2) 2) < X.1.1) ∧ ∃ P13 : Option AV → VV → Prop, Con mX6_has 0 0 0 [(2, (X.2 (X.2 37 x2) 2)), (0, a1)] X v (fun o X1 v1 => X1 = X ∧ P13 o v1) ∧ ∀ (r14 : Int) (w15 : VV), P13 (some (0, r14)) w15 → (((r14 = 0) → i32 (x2 + 1) ∧ Ex mX10_drop d 12 [(2, 0), (0, a1), (0, (x2 + 1)), (3, 0)] [] X w15 mc ms Q) ∧ ((¬ r14 = 0) → Q (some (0, (-2))) X w15))))))) : Ex mX10_drop d 12 [(2, 0), (0, a1), (0, x2), (3, 0)] [] X v mc ms Q := by
  refine x_li32 (i := 1) rfl (fun ha1 => ?_)
  have F := F ha1
  refine x_li32 (i := 2) rfl (fun hx2 => ?_)
  have F := F hx2
  refine x_iload_n dX10_drop_12 rfl ?_
  refine x_bipush dX10_drop_13 kb_16 (i32_of rfl) ?_
  refine x_icmp_ge 49 dX10_drop_15 rfl (fun hc => ?_) (fun hc => ?_)
  · have F := F.1 hc
    refine x_aload_n dX10_drop_49 rfl ?_
    refine x_getr (r' := 37) flX10_41 dX10_drop_50 (sW0 hW) (gW0 hW) (rW0_4 hW) rfl (Nat.le_of_ble_eq_true rfl) ?_
    refine x_iload_n dX10_drop_53 rfl ?_
    refine x_null dX10_drop_54 ?_
    obtain ⟨hi, F⟩ := F
    refine x_aastN dX10_drop_55 (sW37 hW) (by decide) (gW37 hW) hi ?_
    have hW5 : SW (X.1, upd2 X.2 37 a1 (-1)) := hW.ref37 _ _
    refine x_aload_n dX10_drop_56 rfl ?_
    refine x_iload_n dX10_drop_57 rfl ?_
    obtain ⟨P6, hC, F⟩ := F
    refine x_inv dX10_drop_58 mlX10_237 hC (sW0 hW5) (Nat.le_of_ble_eq_true rfl) (gW0 hW5) rfl rfl (by omega) (Nat.zero_le _) (Nat.zero_le _) (Nat.le_of_ble_eq_true rfl) (fun o1 Y9 w8 ht hP => ?_)
    obtain ⟨r7, rfl⟩ : ∃ i, o1 = some (0, i) := ht
    obtain ⟨hW10, F⟩ := F r7 Y9 w8 hP
    exact x_ret (some (0, r7)) rfl ⟨dX10_drop_61, Or.inl rfl⟩ F
  · have F := F.2 hc
    refine x_aload_n dX10_drop_18 rfl ?_
    refine x_getr (r' := 37) flX10_41 dX10_drop_19 (sW0 hW) (gW0 hW) (rW0_4 hW) rfl (Nat.le_of_ble_eq_true rfl) ?_
    refine x_iload_n dX10_drop_22 rfl ?_
    obtain ⟨hi, F⟩ := F
    refine x_aald (r' := (X.2 37 x2)) dX10_drop_23 (sW37 hW) (by decide) (gW37 hW) hi rfl ?_
    refine x_astore_n [(2, 0), (0, a1), (0, x2), (2, (X.2 37 x2))] dX10_drop_24 rfl (Nat.le_of_ble_eq_true rfl) ?_
    refine x_aload_n dX10_drop_25 rfl ?_
    refine x_ifnull 43 dX10_drop_26 rfl (fun hc => ?_) (fun hc => ?_)
    · have F := F.1 hc
      obtain ⟨hz, F⟩ := F
      refine x_iinc [(2, 0), (0, a1), (0, (x2 + 1)), (2, (X.2 37 x2))] dX10_drop_43 rfl rfl (Nat.le_of_ble_eq_true rfl) hz ?_
      refine x_goto 12 dX10_drop_46 rfl ?_
      exact x_less [(2, 0), (0, a1), (0, (x2 + 1)), (3, 0)] ⟨Or.inr rfl, ⟨Or.inr rfl, ⟨Or.inr rfl, ⟨Or.inl rfl, trivial⟩⟩⟩⟩ F
    · have F := F.2 hc
      refine x_aload_n dX10_drop_29 rfl ?_
      obtain ⟨hs11, hr11, F⟩ := F
      refine x_getr (r' := (X.2 (X.2 37 x2) 2)) flX10_153 dX10_drop_30 hs11 hr11 rfl rfl (Nat.le_of_ble_eq_true rfl) ?_
      refine x_iload_n dX10_drop_33 rfl ?_
      obtain ⟨hs12, hr12, F⟩ := F
      obtain ⟨P13, hC, F⟩ := F
      refine x_inv dX10_drop_34 mlX10_234 hC hs12 (Nat.le_of_ble_eq_true rfl) hr12 rfl rfl (by omega) (Nat.zero_le _) (Nat.zero_le _) (Nat.le_of_ble_eq_true rfl) (fun o1 Y16 w15 ht hP => ?_)
      obtain ⟨r14, rfl⟩ : ∃ i, o1 = some (0, i) := ht
      obtain ⟨hX, hP⟩ := hP
      have hX := Eq.symm hX
      subst hX
      have F := F r14 w15 hP
      refine x_if_eq 43 dX10_drop_37 rfl (fun hc => ?_) (fun hc => ?_)
      · have F := F.1 hc
        obtain ⟨hz, F⟩ := F
        refine x_iinc [(2, 0), (0, a1), (0, (x2 + 1)), (2, (X.2 37 x2))] dX10_drop_43 rfl rfl (Nat.le_of_ble_eq_true rfl) hz ?_
        refine x_goto 12 dX10_drop_46 rfl ?_
        exact x_less [(2, 0), (0, a1), (0, (x2 + 1)), (3, 0)] ⟨Or.inr rfl, ⟨Or.inr rfl, ⟨Or.inr rfl, ⟨Or.inl rfl, trivial⟩⟩⟩⟩ F
      · have F := F.2 hc
        refine x_bipush dX10_drop_40 kb_m2 (i32_of rfl) ?_
        exact x_ret (some (0, (-2))) rfl ⟨dX10_drop_42, Or.inl rfl⟩ F

set_option maxRecDepth 100000 in
set_option maxHeartbeats 4000000 in
theorem bX10_freeze_0 {d mc ms : Nat} {X : XX} {v : VV} {Q : QQ} (a1 : Int) (hd : 2 ≤ d) (hW : SW X) (F : i32 a1 → ∃ P1 : Option AV → VV → Prop, Con mX10_tableAt 0 0 0 [(2, 0), (0, a1)] X v (fun o X1 v1 => X1 = X ∧ P1 o v1) ∧ ∀ (r2 : Int) (w3 : VV), P1 (some (2, r2)) w3 → (((r2 = -1) → Q (some (0, 0)) X w3) ∧ ((¬ r2 = -1) → X.1.2 r2 = (7, 0) ∧ (0 ≤ r2 ∧ r2 < X.1.1) ∧ ((((w3 r2 5) = 2) → X.1.2 (X.2 r2 2) = (6, 0) ∧ (0 ≤ (X.2 r2 2) ∧ (X.2 r2 2) < X.1.1) ∧ ∃ P7 : Option AV → VV → Prop, Con mX6_cutTo 0 0 0 [(2, (X.2 r2 2)), (0, 0)] X (upd2 w3 r2 5 3) (fun o X1 v1 => X1 = X ∧ P7 o v1) ∧ ∀ (w9 : VV), P7 none w9 → X.1.2 (X.2 r2 3) = (5, 0) ∧ (0 ≤ (X.2 r2 3) ∧ (X.2 r2 3) < X.1.1) ∧ ∃ P12 : Option AV → VV → Prop, Con mX5_clear 1 0 0 [(2, (X.2 r2 3))] X w9 (fun o X1 v1 => X1 = X ∧ P12 o v1) ∧ ∀ (w14 : VV), P12 none w14 → Q (some (0, 1)) X w14) ∧ ((¬ (w3 r2 5) = 2) → Q (some (0, 0)) X w3))))) : Ex mX10_freeze d 0 [(2, 0), (0, a1), (3, 0)] [] X v mc ms Q := by
  refine x_li32 (i := 1) rfl (fun ha1 => ?_)
  have F := F ha1
  refine x_aload_n dX10_freeze_0 rfl ?_
  refine x_iload_n dX10_freeze_1 rfl ?_
  obtain ⟨P1, hC, F⟩ := F
  refine x_inv dX10_freeze_2 mlX10_143 hC (sW0 hW) (Nat.le_of_ble_eq_true rfl) (gW0 hW) rfl rfl (by omega) (Nat.zero_le _) (Nat.zero_le _) (Nat.le_of_ble_eq_true rfl) (fun o1 Y4 w3 ht hP => ?_)
  obtain ⟨r2, rfl⟩ : ∃ i, o1 = some (2, i) := ht
  obtain ⟨hX, hP⟩ := hP
  have hX := Eq.symm hX
  subst hX
  have F := F r2 w3 hP
  refine x_astore_n [(2, 0), (0, a1), (2, r2)] dX10_freeze_5 rfl (Nat.le_of_ble_eq_true rfl) ?_
  refine x_aload_n dX10_freeze_6 rfl ?_
  refine x_ifnull 18 dX10_freeze_7 rfl (fun hc => ?_) (fun hc => ?_)
  · have F := F.1 hc
    refine x_iconst dX10_freeze_18 rfl (i32_of rfl) ?_
    exact x_ret (some (0, 0)) rfl ⟨dX10_freeze_19, Or.inr ⟨rfl, Or.inl rfl⟩⟩ F
  · have F := F.2 hc
    refine x_aload_n dX10_freeze_10 rfl ?_
    obtain ⟨hs5, hr5, F⟩ := F
    refine x_geti (e := (w3 r2 5)) 0 flX10_147 dX10_freeze_11 hs5 hr5 rfl rfl (Nat.le_of_ble_eq_true rfl) (tagn2 rfl) ?_
    refine x_iconst dX10_freeze_14 rfl (i32_of rfl) ?_
    refine x_icmp_eq 20 dX10_freeze_15 rfl (fun hc => ?_) (fun hc => ?_)
    · have F := F.1 hc
      refine x_aload_n dX10_freeze_20 rfl ?_
      refine x_iconst dX10_freeze_21 rfl (i32_of rfl) ?_
      refine x_puti 0 fwX10_147 dX10_freeze_22 hs5 hr5 (fun h => Bool.noConfusion h) (Nat.le_of_ble_eq_true rfl) rfl (Or.inl ⟨rfl, Or.inl rfl⟩) ?_
      refine x_aload_n dX10_freeze_25 rfl ?_
      refine x_getr (r' := (X.2 r2 2)) flX10_153 dX10_freeze_26 hs5 hr5 rfl rfl (Nat.le_of_ble_eq_true rfl) ?_
      refine x_iconst dX10_freeze_29 rfl (i32_of rfl) ?_
      obtain ⟨hs6, hr6, F⟩ := F
      obtain ⟨P7, hC, F⟩ := F
      refine x_inv dX10_freeze_30 mlX10_82 hC hs6 (Nat.le_of_ble_eq_true rfl) hr6 rfl rfl (by omega) (Nat.zero_le _) (Nat.zero_le _) (Nat.le_of_ble_eq_true rfl) (fun o1 Y10 w9 ht hP => ?_)
      obtain rfl : o1 = none := ht
      obtain ⟨hX, hP⟩ := hP
      have hX := Eq.symm hX
      subst hX
      have F := F w9 hP
      refine x_aload_n dX10_freeze_33 rfl ?_
      refine x_getr (r' := (X.2 r2 3)) flX10_179 dX10_freeze_34 hs5 hr5 rfl rfl (Nat.le_of_ble_eq_true rfl) ?_
      obtain ⟨hs11, hr11, F⟩ := F
      obtain ⟨P12, hC, F⟩ := F
      refine x_inv dX10_freeze_37 mlX10_240 hC hs11 (Nat.le_of_ble_eq_true rfl) hr11 rfl rfl (by omega) (Nat.zero_le _) (Nat.zero_le _) (Nat.le_of_ble_eq_true rfl) (fun o1 Y15 w14 ht hP => ?_)
      obtain rfl : o1 = none := ht
      obtain ⟨hX, hP⟩ := hP
      have hX := Eq.symm hX
      subst hX
      have F := F w14 hP
      refine x_iconst dX10_freeze_40 rfl (i32_of rfl) ?_
      exact x_ret (some (0, 1)) rfl ⟨dX10_freeze_41, Or.inr ⟨rfl, Or.inr rfl⟩⟩ F
    · have F := F.2 hc
      refine x_iconst dX10_freeze_18 rfl (i32_of rfl) ?_
      exact x_ret (some (0, 0)) rfl ⟨dX10_freeze_19, Or.inr ⟨rfl, Or.inl rfl⟩⟩ F

set_option maxRecDepth 100000 in
set_option maxHeartbeats 4000000 in
theorem bX10_today_0 {d mc ms : Nat} {X : XX} {v : VV} {Q : QQ} (a1 : Int) (hd : 0 ≤ d) (hW : SW X) (F : i32 a1 → (((a1 < (v 0 13)) → Q (some (0, 0)) X v) ∧ (((v 0 13) ≤ a1) → (((a1 ≤ 30000) → Q (some (0, 1)) X (upd2 v 0 13 a1)) ∧ ((30000 < a1) → Q (some (0, 0)) X v))))) : Ex mX10_today d 0 [(2, 0), (0, a1)] [] X v mc ms Q := by
  refine x_li32 (i := 1) rfl (fun ha1 => ?_)
  have F := F ha1
  refine x_iload_n dX10_today_0 rfl ?_
  refine x_aload_n dX10_today_1 rfl ?_
  refine x_geti (e := (v 0 13)) 0 flX10_241 dX10_today_2 (sW0 hW) (gW0 hW) rfl rfl (Nat.le_of_ble_eq_true rfl) (tagn2 rfl) ?_
  refine x_icmp_lt 15 dX10_today_5 rfl (fun hc => ?_) (fun hc => ?_)
  · have F := F.1 hc
    refine x_iconst dX10_today_15 rfl (i32_of rfl) ?_
    exact x_ret (some (0, 0)) rfl ⟨dX10_today_16, Or.inr ⟨rfl, Or.inl rfl⟩⟩ F
  · have F := F.2 hc
    refine x_iload_n dX10_today_8 rfl ?_
    refine x_sipush dX10_today_9 ks_30000 (i32_of rfl) ?_
    refine x_icmp_le 17 dX10_today_12 rfl (fun hc => ?_) (fun hc => ?_)
    · have F := F.1 hc
      refine x_aload_n dX10_today_17 rfl ?_
      refine x_iload_n dX10_today_18 rfl ?_
      refine x_puti 0 fwX10_241 dX10_today_19 (sW0 hW) (gW0 hW) (fun h => Bool.noConfusion h) (Nat.le_of_ble_eq_true rfl) rfl (Or.inl ⟨rfl, Or.inl rfl⟩) ?_
      refine x_iconst dX10_today_22 rfl (i32_of rfl) ?_
      exact x_ret (some (0, 1)) rfl ⟨dX10_today_23, Or.inr ⟨rfl, Or.inr rfl⟩⟩ F
    · have F := F.2 hc
      refine x_iconst dX10_today_15 rfl (i32_of rfl) ?_
      exact x_ret (some (0, 0)) rfl ⟨dX10_today_16, Or.inr ⟨rfl, Or.inl rfl⟩⟩ F

set_option maxRecDepth 100000 in
set_option maxHeartbeats 4000000 in
theorem bX10_fed_0 {d mc ms : Nat} {X : XX} {v : VV} {Q : QQ} (a1 : Int) (a2 : Int) (a3 : Int) (hd : 3 ≤ d) (hW : SW X) (F : i32 a1 → i32 a2 → i32 a3 → ∃ P1 : Option AV → VV → Prop, Con mX10_tableAt 0 0 0 [(2, 0), (0, a1)] X v (fun o X1 v1 => X1 = X ∧ P1 o v1) ∧ ∀ (r2 : Int) (w3 : VV), P1 (some (2, r2)) w3 → (((r2 = -1) → Q (some (0, 0)) X w3) ∧ ((¬ r2 = -1) → X.1.2 r2 = (7, 0) ∧ (0 ≤ r2 ∧ r2 < X.1.1) ∧ ((((w3 r2 5) = 0) → (((a2 < 0) → Q (some (0, 0)) X w3) ∧ ((0 ≤ a2) → (((a3 < a2) → Q (some (0, 0)) X w3) ∧ ((a2 ≤ a3) → (((a3 ≤ (w3 0 13)) → ∃ P6 : Option AV → VV → Prop, Con mX10_settleViews 2 0 0 [(2, 0)] X (upd2 (upd2 w3 r2 6 a2) r2 7 a3) (fun o X1 v1 => X1 = X ∧ P6 o v1) ∧ ∀ (w8 : VV), P6 none w8 → Q (some (0, 1)) X w8) ∧ (((w3 0 13) < a3) → Q (some (0, 0)) X w3))))))) ∧ ((¬ (w3 r2 5) = 0) → Q (some (0, 0)) X w3))))) : Ex mX10_fed d 0 [(2, 0), (0, a1), (0, a2), (0, a3), (3, 0)] [] X v mc ms Q := by
  refine x_li32 (i := 1) rfl (fun ha1 => ?_)
  have F := F ha1
  refine x_li32 (i := 2) rfl (fun ha2 => ?_)
  have F := F ha2
  refine x_li32 (i := 3) rfl (fun ha3 => ?_)
  have F := F ha3
  refine x_aload_n dX10_fed_0 rfl ?_
  refine x_iload_n dX10_fed_1 rfl ?_
  obtain ⟨P1, hC, F⟩ := F
  refine x_inv dX10_fed_2 mlX10_143 hC (sW0 hW) (Nat.le_of_ble_eq_true rfl) (gW0 hW) rfl rfl (by omega) (Nat.zero_le _) (Nat.zero_le _) (Nat.le_of_ble_eq_true rfl) (fun o1 Y4 w3 ht hP => ?_)
  obtain ⟨r2, rfl⟩ : ∃ i, o1 = some (2, i) := ht
  obtain ⟨hX, hP⟩ := hP
  have hX := Eq.symm hX
  subst hX
  have F := F r2 w3 hP
  refine x_astore [(2, 0), (0, a1), (0, a2), (0, a3), (2, r2)] dX10_fed_5 rfl (Nat.le_of_ble_eq_true rfl) ?_
  refine x_aload dX10_fed_7 rfl ?_
  refine x_ifnull 20 dX10_fed_9 rfl (fun hc => ?_) (fun hc => ?_)
  · have F := F.1 hc
    refine x_iconst dX10_fed_20 rfl (i32_of rfl) ?_
    exact x_ret (some (0, 0)) rfl ⟨dX10_fed_21, Or.inr ⟨rfl, Or.inl rfl⟩⟩ F
  · have F := F.2 hc
    refine x_aload dX10_fed_12 rfl ?_
    obtain ⟨hs5, hr5, F⟩ := F
    refine x_geti (e := (w3 r2 5)) 0 flX10_147 dX10_fed_14 hs5 hr5 rfl rfl (Nat.le_of_ble_eq_true rfl) (tagn2 rfl) ?_
    refine x_if_eq 22 dX10_fed_17 rfl (fun hc => ?_) (fun hc => ?_)
    · have F := F.1 hc
      refine x_iload_n dX10_fed_22 rfl ?_
      refine x_if_lt 39 dX10_fed_23 rfl (fun hc => ?_) (fun hc => ?_)
      · have F := F.1 hc
        refine x_iconst dX10_fed_39 rfl (i32_of rfl) ?_
        exact x_ret (some (0, 0)) rfl ⟨dX10_fed_40, Or.inr ⟨rfl, Or.inl rfl⟩⟩ F
      · have F := F.2 hc
        refine x_iload_n dX10_fed_26 rfl ?_
        refine x_iload_n dX10_fed_27 rfl ?_
        refine x_icmp_gt 39 dX10_fed_28 rfl (fun hc => ?_) (fun hc => ?_)
        · have F := F.1 hc
          refine x_iconst dX10_fed_39 rfl (i32_of rfl) ?_
          exact x_ret (some (0, 0)) rfl ⟨dX10_fed_40, Or.inr ⟨rfl, Or.inl rfl⟩⟩ F
        · have F := F.2 hc
          refine x_iload_n dX10_fed_31 rfl ?_
          refine x_aload_n dX10_fed_32 rfl ?_
          refine x_geti (e := (w3 0 13)) 0 flX10_241 dX10_fed_33 (sW0 hW) (gW0 hW) rfl rfl (Nat.le_of_ble_eq_true rfl) (tagn2 rfl) ?_
          refine x_icmp_le 41 dX10_fed_36 rfl (fun hc => ?_) (fun hc => ?_)
          · have F := F.1 hc
            refine x_aload dX10_fed_41 rfl ?_
            refine x_iload_n dX10_fed_43 rfl ?_
            refine x_puti 0 fwX10_160 dX10_fed_44 hs5 hr5 (fun h => Bool.noConfusion h) (Nat.le_of_ble_eq_true rfl) rfl (Or.inl ⟨rfl, Or.inl rfl⟩) ?_
            refine x_aload dX10_fed_47 rfl ?_
            refine x_iload_n dX10_fed_49 rfl ?_
            refine x_puti 0 fwX10_163 dX10_fed_50 hs5 hr5 (fun h => Bool.noConfusion h) (Nat.le_of_ble_eq_true rfl) rfl (Or.inl ⟨rfl, Or.inl rfl⟩) ?_
            refine x_aload_n dX10_fed_53 rfl ?_
            obtain ⟨P6, hC, F⟩ := F
            refine x_inv dX10_fed_54 mlX10_244 hC (sW0 hW) (Nat.le_of_ble_eq_true rfl) (gW0 hW) rfl rfl (by omega) (Nat.zero_le _) (Nat.zero_le _) (Nat.le_of_ble_eq_true rfl) (fun o1 Y9 w8 ht hP => ?_)
            obtain rfl : o1 = none := ht
            obtain ⟨hX, hP⟩ := hP
            have hX := Eq.symm hX
            subst hX
            have F := F w8 hP
            refine x_iconst dX10_fed_57 rfl (i32_of rfl) ?_
            exact x_ret (some (0, 1)) rfl ⟨dX10_fed_58, Or.inr ⟨rfl, Or.inr rfl⟩⟩ F
          · have F := F.2 hc
            refine x_iconst dX10_fed_39 rfl (i32_of rfl) ?_
            exact x_ret (some (0, 0)) rfl ⟨dX10_fed_40, Or.inr ⟨rfl, Or.inl rfl⟩⟩ F
    · have F := F.2 hc
      refine x_iconst dX10_fed_20 rfl (i32_of rfl) ?_
      exact x_ret (some (0, 0)) rfl ⟨dX10_fed_21, Or.inr ⟨rfl, Or.inl rfl⟩⟩ F

set_option maxRecDepth 100000 in
set_option maxHeartbeats 4000000 in
theorem bX10_run_0 {d mc ms : Nat} {X : XX} {v : VV} {Q : QQ} (a1 : Int) (hd : 3 ≤ d) (hW : SW X) (F : i32 a1 → ∃ P1 : Option AV → VV → Prop, Con mX10_tableAt 0 0 0 [(2, 0), (0, a1)] X v (fun o X1 v1 => X1 = X ∧ P1 o v1) ∧ ∀ (r2 : Int) (w3 : VV), P1 (some (2, r2)) w3 → (((r2 = -1) → Q (some (0, 0)) X w3) ∧ ((¬ r2 = -1) → X.1.2 r2 = (7, 0) ∧ (0 ≤ r2 ∧ r2 < X.1.1) ∧ (((¬ (w3 r2 5) = 2) → Q (some (0, 0)) X w3) ∧ (((w3 r2 5) = 2) → ∃ P6 : Option AV → VV → Prop, Con mX10_takeAgeFromBehind 1 0 0 [(2, 0), (2, r2)] X w3 (fun o X1 v1 => X1 = X ∧ P6 o v1) ∧ ∀ (r7 : Int) (w8 : VV), P6 (some (0, r7)) w8 → (((¬ r7 = 0) → ∃ P10 : Option AV → VV → Prop, Con mX10_settleViews 2 0 0 [(2, 0)] X w8 (fun o X1 v1 => X1 = X ∧ P10 o v1) ∧ ∀ (w12 : VV), P10 none w12 → Q (some (0, 1)) X w12) ∧ ((r7 = 0) → Q (some (0, 0)) X w8))))))) : Ex mX10_run d 0 [(2, 0), (0, a1), (3, 0)] [] X v mc ms Q := by
  refine x_li32 (i := 1) rfl (fun ha1 => ?_)
  have F := F ha1
  refine x_aload_n dX10_run_0 rfl ?_
  refine x_iload_n dX10_run_1 rfl ?_
  obtain ⟨P1, hC, F⟩ := F
  refine x_inv dX10_run_2 mlX10_143 hC (sW0 hW) (Nat.le_of_ble_eq_true rfl) (gW0 hW) rfl rfl (by omega) (Nat.zero_le _) (Nat.zero_le _) (Nat.le_of_ble_eq_true rfl) (fun o1 Y4 w3 ht hP => ?_)
  obtain ⟨r2, rfl⟩ : ∃ i, o1 = some (2, i) := ht
  obtain ⟨hX, hP⟩ := hP
  have hX := Eq.symm hX
  subst hX
  have F := F r2 w3 hP
  refine x_astore_n [(2, 0), (0, a1), (2, r2)] dX10_run_5 rfl (Nat.le_of_ble_eq_true rfl) ?_
  refine x_aload_n dX10_run_6 rfl ?_
  refine x_ifnull 26 dX10_run_7 rfl (fun hc => ?_) (fun hc => ?_)
  · have F := F.1 hc
    refine x_iconst dX10_run_26 rfl (i32_of rfl) ?_
    exact x_ret (some (0, 0)) rfl ⟨dX10_run_27, Or.inr ⟨rfl, Or.inl rfl⟩⟩ F
  · have F := F.2 hc
    refine x_aload_n dX10_run_10 rfl ?_
    obtain ⟨hs5, hr5, F⟩ := F
    refine x_geti (e := (w3 r2 5)) 0 flX10_147 dX10_run_11 hs5 hr5 rfl rfl (Nat.le_of_ble_eq_true rfl) (tagn2 rfl) ?_
    refine x_iconst dX10_run_14 rfl (i32_of rfl) ?_
    refine x_icmp_ne 26 dX10_run_15 rfl (fun hc => ?_) (fun hc => ?_)
    · have F := F.1 hc
      refine x_iconst dX10_run_26 rfl (i32_of rfl) ?_
      exact x_ret (some (0, 0)) rfl ⟨dX10_run_27, Or.inr ⟨rfl, Or.inl rfl⟩⟩ F
    · have F := F.2 hc
      refine x_aload_n dX10_run_18 rfl ?_
      refine x_aload_n dX10_run_19 rfl ?_
      obtain ⟨P6, hC, F⟩ := F
      refine x_inv dX10_run_20 mlX10_247 hC (sW0 hW) (Nat.le_of_ble_eq_true rfl) (gW0 hW) rfl rfl (by omega) (Nat.zero_le _) (Nat.zero_le _) (Nat.le_of_ble_eq_true rfl) (fun o1 Y9 w8 ht hP => ?_)
      obtain ⟨r7, rfl⟩ : ∃ i, o1 = some (0, i) := ht
      obtain ⟨hX, hP⟩ := hP
      have hX := Eq.symm hX
      subst hX
      have F := F r7 w8 hP
      refine x_if_ne 28 dX10_run_23 rfl (fun hc => ?_) (fun hc => ?_)
      · have F := F.1 hc
        refine x_aload_n dX10_run_28 rfl ?_
        obtain ⟨P10, hC, F⟩ := F
        refine x_inv dX10_run_29 mlX10_244 hC (sW0 hW) (Nat.le_of_ble_eq_true rfl) (gW0 hW) rfl rfl (by omega) (Nat.zero_le _) (Nat.zero_le _) (Nat.le_of_ble_eq_true rfl) (fun o1 Y13 w12 ht hP => ?_)
        obtain rfl : o1 = none := ht
        obtain ⟨hX, hP⟩ := hP
        have hX := Eq.symm hX
        subst hX
        have F := F w12 hP
        refine x_iconst dX10_run_32 rfl (i32_of rfl) ?_
        exact x_ret (some (0, 1)) rfl ⟨dX10_run_33, Or.inr ⟨rfl, Or.inr rfl⟩⟩ F
      · have F := F.2 hc
        refine x_iconst dX10_run_26 rfl (i32_of rfl) ?_
        exact x_ret (some (0, 0)) rfl ⟨dX10_run_27, Or.inr ⟨rfl, Or.inl rfl⟩⟩ F

set_option maxRecDepth 100000 in
set_option maxHeartbeats 4000000 in
theorem bX10_promise_0 {d mc ms : Nat} {X : XX} {v : VV} {Q : QQ} (a1 : Int) (a2 : Int) (hd : 1 ≤ d) (hW : SW X) (F : i32 a1 → i32 a2 → ∃ P1 : Option AV → VV → Prop, Con mX10_tableAt 0 0 0 [(2, 0), (0, a1)] X v (fun o X1 v1 => X1 = X ∧ P1 o v1) ∧ ∀ (r2 : Int) (w3 : VV), P1 (some (2, r2)) w3 → (((r2 = -1) → Q (some (0, 0)) X w3) ∧ ((¬ r2 = -1) → (((a2 < (-1)) → Q (some (0, 0)) X w3) ∧ (((-1) ≤ a2) → (((a2 ≤ 1000) → X.1.2 r2 = (7, 0) ∧ (0 ≤ r2 ∧ r2 < X.1.1) ∧ Q (some (0, 1)) X (upd2 w3 r2 9 a2)) ∧ ((1000 < a2) → Q (some (0, 0)) X w3))))))) : Ex mX10_promise d 0 [(2, 0), (0, a1), (0, a2), (3, 0)] [] X v mc ms Q := by
  refine x_li32 (i := 1) rfl (fun ha1 => ?_)
  have F := F ha1
  refine x_li32 (i := 2) rfl (fun ha2 => ?_)
  have F := F ha2
  refine x_aload_n dX10_promise_0 rfl ?_
  refine x_iload_n dX10_promise_1 rfl ?_
  obtain ⟨P1, hC, F⟩ := F
  refine x_inv dX10_promise_2 mlX10_143 hC (sW0 hW) (Nat.le_of_ble_eq_true rfl) (gW0 hW) rfl rfl (by omega) (Nat.zero_le _) (Nat.zero_le _) (Nat.le_of_ble_eq_true rfl) (fun o1 Y4 w3 ht hP => ?_)
  obtain ⟨r2, rfl⟩ : ∃ i, o1 = some (2, i) := ht
  obtain ⟨hX, hP⟩ := hP
  have hX := Eq.symm hX
  subst hX
  have F := F r2 w3 hP
  refine x_astore_n [(2, 0), (0, a1), (0, a2), (2, r2)] dX10_promise_5 rfl (Nat.le_of_ble_eq_true rfl) ?_
  refine x_aload_n dX10_promise_6 rfl ?_
  refine x_ifnull 22 dX10_promise_7 rfl (fun hc => ?_) (fun hc => ?_)
  · have F := F.1 hc
    refine x_iconst dX10_promise_22 rfl (i32_of rfl) ?_
    exact x_ret (some (0, 0)) rfl ⟨dX10_promise_23, Or.inr ⟨rfl, Or.inl rfl⟩⟩ F
  · have F := F.2 hc
    refine x_iload_n dX10_promise_10 rfl ?_
    refine x_iconst dX10_promise_11 rfl (i32_of rfl) ?_
    refine x_icmp_lt 22 dX10_promise_12 rfl (fun hc => ?_) (fun hc => ?_)
    · have F := F.1 hc
      refine x_iconst dX10_promise_22 rfl (i32_of rfl) ?_
      exact x_ret (some (0, 0)) rfl ⟨dX10_promise_23, Or.inr ⟨rfl, Or.inl rfl⟩⟩ F
    · have F := F.2 hc
      refine x_iload_n dX10_promise_15 rfl ?_
      refine x_sipush dX10_promise_16 ks_1000 (i32_of rfl) ?_
      refine x_icmp_le 24 dX10_promise_19 rfl (fun hc => ?_) (fun hc => ?_)
      · have F := F.1 hc
        refine x_aload_n dX10_promise_24 rfl ?_
        refine x_iload_n dX10_promise_25 rfl ?_
        obtain ⟨hs5, hr5, F⟩ := F
        refine x_puti 0 fwX10_169 dX10_promise_26 hs5 hr5 (fun h => Bool.noConfusion h) (Nat.le_of_ble_eq_true rfl) rfl (Or.inl ⟨rfl, Or.inl rfl⟩) ?_
        refine x_iconst dX10_promise_29 rfl (i32_of rfl) ?_
        exact x_ret (some (0, 1)) rfl ⟨dX10_promise_30, Or.inr ⟨rfl, Or.inr rfl⟩⟩ F
      · have F := F.2 hc
        refine x_iconst dX10_promise_22 rfl (i32_of rfl) ?_
        exact x_ret (some (0, 0)) rfl ⟨dX10_promise_23, Or.inr ⟨rfl, Or.inl rfl⟩⟩ F

set_option maxRecDepth 100000 in
set_option maxHeartbeats 4000000 in
theorem bX10_broken_0 {d mc ms : Nat} {X : XX} {v : VV} {Q : QQ} (hd : 2 ≤ d) (hW : SW X) (F : ∃ P1 : Option AV → VV → Prop, Con mX6_cutTo 0 0 0 [(2, 43), (0, 0)] X v (fun o X1 v1 => X1 = X ∧ P1 o v1) ∧ ∀ (w3 : VV), P1 none w3 → Ex mX10_broken d 10 [(2, 0), (0, 0)] [] X w3 mc ms Q) : Ex mX10_broken d 0 [(2, 0), (3, 0)] [] X v mc ms Q := by
  refine x_aload_n dX10_broken_0 rfl ?_
  refine x_getr (r' := 43) flX10_65 dX10_broken_1 (sW0 hW) (gW0 hW) (rW0_9 hW) rfl (Nat.le_of_ble_eq_true rfl) ?_
  refine x_iconst dX10_broken_4 rfl (i32_of rfl) ?_
  obtain ⟨P1, hC, F⟩ := F
  refine x_inv dX10_broken_5 mlX10_82 hC (sW43 hW) (Nat.le_of_ble_eq_true rfl) (gW43 hW) rfl rfl (by omega) (Nat.zero_le _) (Nat.zero_le _) (Nat.le_of_ble_eq_true rfl) (fun o1 Y4 w3 ht hP => ?_)
  obtain rfl : o1 = none := ht
  obtain ⟨hX, hP⟩ := hP
  have hX := Eq.symm hX
  subst hX
  have F := F w3 hP
  refine x_iconst dX10_broken_8 rfl (i32_of rfl) ?_
  refine x_istore_n [(2, 0), (0, 0)] dX10_broken_9 rfl (Nat.le_of_ble_eq_true rfl) ?_
  exact F

set_option maxRecDepth 100000 in
set_option maxHeartbeats 4000000 in
theorem bX10_broken_10 {d mc ms : Nat} {X : XX} {v : VV} {Q : QQ} (x1 : Int) (hd : 2 ≤ d) (hW : SW X) (F : i32 x1 → (((16 ≤ x1) → ∃ P5 : Option AV → VV → Prop, Con mX6_size 0 0 0 [(2, 43)] X v (fun o X1 v1 => X1 = X ∧ P5 o v1) ∧ ∀ (r6 : Int) (w7 : VV), P5 (some (0, r6)) w7 → Q (some (0, r6)) X w7) ∧ ((x1 < 16) → (0 ≤ x1 ∧ x1 < 16) ∧ ∃ P9 : Option AV → VV → Prop, Con mX10_isBroken 1 0 0 [(2, 0), (2, (X.2 37 x1))] X v (fun o X1 v1 => X1 = X ∧ P9 o v1) ∧ ∀ (r10 : Int) (w11 : VV), P9 (some (0, r10)) w11 → (((r10 = 0) → i32 (x1 + 1) ∧ Ex mX10_broken d 10 [(2, 0), (0, (x1 + 1))] [] X w11 mc ms Q) ∧ ((¬ r10 = 0) → ∃ P13 : Option AV → VV → Prop, Con mX6_add 0 0 0 [(2, 43), (0, x1)] X w11 (fun o X1 v1 => X1 = X ∧ P13 o v1) ∧ ∀ (w15 : VV), P13 none w15 → i32 (x1 + 1) ∧ Ex mX10_broken d 10 [(2, 0), (0, (x1 + 1))] [] X w15 mc ms Q))))) : Ex mX10_broken d 10 [(2, 0), (0, x1)] [] X v mc ms Q := by
  refine x_li32 (i := 1) rfl (fun hx1 => ?_)
  have F := F hx1
  refine x_iload_n dX10_broken_10 rfl ?_
  refine x_bipush dX10_broken_11 kb_16 (i32_of rfl) ?_
  refine x_icmp_ge 43 dX10_broken_13 rfl (fun hc => ?_) (fun hc => ?_)
  · have F := F.1 hc
    refine x_aload_n dX10_broken_43 rfl ?_
    refine x_getr (r' := 43) flX10_65 dX10_broken_44 (sW0 hW) (gW0 hW) (rW0_9 hW) rfl (Nat.le_of_ble_eq_true rfl) ?_
    obtain ⟨P5, hC, F⟩ := F
    refine x_inv dX10_broken_47 mlX10_75 hC (sW43 hW) (Nat.le_of_ble_eq_true rfl) (gW43 hW) rfl rfl (by omega) (Nat.zero_le _) (Nat.zero_le _) (Nat.le_of_ble_eq_true rfl) (fun o1 Y8 w7 ht hP => ?_)
    obtain ⟨r6, rfl⟩ : ∃ i, o1 = some (0, i) := ht
    obtain ⟨hX, hP⟩ := hP
    have hX := Eq.symm hX
    subst hX
    have F := F r6 w7 hP
    exact x_ret (some (0, r6)) rfl ⟨dX10_broken_50, Or.inl rfl⟩ F
  · have F := F.2 hc
    refine x_aload_n dX10_broken_16 rfl ?_
    refine x_aload_n dX10_broken_17 rfl ?_
    refine x_getr (r' := 37) flX10_41 dX10_broken_18 (sW0 hW) (gW0 hW) (rW0_4 hW) rfl (Nat.le_of_ble_eq_true rfl) ?_
    refine x_iload_n dX10_broken_21 rfl ?_
    obtain ⟨hi, F⟩ := F
    refine x_aald (r' := (X.2 37 x1)) dX10_broken_22 (sW37 hW) (by decide) (gW37 hW) hi rfl ?_
    obtain ⟨P9, hC, F⟩ := F
    refine x_inv dX10_broken_23 mlX10_251 hC (sW0 hW) (Nat.le_of_ble_eq_true rfl) (gW0 hW) rfl rfl (by omega) (Nat.zero_le _) (Nat.zero_le _) (Nat.le_of_ble_eq_true rfl) (fun o1 Y12 w11 ht hP => ?_)
    obtain ⟨r10, rfl⟩ : ∃ i, o1 = some (0, i) := ht
    obtain ⟨hX, hP⟩ := hP
    have hX := Eq.symm hX
    subst hX
    have F := F r10 w11 hP
    refine x_if_eq 37 dX10_broken_26 rfl (fun hc => ?_) (fun hc => ?_)
    · have F := F.1 hc
      obtain ⟨hz, F⟩ := F
      refine x_iinc [(2, 0), (0, (x1 + 1))] dX10_broken_37 rfl rfl (Nat.le_of_ble_eq_true rfl) hz ?_
      refine x_goto 10 dX10_broken_40 rfl ?_
      exact F
    · have F := F.2 hc
      refine x_aload_n dX10_broken_29 rfl ?_
      refine x_getr (r' := 43) flX10_65 dX10_broken_30 (sW0 hW) (gW0 hW) (rW0_9 hW) rfl (Nat.le_of_ble_eq_true rfl) ?_
      refine x_iload_n dX10_broken_33 rfl ?_
      obtain ⟨P13, hC, F⟩ := F
      refine x_inv dX10_broken_34 mlX10_212 hC (sW43 hW) (Nat.le_of_ble_eq_true rfl) (gW43 hW) rfl rfl (by omega) (Nat.zero_le _) (Nat.zero_le _) (Nat.le_of_ble_eq_true rfl) (fun o1 Y16 w15 ht hP => ?_)
      obtain rfl : o1 = none := ht
      obtain ⟨hX, hP⟩ := hP
      have hX := Eq.symm hX
      subst hX
      have F := F w15 hP
      obtain ⟨hz, F⟩ := F
      refine x_iinc [(2, 0), (0, (x1 + 1))] dX10_broken_37 rfl rfl (Nat.le_of_ble_eq_true rfl) hz ?_
      refine x_goto 10 dX10_broken_40 rfl ?_
      exact F

set_option maxRecDepth 100000 in
set_option maxHeartbeats 4000000 in
theorem bX10_late_0 {d mc ms : Nat} {X : XX} {v : VV} {Q : QQ} (a1 : Int) (hd : 2 ≤ d) (hW : SW X) (F : i32 a1 → ∃ P1 : Option AV → VV → Prop, Con mX10_tableAt 0 0 0 [(2, 0), (0, a1)] X v (fun o X1 v1 => X1 = X ∧ P1 o v1) ∧ ∀ (r2 : Int) (w3 : VV), P1 (some (2, r2)) w3 → (((r2 = -1) → Q (some (0, (-1))) X w3) ∧ ((¬ r2 = -1) → ∃ P5 : Option AV → VV → Prop, Con mX10_isBroken 1 0 0 [(2, 0), (2, r2)] X w3 (fun o X1 v1 => X1 = X ∧ P5 o v1) ∧ ∀ (r6 : Int) (w7 : VV), P5 (some (0, r6)) w7 → (((¬ r6 = 0) → X.1.2 r2 = (7, 0) ∧ (0 ≤ r2 ∧ r2 < X.1.1) ∧ (i32 (w7 r2 9) → i32 (w7 0 13) → i32 ((w7 0 13) - (w7 r2 9))) ∧ Ex mX10_late d 39 [(2, 0), (0, a1), (2, r2), (0, ((w7 0 13) - (w7 r2 9))), (0, a1), (0, a1), (0, 0)] [] X w7 mc ms Q) ∧ ((r6 = 0) → Q (some (0, (-1))) X w7))))) : Ex mX10_late d 0 [(2, 0), (0, a1), (3, 0), (3, 0), (3, 0), (3, 0), (3, 0)] [] X v mc ms Q := by
  refine x_li32 (i := 1) rfl (fun ha1 => ?_)
  have F := F ha1
  refine x_aload_n dX10_late_0 rfl ?_
  refine x_iload_n dX10_late_1 rfl ?_
  obtain ⟨P1, hC, F⟩ := F
  refine x_inv dX10_late_2 mlX10_143 hC (sW0 hW) (Nat.le_of_ble_eq_true rfl) (gW0 hW) rfl rfl (by omega) (Nat.zero_le _) (Nat.zero_le _) (Nat.le_of_ble_eq_true rfl) (fun o1 Y4 w3 ht hP => ?_)
  obtain ⟨r2, rfl⟩ : ∃ i, o1 = some (2, i) := ht
  obtain ⟨hX, hP⟩ := hP
  have hX := Eq.symm hX
  subst hX
  have F := F r2 w3 hP
  refine x_astore_n [(2, 0), (0, a1), (2, r2), (3, 0), (3, 0), (3, 0), (3, 0)] dX10_late_5 rfl (Nat.le_of_ble_eq_true rfl) ?_
  refine x_aload_n dX10_late_6 rfl ?_
  refine x_ifnull 18 dX10_late_7 rfl (fun hc => ?_) (fun hc => ?_)
  · have F := F.1 hc
    refine x_iconst dX10_late_18 rfl (i32_of rfl) ?_
    exact x_ret (some (0, (-1))) rfl ⟨dX10_late_19, Or.inl rfl⟩ F
  · have F := F.2 hc
    refine x_aload_n dX10_late_10 rfl ?_
    refine x_aload_n dX10_late_11 rfl ?_
    obtain ⟨P5, hC, F⟩ := F
    refine x_inv dX10_late_12 mlX10_251 hC (sW0 hW) (Nat.le_of_ble_eq_true rfl) (gW0 hW) rfl rfl (by omega) (Nat.zero_le _) (Nat.zero_le _) (Nat.le_of_ble_eq_true rfl) (fun o1 Y8 w7 ht hP => ?_)
    obtain ⟨r6, rfl⟩ : ∃ i, o1 = some (0, i) := ht
    obtain ⟨hX, hP⟩ := hP
    have hX := Eq.symm hX
    subst hX
    have F := F r6 w7 hP
    refine x_if_ne 20 dX10_late_15 rfl (fun hc => ?_) (fun hc => ?_)
    · have F := F.1 hc
      refine x_aload_n dX10_late_20 rfl ?_
      refine x_geti (e := (w7 0 13)) 0 flX10_241 dX10_late_21 (sW0 hW) (gW0 hW) rfl rfl (Nat.le_of_ble_eq_true rfl) (tagn2 rfl) ?_
      refine x_aload_n dX10_late_24 rfl ?_
      obtain ⟨hs9, hr9, F⟩ := F
      refine x_geti (e := (w7 r2 9)) 0 flX10_169 dX10_late_25 hs9 hr9 rfl rfl (Nat.le_of_ble_eq_true rfl) (tagn2 rfl) ?_
      refine x_si32 (i := 0) rfl (fun hk0 => ?_)
      refine x_si32 (i := 1) rfl (fun hk1 => ?_)
      obtain ⟨hz, F⟩ := F
      have hz := hz hk0 hk1
      refine x_isub dX10_late_28 hz ?_
      refine x_istore_n [(2, 0), (0, a1), (2, r2), (0, ((w7 0 13) - (w7 r2 9))), (3, 0), (3, 0), (3, 0)] dX10_late_29 rfl (Nat.le_of_ble_eq_true rfl) ?_
      refine x_iload_n dX10_late_30 rfl ?_
      refine x_istore [(2, 0), (0, a1), (2, r2), (0, ((w7 0 13) - (w7 r2 9))), (0, a1), (3, 0), (3, 0)] dX10_late_31 rfl (Nat.le_of_ble_eq_true rfl) ?_
      refine x_iload_n dX10_late_33 rfl ?_
      refine x_istore [(2, 0), (0, a1), (2, r2), (0, ((w7 0 13) - (w7 r2 9))), (0, a1), (0, a1), (3, 0)] dX10_late_34 rfl (Nat.le_of_ble_eq_true rfl) ?_
      refine x_iconst dX10_late_36 rfl (i32_of rfl) ?_
      refine x_istore [(2, 0), (0, a1), (2, r2), (0, ((w7 0 13) - (w7 r2 9))), (0, a1), (0, a1), (0, 0)] dX10_late_37 rfl (Nat.le_of_ble_eq_true rfl) ?_
      exact F
    · have F := F.2 hc
      refine x_iconst dX10_late_18 rfl (i32_of rfl) ?_
      exact x_ret (some (0, (-1))) rfl ⟨dX10_late_19, Or.inl rfl⟩ F

set_option maxRecDepth 100000 in
set_option maxHeartbeats 4000000 in
theorem bX10_late_39 {d mc ms : Nat} {X : XX} {v : VV} {Q : QQ} (a1 : Int) (x2 : Int) (x3 : Int) (x4 : Int) (x5 : Int) (x6 : Int) (hd : 2 ≤ d) (hW : SW X) (F : i32 a1 → i32 x3 → i32 x4 → i32 x5 → i32 x6 → (((16 ≤ x6) → Q (some (0, x4)) X v) ∧ ((x6 < 16) → (((x5 = (-1)) → Q (some (0, x4)) X v) ∧ ((¬ x5 = (-1)) → ∃ P10 : Option AV → VV → Prop, Con mX10_firstLateBehind 1 0 0 [(2, 0), (0, x5), (0, x3)] X v (fun o X1 v1 => X1 = X ∧ P10 o v1) ∧ ∀ (r11 : Int) (w12 : VV), P10 (some (0, r11)) w12 → i32 (x6 + 1) ∧ Ex mX10_late d 39 [(2, 0), (0, a1), (2, x2), (0, x3), (0, x5), (0, r11), (0, (x6 + 1))] [] X w12 mc ms Q))))) : Ex mX10_late d 39 [(2, 0), (0, a1), (2, x2), (0, x3), (0, x4), (0, x5), (0, x6)] [] X v mc ms Q := by
  refine x_li32 (i := 1) rfl (fun ha1 => ?_)
  have F := F ha1
  refine x_li32 (i := 3) rfl (fun hx3 => ?_)
  have F := F hx3
  refine x_li32 (i := 4) rfl (fun hx4 => ?_)
  have F := F hx4
  refine x_li32 (i := 5) rfl (fun hx5 => ?_)
  have F := F hx5
  refine x_li32 (i := 6) rfl (fun hx6 => ?_)
  have F := F hx6
  refine x_iload dX10_late_39 rfl ?_
  refine x_bipush dX10_late_41 kb_16 (i32_of rfl) ?_
  refine x_icmp_ge 71 dX10_late_43 rfl (fun hc => ?_) (fun hc => ?_)
  · have F := F.1 hc
    refine x_iload dX10_late_71 rfl ?_
    exact x_ret (some (0, x4)) rfl ⟨dX10_late_73, Or.inl rfl⟩ F
  · have F := F.2 hc
    refine x_iload dX10_late_46 rfl ?_
    refine x_iconst dX10_late_48 rfl (i32_of rfl) ?_
    refine x_icmp_eq 71 dX10_late_49 rfl (fun hc => ?_) (fun hc => ?_)
    · have F := F.1 hc
      refine x_iload dX10_late_71 rfl ?_
      exact x_ret (some (0, x4)) rfl ⟨dX10_late_73, Or.inl rfl⟩ F
    · have F := F.2 hc
      refine x_iload dX10_late_52 rfl ?_
      refine x_istore [(2, 0), (0, a1), (2, x2), (0, x3), (0, x5), (0, x5), (0, x6)] dX10_late_54 rfl (Nat.le_of_ble_eq_true rfl) ?_
      refine x_aload_n dX10_late_56 rfl ?_
      refine x_iload dX10_late_57 rfl ?_
      refine x_iload_n dX10_late_59 rfl ?_
      obtain ⟨P10, hC, F⟩ := F
      refine x_inv dX10_late_60 mlX10_254 hC (sW0 hW) (Nat.le_of_ble_eq_true rfl) (gW0 hW) rfl rfl (by omega) (Nat.zero_le _) (Nat.zero_le _) (Nat.le_of_ble_eq_true rfl) (fun o1 Y13 w12 ht hP => ?_)
      obtain ⟨r11, rfl⟩ : ∃ i, o1 = some (0, i) := ht
      obtain ⟨hX, hP⟩ := hP
      have hX := Eq.symm hX
      subst hX
      have F := F r11 w12 hP
      refine x_istore [(2, 0), (0, a1), (2, x2), (0, x3), (0, x5), (0, r11), (0, x6)] dX10_late_63 rfl (Nat.le_of_ble_eq_true rfl) ?_
      obtain ⟨hz, F⟩ := F
      refine x_iinc [(2, 0), (0, a1), (2, x2), (0, x3), (0, x5), (0, r11), (0, (x6 + 1))] dX10_late_65 rfl rfl (Nat.le_of_ble_eq_true rfl) hz ?_
      refine x_goto 39 dX10_late_68 rfl ?_
      exact F

set_option maxRecDepth 100000 in
set_option maxHeartbeats 4000000 in
theorem bX10_own_0 {d mc ms : Nat} {X : XX} {v : VV} {Q : QQ} (a1 : Int) (a2 : Int) (hd : 1 ≤ d) (hW : SW X) (F : i32 a1 → i32 a2 → ∃ P1 : Option AV → VV → Prop, Con mX10_tableAt 0 0 0 [(2, 0), (0, a1)] X v (fun o X1 v1 => X1 = X ∧ P1 o v1) ∧ ∀ (r2 : Int) (w3 : VV), P1 (some (2, r2)) w3 → (((r2 = -1) → Q (some (0, 0)) X w3) ∧ ((¬ r2 = -1) → (((a2 < (-1)) → Q (some (0, 0)) X w3) ∧ (((-1) ≤ a2) → (((a2 ≤ 9) → X.1.2 r2 = (7, 0) ∧ (0 ≤ r2 ∧ r2 < X.1.1) ∧ Q (some (0, 1)) X (upd2 w3 r2 8 a2)) ∧ ((9 < a2) → Q (some (0, 0)) X w3))))))) : Ex mX10_own d 0 [(2, 0), (0, a1), (0, a2), (3, 0)] [] X v mc ms Q := by
  refine x_li32 (i := 1) rfl (fun ha1 => ?_)
  have F := F ha1
  refine x_li32 (i := 2) rfl (fun ha2 => ?_)
  have F := F ha2
  refine x_aload_n dX10_own_0 rfl ?_
  refine x_iload_n dX10_own_1 rfl ?_
  obtain ⟨P1, hC, F⟩ := F
  refine x_inv dX10_own_2 mlX10_143 hC (sW0 hW) (Nat.le_of_ble_eq_true rfl) (gW0 hW) rfl rfl (by omega) (Nat.zero_le _) (Nat.zero_le _) (Nat.le_of_ble_eq_true rfl) (fun o1 Y4 w3 ht hP => ?_)
  obtain ⟨r2, rfl⟩ : ∃ i, o1 = some (2, i) := ht
  obtain ⟨hX, hP⟩ := hP
  have hX := Eq.symm hX
  subst hX
  have F := F r2 w3 hP
  refine x_astore_n [(2, 0), (0, a1), (0, a2), (2, r2)] dX10_own_5 rfl (Nat.le_of_ble_eq_true rfl) ?_
  refine x_aload_n dX10_own_6 rfl ?_
  refine x_ifnull 21 dX10_own_7 rfl (fun hc => ?_) (fun hc => ?_)
  · have F := F.1 hc
    refine x_iconst dX10_own_21 rfl (i32_of rfl) ?_
    exact x_ret (some (0, 0)) rfl ⟨dX10_own_22, Or.inr ⟨rfl, Or.inl rfl⟩⟩ F
  · have F := F.2 hc
    refine x_iload_n dX10_own_10 rfl ?_
    refine x_iconst dX10_own_11 rfl (i32_of rfl) ?_
    refine x_icmp_lt 21 dX10_own_12 rfl (fun hc => ?_) (fun hc => ?_)
    · have F := F.1 hc
      refine x_iconst dX10_own_21 rfl (i32_of rfl) ?_
      exact x_ret (some (0, 0)) rfl ⟨dX10_own_22, Or.inr ⟨rfl, Or.inl rfl⟩⟩ F
    · have F := F.2 hc
      refine x_iload_n dX10_own_15 rfl ?_
      refine x_bipush dX10_own_16 kb_9 (i32_of rfl) ?_
      refine x_icmp_le 23 dX10_own_18 rfl (fun hc => ?_) (fun hc => ?_)
      · have F := F.1 hc
        refine x_aload_n dX10_own_23 rfl ?_
        refine x_iload_n dX10_own_24 rfl ?_
        obtain ⟨hs5, hr5, F⟩ := F
        refine x_puti 0 fwX10_257 dX10_own_25 hs5 hr5 (fun h => Bool.noConfusion h) (Nat.le_of_ble_eq_true rfl) rfl (Or.inl ⟨rfl, Or.inl rfl⟩) ?_
        refine x_iconst dX10_own_28 rfl (i32_of rfl) ?_
        exact x_ret (some (0, 1)) rfl ⟨dX10_own_29, Or.inr ⟨rfl, Or.inr rfl⟩⟩ F
      · have F := F.2 hc
        refine x_iconst dX10_own_21 rfl (i32_of rfl) ?_
        exact x_ret (some (0, 0)) rfl ⟨dX10_own_22, Or.inr ⟨rfl, Or.inl rfl⟩⟩ F

set_option maxRecDepth 100000 in
set_option maxHeartbeats 4000000 in
theorem bX10_ask_0 {d mc ms : Nat} {X : XX} {v : VV} {Q : QQ} (a1 : Int) (a2 : Int) (a3 : Int) (hd : 2 ≤ d) (hW : SW X) (F : i32 a1 → i32 a2 → i32 a3 → ∃ P1 : Option AV → VV → Prop, Con mX10_tableAt 0 0 0 [(2, 0), (0, a2)] X v (fun o X1 v1 => X1 = X ∧ P1 o v1) ∧ ∀ (r2 : Int) (w3 : VV), P1 (some (2, r2)) w3 → (((r2 = -1) → Q (some (0, (-1))) X w3) ∧ ((¬ r2 = -1) → (((a1 < 0) → Q (some (0, (-1))) X w3) ∧ ((0 ≤ a1) → (((9 < a1) → Q (some (0, (-1))) X w3) ∧ ((a1 ≤ 9) → ((((w3 0 12) < 40) → (((a3 ≤ 0) → Q (some (0, (-1))) X w3) ∧ ((0 < a3) → X.1.2 r2 = (7, 0) ∧ (0 ≤ r2 ∧ r2 < X.1.1) ∧ ∃ P6 : Option AV → VV → Prop, Con mX7_columnCount 0 0 0 [(2, r2)] X w3 (fun o X1 v1 => X1 = X ∧ P6 o v1) ∧ ∀ (r7 : Int) (w8 : VV), P6 (some (0, r7)) w8 → ∀ z10 : Int, Int32.ofInt 1 <<< (Int32.ofInt r7 &&& 31) = Int32.ofInt z10 → i32 z10 → (((a3 < z10) → (1 ≤ mc ∧ 3 ≤ ms) ∧ ∃ c17 s18 : Nat, c17 ≤ (mc - 1) ∧ s18 ≤ (ms - 3) ∧ ∃ P13 : QQ, Con mX0_init 1 c17 s18 [(2, (X.1.1 : Int)), (0, a2), (0, a3), (0, ((nV X w8) 0 13))] (nX X 0 0) (nV X w8) P13 ∧ ∀ (Y16 : XX) (w15 : VV), P13 none Y16 w15 → SW Y16 ∧ (0 ≤ (w8 0 12) ∧ (w8 0 12) < 40) ∧ Y16.1.2 (X.1.1 : Int) = (0, 0) ∧ (0 ≤ (X.1.1 : Int) ∧ (X.1.1 : Int) < Y16.1.1) ∧ (i32 (w15 0 12) → i32 ((w15 0 12) + 1)) ∧ (i32 ((w15 0 12) + 1) → i32 (((w15 0 12) + 1) - 1)) ∧ Q (some (0, (((w15 0 12) + 1) - 1))) (Y16.1, upd2 Y16.2 40 (w8 0 12) (X.1.1 : Int)) (upd2 w15 0 12 ((w15 0 12) + 1))) ∧ ((z10 ≤ a3) → Q (some (0, (-1))) X w8))))) ∧ ((40 ≤ (w3 0 12)) → Q (some (0, (-1))) X w3))))))))) : Ex mX10_ask d 0 [(2, 0), (0, a1), (0, a2), (0, a3), (3, 0)] [] X v mc ms Q := by
  refine x_li32 (i := 1) rfl (fun ha1 => ?_)
  have F := F ha1
  refine x_li32 (i := 2) rfl (fun ha2 => ?_)
  have F := F ha2
  refine x_li32 (i := 3) rfl (fun ha3 => ?_)
  have F := F ha3
  refine x_aload_n dX10_ask_0 rfl ?_
  refine x_iload_n dX10_ask_1 rfl ?_
  obtain ⟨P1, hC, F⟩ := F
  refine x_inv dX10_ask_2 mlX10_143 hC (sW0 hW) (Nat.le_of_ble_eq_true rfl) (gW0 hW) rfl rfl (by omega) (Nat.zero_le _) (Nat.zero_le _) (Nat.le_of_ble_eq_true rfl) (fun o1 Y4 w3 ht hP => ?_)
  obtain ⟨r2, rfl⟩ : ∃ i, o1 = some (2, i) := ht
  obtain ⟨hX, hP⟩ := hP
  have hX := Eq.symm hX
  subst hX
  have F := F r2 w3 hP
  refine x_astore [(2, 0), (0, a1), (0, a2), (0, a3), (2, r2)] dX10_ask_5 rfl (Nat.le_of_ble_eq_true rfl) ?_
  refine x_aload dX10_ask_7 rfl ?_
  refine x_ifnull 31 dX10_ask_9 rfl (fun hc => ?_) (fun hc => ?_)
  · have F := F.1 hc
    refine x_iconst dX10_ask_31 rfl (i32_of rfl) ?_
    exact x_ret (some (0, (-1))) rfl ⟨dX10_ask_32, Or.inl rfl⟩ F
  · have F := F.2 hc
    refine x_iload_n dX10_ask_12 rfl ?_
    refine x_if_lt 31 dX10_ask_13 rfl (fun hc => ?_) (fun hc => ?_)
    · have F := F.1 hc
      refine x_iconst dX10_ask_31 rfl (i32_of rfl) ?_
      exact x_ret (some (0, (-1))) rfl ⟨dX10_ask_32, Or.inl rfl⟩ F
    · have F := F.2 hc
      refine x_iload_n dX10_ask_16 rfl ?_
      refine x_bipush dX10_ask_17 kb_9 (i32_of rfl) ?_
      refine x_icmp_gt 31 dX10_ask_19 rfl (fun hc => ?_) (fun hc => ?_)
      · have F := F.1 hc
        refine x_iconst dX10_ask_31 rfl (i32_of rfl) ?_
        exact x_ret (some (0, (-1))) rfl ⟨dX10_ask_32, Or.inl rfl⟩ F
      · have F := F.2 hc
        refine x_aload_n dX10_ask_22 rfl ?_
        refine x_geti (e := (w3 0 12)) 0 flX10_260 dX10_ask_23 (sW0 hW) (gW0 hW) rfl rfl (Nat.le_of_ble_eq_true rfl) (tagn2 rfl) ?_
        refine x_bipush dX10_ask_26 kb_40 (i32_of rfl) ?_
        refine x_icmp_lt 33 dX10_ask_28 rfl (fun hc => ?_) (fun hc => ?_)
        · have F := F.1 hc
          refine x_iload_n dX10_ask_33 rfl ?_
          refine x_if_le 48 dX10_ask_34 rfl (fun hc => ?_) (fun hc => ?_)
          · have F := F.1 hc
            refine x_iconst dX10_ask_48 rfl (i32_of rfl) ?_
            exact x_ret (some (0, (-1))) rfl ⟨dX10_ask_49, Or.inl rfl⟩ F
          · have F := F.2 hc
            refine x_iload_n dX10_ask_37 rfl ?_
            refine x_iconst dX10_ask_38 rfl (i32_of rfl) ?_
            refine x_aload dX10_ask_39 rfl ?_
            obtain ⟨hs5, hr5, F⟩ := F
            obtain ⟨P6, hC, F⟩ := F
            refine x_inv dX10_ask_41 mlX10_150 hC hs5 (Nat.le_of_ble_eq_true rfl) hr5 rfl rfl (by omega) (Nat.zero_le _) (Nat.zero_le _) (Nat.le_of_ble_eq_true rfl) (fun o1 Y9 w8 ht hP => ?_)
            obtain ⟨r7, rfl⟩ : ∃ i, o1 = some (0, i) := ht
            obtain ⟨hX, hP⟩ := hP
            have hX := Eq.symm hX
            subst hX
            have F := F r7 w8 hP
            obtain ⟨z10, ez10, hz10⟩ := i32_ex (Int32.ofInt 1 <<< (Int32.ofInt r7 &&& 31))
            have F := F z10 ez10 hz10
            refine x_ishl (z := z10) dX10_ask_44 ez10 hz10 ?_
            refine x_icmp_lt 50 dX10_ask_45 rfl (fun hc => ?_) (fun hc => ?_)
            · have F := F.1 hc
              refine x_aload_n dX10_ask_50 rfl ?_
              refine x_getr (r' := 40) flX10_54 dX10_ask_51 (sW0 hW) (gW0 hW) (rW0_7 hW) rfl (Nat.le_of_ble_eq_true rfl) ?_
              refine x_aload_n dX10_ask_54 rfl ?_
              refine x_geti (e := (w8 0 12)) 0 flX10_260 dX10_ask_55 (sW0 hW) (gW0 hW) rfl rfl (Nat.le_of_ble_eq_true rfl) (tagn2 rfl) ?_
              obtain ⟨hb, F⟩ := F
              refine x_new nlX10_52 dX10_ask_58 (by decide) hb.1 hb.2 ?_
              have hW12 : SW (nX X 0 0) := hW.new
              refine x_dup dX10_ask_61 (tag1 rfl) ?_
              refine x_iload_n dX10_ask_62 rfl ?_
              refine x_iload_n dX10_ask_63 rfl ?_
              refine x_aload_n dX10_ask_64 rfl ?_
              refine x_geti (e := ((nV X w8) 0 13)) 0 flX10_241 dX10_ask_65 (sW0 hW12) (gW0 hW12) rfl rfl (Nat.le_of_ble_eq_true rfl) (tagn2 rfl) ?_
              obtain ⟨c17, s18, hc1, hs1_, F⟩ := F
              obtain ⟨P13, hC, F⟩ := F
              refine x_init dX10_ask_68 mlX10_263 hC (nX_in X 0 0).1 rfl rfl (by omega) hc1 hs1_ (Nat.le_of_ble_eq_true rfl) (fun Y16 w15 hP => ?_)
              obtain ⟨hW19, F⟩ := F Y16 w15 hP
              obtain ⟨hi, F⟩ := F
              obtain ⟨hs21, hr21, F⟩ := F
              refine x_aast dX10_ask_71 (sW40 hW19) (by decide) (gW40 hW19) hi hs21 hr21 ?_
              have hW20 : SW (Y16.1, upd2 Y16.2 40 (w8 0 12) (X.1.1 : Int)) := hW19.ref40 _ _
              refine x_aload_n dX10_ask_72 rfl ?_
              refine x_dup dX10_ask_73 (tag1 rfl) ?_
              refine x_geti (e := (w15 0 12)) 0 flX10_260 dX10_ask_74 (sW0 hW20) (gW0 hW20) rfl rfl (Nat.le_of_ble_eq_true rfl) (tagn2 rfl) ?_
              refine x_iconst dX10_ask_77 rfl (i32_of rfl) ?_
              refine x_si32 (i := 1) rfl (fun hk1 => ?_)
              obtain ⟨hz, F⟩ := F
              have hz := hz hk1
              refine x_iadd dX10_ask_78 hz ?_
              refine x_puti 0 fwX10_260 dX10_ask_79 (sW0 hW20) (gW0 hW20) (fun h => Bool.noConfusion h) (Nat.le_of_ble_eq_true rfl) rfl (Or.inl ⟨rfl, Or.inl rfl⟩) ?_
              refine x_aload_n dX10_ask_82 rfl ?_
              refine x_geti (e := ((w15 0 12) + 1)) 0 flX10_260 dX10_ask_83 (sW0 hW20) (gW0 hW20) rfl rfl (Nat.le_of_ble_eq_true rfl) (tagn2 rfl) ?_
              refine x_iconst dX10_ask_86 rfl (i32_of rfl) ?_
              refine x_si32 (i := 1) rfl (fun hk1 => ?_)
              obtain ⟨hz, F⟩ := F
              have hz := hz hk1
              refine x_isub dX10_ask_87 hz ?_
              exact x_ret (some (0, (((w15 0 12) + 1) - 1))) rfl ⟨dX10_ask_88, Or.inl rfl⟩ F
            · have F := F.2 hc
              refine x_iconst dX10_ask_48 rfl (i32_of rfl) ?_
              exact x_ret (some (0, (-1))) rfl ⟨dX10_ask_49, Or.inl rfl⟩ F
        · have F := F.2 hc
          refine x_iconst dX10_ask_31 rfl (i32_of rfl) ?_
          exact x_ret (some (0, (-1))) rfl ⟨dX10_ask_32, Or.inl rfl⟩ F

set_option maxRecDepth 100000 in
set_option maxHeartbeats 4000000 in
theorem bX10_unused_0 {d mc ms : Nat} {X : XX} {v : VV} {Q : QQ} (a1 : Int) (hd : 2 ≤ d) (hW : SW X) (F : i32 a1 → ∃ P1 : Option AV → VV → Prop, Con mX10_usedTables 1 0 0 [(2, 0), (0, a1)] X v (fun o X1 v1 => X1 = X ∧ P1 o v1) ∧ ∀ (r2 : Int) (w3 : VV), P1 (some (0, r2)) w3 → ∃ P5 : Option AV → VV → Prop, Con mX6_cutTo 0 0 0 [(2, 43), (0, 0)] X w3 (fun o X1 v1 => X1 = X ∧ P5 o v1) ∧ ∀ (w7 : VV), P5 none w7 → Ex mX10_unused d 16 [(2, 0), (0, a1), (0, r2), (0, 0)] [] X w7 mc ms Q) : Ex mX10_unused d 0 [(2, 0), (0, a1), (3, 0), (3, 0)] [] X v mc ms Q := by
  refine x_li32 (i := 1) rfl (fun ha1 => ?_)
  have F := F ha1
  refine x_aload_n dX10_unused_0 rfl ?_
  refine x_iload_n dX10_unused_1 rfl ?_
  obtain ⟨P1, hC, F⟩ := F
  refine x_inv dX10_unused_2 mlX10_266 hC (sW0 hW) (Nat.le_of_ble_eq_true rfl) (gW0 hW) rfl rfl (by omega) (Nat.zero_le _) (Nat.zero_le _) (Nat.le_of_ble_eq_true rfl) (fun o1 Y4 w3 ht hP => ?_)
  obtain ⟨r2, rfl⟩ : ∃ i, o1 = some (0, i) := ht
  obtain ⟨hX, hP⟩ := hP
  have hX := Eq.symm hX
  subst hX
  have F := F r2 w3 hP
  refine x_istore_n [(2, 0), (0, a1), (0, r2), (3, 0)] dX10_unused_5 rfl (Nat.le_of_ble_eq_true rfl) ?_
  refine x_aload_n dX10_unused_6 rfl ?_
  refine x_getr (r' := 43) flX10_65 dX10_unused_7 (sW0 hW) (gW0 hW) (rW0_9 hW) rfl (Nat.le_of_ble_eq_true rfl) ?_
  refine x_iconst dX10_unused_10 rfl (i32_of rfl) ?_
  obtain ⟨P5, hC, F⟩ := F
  refine x_inv dX10_unused_11 mlX10_82 hC (sW43 hW) (Nat.le_of_ble_eq_true rfl) (gW43 hW) rfl rfl (by omega) (Nat.zero_le _) (Nat.zero_le _) (Nat.le_of_ble_eq_true rfl) (fun o1 Y8 w7 ht hP => ?_)
  obtain rfl : o1 = none := ht
  obtain ⟨hX, hP⟩ := hP
  have hX := Eq.symm hX
  subst hX
  have F := F w7 hP
  refine x_iconst dX10_unused_14 rfl (i32_of rfl) ?_
  refine x_istore_n [(2, 0), (0, a1), (0, r2), (0, 0)] dX10_unused_15 rfl (Nat.le_of_ble_eq_true rfl) ?_
  exact F

set_option maxRecDepth 100000 in
set_option maxHeartbeats 4000000 in
theorem bX10_unused_16 {d mc ms : Nat} {X : XX} {v : VV} {Q : QQ} (a1 : Int) (x2 : Int) (x3 : Int) (hd : 2 ≤ d) (hW : SW X) (F : i32 a1 → i32 x2 → i32 x3 → (((16 ≤ x3) → ∃ P9 : Option AV → VV → Prop, Con mX6_size 0 0 0 [(2, 43)] X v (fun o X1 v1 => X1 = X ∧ P9 o v1) ∧ ∀ (r10 : Int) (w11 : VV), P9 (some (0, r10)) w11 → Q (some (0, r10)) X w11) ∧ ((x3 < 16) → (0 ≤ x3 ∧ x3 < 16) ∧ ((((X.2 37 x3) = -1) → i32 (x3 + 1) ∧ Ex mX10_unused d 16 [(2, 0), (0, a1), (0, x2), (0, (x3 + 1))] [] X v mc ms Q) ∧ ((¬ (X.2 37 x3) = -1) → ∀ z13 : Int, Int32.ofInt x2 >>> (Int32.ofInt x3 &&& 31) = Int32.ofInt z13 → i32 z13 → ∀ z14 : Int, Int32.ofInt z13 &&& Int32.ofInt 1 = Int32.ofInt z14 → i32 z14 → (((¬ z14 = 0) → i32 (x3 + 1) ∧ Ex mX10_unused d 16 [(2, 0), (0, a1), (0, x2), (0, (x3 + 1))] [] X v mc ms Q) ∧ ((z14 = 0) → ∃ P15 : Option AV → VV → Prop, Con mX6_add 0 0 0 [(2, 43), (0, x3)] X v (fun o X1 v1 => X1 = X ∧ P15 o v1) ∧ ∀ (w17 : VV), P15 none w17 → i32 (x3 + 1) ∧ Ex mX10_unused d 16 [(2, 0), (0, a1), (0, x2), (0, (x3 + 1))] [] X w17 mc ms Q))))))) : Ex mX10_unused d 16 [(2, 0), (0, a1), (0, x2), (0, x3)] [] X v mc ms Q := by
  refine x_li32 (i := 1) rfl (fun ha1 => ?_)
  have F := F ha1
  refine x_li32 (i := 2) rfl (fun hx2 => ?_)
  have F := F hx2
  refine x_li32 (i := 3) rfl (fun hx3 => ?_)
  have F := F hx3
  refine x_iload_n dX10_unused_16 rfl ?_
  refine x_bipush dX10_unused_17 kb_16 (i32_of rfl) ?_
  refine x_icmp_ge 53 dX10_unused_19 rfl (fun hc => ?_) (fun hc => ?_)
  · have F := F.1 hc
    refine x_aload_n dX10_unused_53 rfl ?_
    refine x_getr (r' := 43) flX10_65 dX10_unused_54 (sW0 hW) (gW0 hW) (rW0_9 hW) rfl (Nat.le_of_ble_eq_true rfl) ?_
    obtain ⟨P9, hC, F⟩ := F
    refine x_inv dX10_unused_57 mlX10_75 hC (sW43 hW) (Nat.le_of_ble_eq_true rfl) (gW43 hW) rfl rfl (by omega) (Nat.zero_le _) (Nat.zero_le _) (Nat.le_of_ble_eq_true rfl) (fun o1 Y12 w11 ht hP => ?_)
    obtain ⟨r10, rfl⟩ : ∃ i, o1 = some (0, i) := ht
    obtain ⟨hX, hP⟩ := hP
    have hX := Eq.symm hX
    subst hX
    have F := F r10 w11 hP
    exact x_ret (some (0, r10)) rfl ⟨dX10_unused_60, Or.inl rfl⟩ F
  · have F := F.2 hc
    refine x_aload_n dX10_unused_22 rfl ?_
    refine x_getr (r' := 37) flX10_41 dX10_unused_23 (sW0 hW) (gW0 hW) (rW0_4 hW) rfl (Nat.le_of_ble_eq_true rfl) ?_
    refine x_iload_n dX10_unused_26 rfl ?_
    obtain ⟨hi, F⟩ := F
    refine x_aald (r' := (X.2 37 x3)) dX10_unused_27 (sW37 hW) (by decide) (gW37 hW) hi rfl ?_
    refine x_ifnull 47 dX10_unused_28 rfl (fun hc => ?_) (fun hc => ?_)
    · have F := F.1 hc
      obtain ⟨hz, F⟩ := F
      refine x_iinc [(2, 0), (0, a1), (0, x2), (0, (x3 + 1))] dX10_unused_47 rfl rfl (Nat.le_of_ble_eq_true rfl) hz ?_
      refine x_goto 16 dX10_unused_50 rfl ?_
      exact F
    · have F := F.2 hc
      refine x_iload_n dX10_unused_31 rfl ?_
      refine x_iload_n dX10_unused_32 rfl ?_
      obtain ⟨z13, ez13, hz13⟩ := i32_ex (Int32.ofInt x2 >>> (Int32.ofInt x3 &&& 31))
      have F := F z13 ez13 hz13
      refine x_ishr (z := z13) dX10_unused_33 ez13 hz13 ?_
      refine x_iconst dX10_unused_34 rfl (i32_of rfl) ?_
      obtain ⟨z14, ez14, hz14⟩ := i32_ex (Int32.ofInt z13 &&& Int32.ofInt 1)
      have F := F z14 ez14 hz14
      refine x_iand (z := z14) dX10_unused_35 ez14 hz14 ?_
      refine x_if_ne 47 dX10_unused_36 rfl (fun hc => ?_) (fun hc => ?_)
      · have F := F.1 hc
        obtain ⟨hz, F⟩ := F
        refine x_iinc [(2, 0), (0, a1), (0, x2), (0, (x3 + 1))] dX10_unused_47 rfl rfl (Nat.le_of_ble_eq_true rfl) hz ?_
        refine x_goto 16 dX10_unused_50 rfl ?_
        exact F
      · have F := F.2 hc
        refine x_aload_n dX10_unused_39 rfl ?_
        refine x_getr (r' := 43) flX10_65 dX10_unused_40 (sW0 hW) (gW0 hW) (rW0_9 hW) rfl (Nat.le_of_ble_eq_true rfl) ?_
        refine x_iload_n dX10_unused_43 rfl ?_
        obtain ⟨P15, hC, F⟩ := F
        refine x_inv dX10_unused_44 mlX10_212 hC (sW43 hW) (Nat.le_of_ble_eq_true rfl) (gW43 hW) rfl rfl (by omega) (Nat.zero_le _) (Nat.zero_le _) (Nat.le_of_ble_eq_true rfl) (fun o1 Y18 w17 ht hP => ?_)
        obtain rfl : o1 = none := ht
        obtain ⟨hX, hP⟩ := hP
        have hX := Eq.symm hX
        subst hX
        have F := F w17 hP
        obtain ⟨hz, F⟩ := F
        refine x_iinc [(2, 0), (0, a1), (0, x2), (0, (x3 + 1))] dX10_unused_47 rfl rfl (Nat.le_of_ble_eq_true rfl) hz ?_
        refine x_goto 16 dX10_unused_50 rfl ?_
        exact F

set_option maxRecDepth 100000 in
set_option maxHeartbeats 4000000 in
theorem bX10_alike_0 {d mc ms : Nat} {X : XX} {v : VV} {Q : QQ} (a1 : Int) (a2 : Int) (hd : 2 ≤ d) (hW : SW X) (F : i32 a1 → i32 a2 → ∃ P1 : Option AV → VV → Prop, Con mX10_tableAt 0 0 0 [(2, 0), (0, a1)] X v (fun o X1 v1 => X1 = X ∧ P1 o v1) ∧ ∀ (r2 : Int) (w3 : VV), P1 (some (2, r2)) w3 → ∃ P5 : Option AV → VV → Prop, Con mX10_tableAt 0 0 0 [(2, 0), (0, a2)] X w3 (fun o X1 v1 => X1 = X ∧ P5 o v1) ∧ ∀ (r6 : Int) (w7 : VV), P5 (some (2, r6)) w7 → (((a1 = a2) → Q (some (0, (-1))) X w7) ∧ ((¬ a1 = a2) → (((r2 = -1) → Q (some (0, (-1))) X w7) ∧ ((¬ r2 = -1) → (((r6 = -1) → Q (some (0, (-1))) X w7) ∧ ((¬ r6 = -1) → X.1.2 r2 = (7, 0) ∧ (0 ≤ r2 ∧ r2 < X.1.1) ∧ ∃ P10 : Option AV → VV → Prop, Con mX7_hasSelect 0 0 0 [(2, r2)] X w7 (fun o X1 v1 => X1 = X ∧ P10 o v1) ∧ ∀ (r11 : Int) (w12 : VV), P10 (some (0, r11)) w12 → (((r11 = 0) → Q (some (0, (-1))) X w12) ∧ ((¬ r11 = 0) → X.1.2 r6 = (7, 0) ∧ (0 ≤ r6 ∧ r6 < X.1.1) ∧ ∃ P15 : Option AV → VV → Prop, Con mX7_hasSelect 0 0 0 [(2, r6)] X w12 (fun o X1 v1 => X1 = X ∧ P15 o v1) ∧ ∀ (r16 : Int) (w17 : VV), P15 (some (0, r16)) w17 → (((¬ r16 = 0) → X.1.2 (X.2 r2 4) = (6, 0) ∧ (0 ≤ (X.2 r2 4) ∧ (X.2 r2 4) < X.1.1) ∧ ∃ P20 : Option AV → VV → Prop, Con mX6_isSame 1 0 0 [(2, (X.2 r2 4)), (2, (X.2 r6 4))] X w17 (fun o X1 v1 => X1 = X ∧ P20 o v1) ∧ ∀ (r21 : Int) (w22 : VV), P20 (some (0, r21)) w22 → (((r21 = 0) → Q (some (0, 0)) X w22) ∧ ((¬ r21 = 0) → Q (some (0, 1)) X w22))) ∧ ((r16 = 0) → Q (some (0, (-1))) X w17))))))))))) : Ex mX10_alike d 0 [(2, 0), (0, a1), (0, a2), (3, 0), (3, 0)] [] X v mc ms Q := by
  refine x_li32 (i := 1) rfl (fun ha1 => ?_)
  have F := F ha1
  refine x_li32 (i := 2) rfl (fun ha2 => ?_)
  have F := F ha2
  refine x_aload_n dX10_alike_0 rfl ?_
  refine x_iload_n dX10_alike_1 rfl ?_
  obtain ⟨P1, hC, F⟩ := F
  refine x_inv dX10_alike_2 mlX10_143 hC (sW0 hW) (Nat.le_of_ble_eq_true rfl) (gW0 hW) rfl rfl (by omega) (Nat.zero_le _) (Nat.zero_le _) (Nat.le_of_ble_eq_true rfl) (fun o1 Y4 w3 ht hP => ?_)
  obtain ⟨r2, rfl⟩ : ∃ i, o1 = some (2, i) := ht
  obtain ⟨hX, hP⟩ := hP
  have hX := Eq.symm hX
  subst hX
  have F := F r2 w3 hP
  refine x_astore_n [(2, 0), (0, a1), (0, a2), (2, r2), (3, 0)] dX10_alike_5 rfl (Nat.le_of_ble_eq_true rfl) ?_
  refine x_aload_n dX10_alike_6 rfl ?_
  refine x_iload_n dX10_alike_7 rfl ?_
  obtain ⟨P5, hC, F⟩ := F
  refine x_inv dX10_alike_8 mlX10_143 hC (sW0 hW) (Nat.le_of_ble_eq_true rfl) (gW0 hW) rfl rfl (by omega) (Nat.zero_le _) (Nat.zero_le _) (Nat.le_of_ble_eq_true rfl) (fun o1 Y8 w7 ht hP => ?_)
  obtain ⟨r6, rfl⟩ : ∃ i, o1 = some (2, i) := ht
  obtain ⟨hX, hP⟩ := hP
  have hX := Eq.symm hX
  subst hX
  have F := F r6 w7 hP
  refine x_astore [(2, 0), (0, a1), (0, a2), (2, r2), (2, r6)] dX10_alike_11 rfl (Nat.le_of_ble_eq_true rfl) ?_
  refine x_iload_n dX10_alike_13 rfl ?_
  refine x_iload_n dX10_alike_14 rfl ?_
  refine x_icmp_eq 42 dX10_alike_15 rfl (fun hc => ?_) (fun hc => ?_)
  · have F := F.1 hc
    refine x_iconst dX10_alike_42 rfl (i32_of rfl) ?_
    exact x_ret (some (0, (-1))) rfl ⟨dX10_alike_43, Or.inl rfl⟩ F
  · have F := F.2 hc
    refine x_aload_n dX10_alike_18 rfl ?_
    refine x_ifnull 42 dX10_alike_19 rfl (fun hc => ?_) (fun hc => ?_)
    · have F := F.1 hc
      refine x_iconst dX10_alike_42 rfl (i32_of rfl) ?_
      exact x_ret (some (0, (-1))) rfl ⟨dX10_alike_43, Or.inl rfl⟩ F
    · have F := F.2 hc
      refine x_aload dX10_alike_22 rfl ?_
      refine x_ifnull 42 dX10_alike_24 rfl (fun hc => ?_) (fun hc => ?_)
      · have F := F.1 hc
        refine x_iconst dX10_alike_42 rfl (i32_of rfl) ?_
        exact x_ret (some (0, (-1))) rfl ⟨dX10_alike_43, Or.inl rfl⟩ F
      · have F := F.2 hc
        refine x_aload_n dX10_alike_27 rfl ?_
        obtain ⟨hs9, hr9, F⟩ := F
        obtain ⟨P10, hC, F⟩ := F
        refine x_inv dX10_alike_28 mlX10_269 hC hs9 (Nat.le_of_ble_eq_true rfl) hr9 rfl rfl (by omega) (Nat.zero_le _) (Nat.zero_le _) (Nat.le_of_ble_eq_true rfl) (fun o1 Y13 w12 ht hP => ?_)
        obtain ⟨r11, rfl⟩ : ∃ i, o1 = some (0, i) := ht
        obtain ⟨hX, hP⟩ := hP
        have hX := Eq.symm hX
        subst hX
        have F := F r11 w12 hP
        refine x_if_eq 42 dX10_alike_31 rfl (fun hc => ?_) (fun hc => ?_)
        · have F := F.1 hc
          refine x_iconst dX10_alike_42 rfl (i32_of rfl) ?_
          exact x_ret (some (0, (-1))) rfl ⟨dX10_alike_43, Or.inl rfl⟩ F
        · have F := F.2 hc
          refine x_aload dX10_alike_34 rfl ?_
          obtain ⟨hs14, hr14, F⟩ := F
          obtain ⟨P15, hC, F⟩ := F
          refine x_inv dX10_alike_36 mlX10_269 hC hs14 (Nat.le_of_ble_eq_true rfl) hr14 rfl rfl (by omega) (Nat.zero_le _) (Nat.zero_le _) (Nat.le_of_ble_eq_true rfl) (fun o1 Y18 w17 ht hP => ?_)
          obtain ⟨r16, rfl⟩ : ∃ i, o1 = some (0, i) := ht
          obtain ⟨hX, hP⟩ := hP
          have hX := Eq.symm hX
          subst hX
          have F := F r16 w17 hP
          refine x_if_ne 44 dX10_alike_39 rfl (fun hc => ?_) (fun hc => ?_)
          · have F := F.1 hc
            refine x_aload_n dX10_alike_44 rfl ?_
            refine x_getr (r' := (X.2 r2 4)) flX10_272 dX10_alike_45 hs9 hr9 rfl rfl (Nat.le_of_ble_eq_true rfl) ?_
            refine x_aload dX10_alike_48 rfl ?_
            refine x_getr (r' := (X.2 r6 4)) flX10_272 dX10_alike_50 hs14 hr14 rfl rfl (Nat.le_of_ble_eq_true rfl) ?_
            obtain ⟨hs19, hr19, F⟩ := F
            obtain ⟨P20, hC, F⟩ := F
            refine x_inv dX10_alike_53 mlX10_275 hC hs19 (Nat.le_of_ble_eq_true rfl) hr19 rfl rfl (by omega) (Nat.zero_le _) (Nat.zero_le _) (Nat.le_of_ble_eq_true rfl) (fun o1 Y23 w22 ht hP => ?_)
            obtain ⟨r21, rfl⟩ : ∃ i, o1 = some (0, i) := ht
            obtain ⟨hX, hP⟩ := hP
            have hX := Eq.symm hX
            subst hX
            have F := F r21 w22 hP
            refine x_if_eq 63 dX10_alike_56 rfl (fun hc => ?_) (fun hc => ?_)
            · have F := F.1 hc
              refine x_iconst dX10_alike_63 rfl (i32_of rfl) ?_
              exact x_ret (some (0, 0)) rfl ⟨dX10_alike_64, Or.inl rfl⟩ F
            · have F := F.2 hc
              refine x_iconst dX10_alike_59 rfl (i32_of rfl) ?_
              refine x_goto 64 dX10_alike_60 rfl ?_
              exact x_ret (some (0, 1)) rfl ⟨dX10_alike_64, Or.inl rfl⟩ F
          · have F := F.2 hc
            refine x_iconst dX10_alike_42 rfl (i32_of rfl) ?_
            exact x_ret (some (0, (-1))) rfl ⟨dX10_alike_43, Or.inl rfl⟩ F

set_option maxRecDepth 100000 in
set_option maxHeartbeats 4000000 in
theorem bX10_putBytes_0 {d mc ms : Nat} {X : XX} {v : VV} {Q : QQ} (a1 : Int) (hd : 1 ≤ d) (hW : SW X) (F : i32 a1 → Ex mX10_putBytes d 3 [(2, 0), (0, a1), (0, 24)] [] X v mc ms Q) : Ex mX10_putBytes d 0 [(2, 0), (0, a1), (3, 0)] [] X v mc ms Q := by
  refine x_li32 (i := 1) rfl (fun ha1 => ?_)
  have F := F ha1
  refine x_bipush dX10_putBytes_0 kb_24 (i32_of rfl) ?_
  refine x_istore_n [(2, 0), (0, a1), (0, 24)] dX10_putBytes_2 rfl (Nat.le_of_ble_eq_true rfl) ?_
  exact F

set_option maxRecDepth 100000 in
set_option maxHeartbeats 4000000 in
theorem bX10_putBytes_3 {d mc ms : Nat} {X : XX} {v : VV} {Q : QQ} (a1 : Int) (x2 : Int) (hd : 1 ≤ d) (hW : SW X) (F : i32 a1 → i32 x2 → (((x2 < 0) → Q none X v) ∧ ((0 ≤ x2) → ∀ z1 : Int, ((Int32.ofInt a1).toUInt32 >>> ((Int32.ofInt x2).toUInt32 &&& Int32.toUInt32 31)).toInt32 = Int32.ofInt z1 → i32 z1 → ∀ z2 : Int, Int32.ofInt z1 &&& Int32.ofInt 255 = Int32.ofInt z2 → i32 z2 → ∃ P3 : Option AV → VV → Prop, Con mX6_add 0 0 0 [(2, 1), (0, z2)] X v (fun o X1 v1 => X1 = X ∧ P3 o v1) ∧ ∀ (w5 : VV), P3 none w5 → i32 (x2 + (-8)) ∧ Ex mX10_putBytes d 3 [(2, 0), (0, a1), (0, (x2 + (-8)))] [] X w5 mc ms Q))) : Ex mX10_putBytes d 3 [(2, 0), (0, a1), (0, x2)] [] X v mc ms Q := by
  refine x_li32 (i := 1) rfl (fun ha1 => ?_)
  have F := F ha1
  refine x_li32 (i := 2) rfl (fun hx2 => ?_)
  have F := F hx2
  refine x_iload_n dX10_putBytes_3 rfl ?_
  refine x_if_lt 27 dX10_putBytes_4 rfl (fun hc => ?_) (fun hc => ?_)
  · have F := F.1 hc
    exact x_ret none rfl ⟨dX10_putBytes_27, rfl⟩ F
  · have F := F.2 hc
    refine x_aload_n dX10_putBytes_7 rfl ?_
    refine x_getr (r' := 1) flX10_14 dX10_putBytes_8 (sW0 hW) (gW0 hW) (rW0_0 hW) rfl (Nat.le_of_ble_eq_true rfl) ?_
    refine x_iload_n dX10_putBytes_11 rfl ?_
    refine x_iload_n dX10_putBytes_12 rfl ?_
    obtain ⟨z1, ez1, hz1⟩ := i32_ex (((Int32.ofInt a1).toUInt32 >>> ((Int32.ofInt x2).toUInt32 &&& Int32.toUInt32 31)).toInt32)
    have F := F z1 ez1 hz1
    refine x_iushr (z := z1) dX10_putBytes_13 ez1 hz1 ?_
    refine x_sipush dX10_putBytes_14 ks_255 (i32_of rfl) ?_
    obtain ⟨z2, ez2, hz2⟩ := i32_ex (Int32.ofInt z1 &&& Int32.ofInt 255)
    have F := F z2 ez2 hz2
    refine x_iand (z := z2) dX10_putBytes_17 ez2 hz2 ?_
    obtain ⟨P3, hC, F⟩ := F
    refine x_inv dX10_putBytes_18 mlX10_212 hC (sW1 hW) (Nat.le_of_ble_eq_true rfl) (gW1 hW) rfl rfl (by omega) (Nat.zero_le _) (Nat.zero_le _) (Nat.le_of_ble_eq_true rfl) (fun o1 Y6 w5 ht hP => ?_)
    obtain rfl : o1 = none := ht
    obtain ⟨hX, hP⟩ := hP
    have hX := Eq.symm hX
    subst hX
    have F := F w5 hP
    obtain ⟨hz, F⟩ := F
    refine x_iinc [(2, 0), (0, a1), (0, (x2 + (-8)))] dX10_putBytes_21 rfl rfl (Nat.le_of_ble_eq_true rfl) hz ?_
    refine x_goto 3 dX10_putBytes_24 rfl ?_
    exact F

set_option maxRecDepth 100000 in
set_option maxHeartbeats 4000000 in
theorem bX10_refuse_0 {d mc ms : Nat} {X : XX} {v : VV} {Q : QQ} (a1 : Int) (a2 : Int) (hd : 0 ≤ d) (hW : SW X) (F : i32 a1 → i32 a2 → Q (some (0, (-1))) X (upd2 (upd2 v 0 14 a1) 0 15 a2)) : Ex mX10_refuse d 0 [(2, 0), (0, a1), (0, a2)] [] X v mc ms Q := by
  refine x_li32 (i := 1) rfl (fun ha1 => ?_)
  have F := F ha1
  refine x_li32 (i := 2) rfl (fun ha2 => ?_)
  have F := F ha2
  refine x_aload_n dX10_refuse_0 rfl ?_
  refine x_iload_n dX10_refuse_1 rfl ?_
  refine x_puti 0 fwX10_125 dX10_refuse_2 (sW0 hW) (gW0 hW) (fun h => Bool.noConfusion h) (Nat.le_of_ble_eq_true rfl) rfl (Or.inl ⟨rfl, Or.inl rfl⟩) ?_
  refine x_aload_n dX10_refuse_5 rfl ?_
  refine x_iload_n dX10_refuse_6 rfl ?_
  refine x_puti 0 fwX10_71 dX10_refuse_7 (sW0 hW) (gW0 hW) (fun h => Bool.noConfusion h) (Nat.le_of_ble_eq_true rfl) rfl (Or.inl ⟨rfl, Or.inl rfl⟩) ?_
  refine x_iconst dX10_refuse_10 rfl (i32_of rfl) ?_
  exact x_ret (some (0, (-1))) rfl ⟨dX10_refuse_11, Or.inl rfl⟩ F

set_option maxRecDepth 100000 in
set_option maxHeartbeats 4000000 in
theorem bX10_addTable_0 {d mc ms : Nat} {X : XX} {v : VV} {Q : QQ} (hd : 7 ≤ d) (hW : SW X) (F : ((((v 0 11) < 16) → (1 ≤ mc ∧ 10 ≤ ms) ∧ ∃ c7 s8 : Nat, c7 ≤ (mc - 1) ∧ s8 ≤ (ms - 10) ∧ ∃ P3 : QQ, Con mX7_init 6 c7 s8 [(2, (X.1.1 : Int)), (2, 4)] (nX X 7 0) (nV X v) P3 ∧ ∀ (Y6 : XX) (w5 : VV), P3 none Y6 w5 → SW Y6 ∧ Ex mX10_addTable d 25 [(2, 0), (2, 4), (0, (v 0 11)), (2, (X.1.1 : Int)), (0, 0)] [] Y6 w5 ((mc - 1) - c7) ((ms - 10) - s8) Q) ∧ ((16 ≤ (v 0 11)) → Q (some (0, (-1))) X v))) : Ex mX10_addTable d 0 [(2, 0), (2, 4), (3, 0), (3, 0), (3, 0)] [] X v mc ms Q := by
  refine x_aload_n dX10_addTable_0 rfl ?_
  refine x_geti (e := (v 0 11)) 0 flX10_122 dX10_addTable_1 (sW0 hW) (gW0 hW) rfl rfl (Nat.le_of_ble_eq_true rfl) (tagn2 rfl) ?_
  refine x_istore_n [(2, 0), (2, 4), (0, (v 0 11)), (3, 0), (3, 0)] dX10_addTable_4 rfl (Nat.le_of_ble_eq_true rfl) ?_
  refine x_iload_n dX10_addTable_5 rfl ?_
  refine x_bipush dX10_addTable_6 kb_16 (i32_of rfl) ?_
  refine x_icmp_lt 13 dX10_addTable_8 rfl (fun hc => ?_) (fun hc => ?_)
  · have F := F.1 hc
    obtain ⟨hb, F⟩ := F
    refine x_new nlX10_39 dX10_addTable_13 (by decide) hb.1 hb.2 ?_
    have hW2 : SW (nX X 7 0) := hW.new
    refine x_dup dX10_addTable_16 (tag1 rfl) ?_
    refine x_aload_n dX10_addTable_17 rfl ?_
    obtain ⟨c7, s8, hc1, hs1_, F⟩ := F
    obtain ⟨P3, hC, F⟩ := F
    refine x_init dX10_addTable_18 mlX10_279 hC (nX_in X 7 0).1 rfl rfl (by omega) hc1 hs1_ (Nat.le_of_ble_eq_true rfl) (fun Y6 w5 hP => ?_)
    obtain ⟨hW9, F⟩ := F Y6 w5 hP
    refine x_astore_n [(2, 0), (2, 4), (0, (v 0 11)), (2, (X.1.1 : Int)), (3, 0)] dX10_addTable_21 rfl (Nat.le_of_ble_eq_true rfl) ?_
    refine x_iconst dX10_addTable_22 rfl (i32_of rfl) ?_
    refine x_istore [(2, 0), (2, 4), (0, (v 0 11)), (2, (X.1.1 : Int)), (0, 0)] dX10_addTable_23 rfl (Nat.le_of_ble_eq_true rfl) ?_
    exact F
  · have F := F.2 hc
    refine x_iconst dX10_addTable_11 rfl (i32_of rfl) ?_
    exact x_ret (some (0, (-1))) rfl ⟨dX10_addTable_12, Or.inl rfl⟩ F

set_option maxRecDepth 100000 in
set_option maxHeartbeats 4000000 in
theorem bX10_addTable_25 {d mc ms : Nat} {X : XX} {v : VV} {Q : QQ} (x2 : Int) (x3 : Int) (x4 : Int) (hd : 7 ≤ d) (hW : SW X) (F : i32 x2 → i32 x4 → X.1.2 x3 = (7, 0) ∧ (0 ≤ x3 ∧ x3 < X.1.1) ∧ ∃ P11 : Option AV → VV → Prop, Con mX7_columnCount 0 0 0 [(2, x3)] X v (fun o X1 v1 => X1 = X ∧ P11 o v1) ∧ ∀ (r12 : Int) (w13 : VV), P11 (some (0, r12)) w13 → (((r12 ≤ x4) → (0 ≤ x2 ∧ x2 < 16) ∧ (i32 (w13 0 11) → i32 ((w13 0 11) + 1)) ∧ ∃ P16 : Option AV → VV → Prop, Con mX10_settleViews 2 0 0 [(2, 0)] (X.1, upd2 X.2 37 x2 x3) (upd2 w13 0 11 ((w13 0 11) + 1)) (fun o X1 v1 => X1 = (X.1, upd2 X.2 37 x2 x3) ∧ P16 o v1) ∧ ∀ (w18 : VV), P16 none w18 → Q (some (0, x2)) (X.1, upd2 X.2 37 x2 x3) w18) ∧ ((x4 < r12) → i32 (x2 * 8) ∧ (i32 (x2 * 8) → i32 ((x2 * 8) + x4)) ∧ ∃ P20 : Option AV → VV → Prop, Con mX6_get 0 0 0 [(2, 19), (0, x4)] X w13 (fun o X1 v1 => X1 = X ∧ P20 o v1) ∧ ∀ (r21 : Int) (w22 : VV), P20 (some (0, r21)) w22 → (0 ≤ ((x2 * 8) + x4) ∧ ((x2 * 8) + x4) < 128) ∧ i32 (x4 + 1) ∧ Ex mX10_addTable d 25 [(2, 0), (2, 4), (0, x2), (2, x3), (0, (x4 + 1))] [] X (upd2 w22 38 ((x2 * 8) + x4) r21) mc ms Q))) : Ex mX10_addTable d 25 [(2, 0), (2, 4), (0, x2), (2, x3), (0, x4)] [] X v mc ms Q := by
  refine x_li32 (i := 2) rfl (fun hx2 => ?_)
  have F := F hx2
  refine x_li32 (i := 4) rfl (fun hx4 => ?_)
  have F := F hx4
  refine x_iload dX10_addTable_25 rfl ?_
  refine x_aload_n dX10_addTable_27 rfl ?_
  obtain ⟨hs10, hr10, F⟩ := F
  obtain ⟨P11, hC, F⟩ := F
  refine x_inv dX10_addTable_28 mlX10_150 hC hs10 (Nat.le_of_ble_eq_true rfl) hr10 rfl rfl (by omega) (Nat.zero_le _) (Nat.zero_le _) (Nat.le_of_ble_eq_true rfl) (fun o1 Y14 w13 ht hP => ?_)
  obtain ⟨r12, rfl⟩ : ∃ i, o1 = some (0, i) := ht
  obtain ⟨hX, hP⟩ := hP
  have hX := Eq.symm hX
  subst hX
  have F := F r12 w13 hP
  refine x_icmp_ge 61 dX10_addTable_31 rfl (fun hc => ?_) (fun hc => ?_)
  · have F := F.1 hc
    refine x_aload_n dX10_addTable_61 rfl ?_
    refine x_getr (r' := 37) flX10_41 dX10_addTable_62 (sW0 hW) (gW0 hW) (rW0_4 hW) rfl (Nat.le_of_ble_eq_true rfl) ?_
    refine x_iload_n dX10_addTable_65 rfl ?_
    refine x_aload_n dX10_addTable_66 rfl ?_
    obtain ⟨hi, F⟩ := F
    refine x_aast dX10_addTable_67 (sW37 hW) (by decide) (gW37 hW) hi hs10 hr10 ?_
    have hW15 : SW (X.1, upd2 X.2 37 x2 x3) := hW.ref37 _ _
    refine x_aload_n dX10_addTable_68 rfl ?_
    refine x_dup dX10_addTable_69 (tag1 rfl) ?_
    refine x_geti (e := (w13 0 11)) 0 flX10_122 dX10_addTable_70 (sW0 hW15) (gW0 hW15) rfl rfl (Nat.le_of_ble_eq_true rfl) (tagn2 rfl) ?_
    refine x_iconst dX10_addTable_73 rfl (i32_of rfl) ?_
    refine x_si32 (i := 1) rfl (fun hk1 => ?_)
    obtain ⟨hz, F⟩ := F
    have hz := hz hk1
    refine x_iadd dX10_addTable_74 hz ?_
    refine x_puti 0 fwX10_122 dX10_addTable_75 (sW0 hW15) (gW0 hW15) (fun h => Bool.noConfusion h) (Nat.le_of_ble_eq_true rfl) rfl (Or.inl ⟨rfl, Or.inl rfl⟩) ?_
    refine x_aload_n dX10_addTable_78 rfl ?_
    obtain ⟨P16, hC, F⟩ := F
    refine x_inv dX10_addTable_79 mlX10_244 hC (sW0 hW15) (Nat.le_of_ble_eq_true rfl) (gW0 hW15) rfl rfl (by omega) (Nat.zero_le _) (Nat.zero_le _) (Nat.le_of_ble_eq_true rfl) (fun o1 Y19 w18 ht hP => ?_)
    obtain rfl : o1 = none := ht
    obtain ⟨hX, hP⟩ := hP
    have hX := Eq.symm hX
    subst hX
    have F := F w18 hP
    refine x_iload_n dX10_addTable_82 rfl ?_
    exact x_ret (some (0, x2)) rfl ⟨dX10_addTable_83, Or.inl rfl⟩ F
  · have F := F.2 hc
    refine x_aload_n dX10_addTable_34 rfl ?_
    refine x_getr (r' := 38) flX10_45 dX10_addTable_35 (sW0 hW) (gW0 hW) (rW0_5 hW) rfl (Nat.le_of_ble_eq_true rfl) ?_
    refine x_iload_n dX10_addTable_38 rfl ?_
    refine x_bipush dX10_addTable_39 kb_8 (i32_of rfl) ?_
    obtain ⟨hz, F⟩ := F
    refine x_imul dX10_addTable_41 hz ?_
    refine x_iload dX10_addTable_42 rfl ?_
    refine x_si32 (i := 1) rfl (fun hk1 => ?_)
    obtain ⟨hz, F⟩ := F
    have hz := hz hk1
    refine x_iadd dX10_addTable_44 hz ?_
    refine x_aload_n dX10_addTable_45 rfl ?_
    refine x_getr (r' := 19) flX10_282 dX10_addTable_46 (sW4 hW) (gW4 hW) (rW4_2 hW) rfl (Nat.le_of_ble_eq_true rfl) ?_
    refine x_iload dX10_addTable_49 rfl ?_
    obtain ⟨P20, hC, F⟩ := F
    refine x_inv dX10_addTable_51 mlX10_156 hC (sW19 hW) (Nat.le_of_ble_eq_true rfl) (gW19 hW) rfl rfl (by omega) (Nat.zero_le _) (Nat.zero_le _) (Nat.le_of_ble_eq_true rfl) (fun o1 Y23 w22 ht hP => ?_)
    obtain ⟨r21, rfl⟩ : ∃ i, o1 = some (0, i) := ht
    obtain ⟨hX, hP⟩ := hP
    have hX := Eq.symm hX
    subst hX
    have F := F r21 w22 hP
    obtain ⟨hi, F⟩ := F
    refine x_iast dX10_addTable_54 (sW38 hW) (gW38 hW) hi ?_
    obtain ⟨hz, F⟩ := F
    refine x_iinc [(2, 0), (2, 4), (0, x2), (2, x3), (0, (x4 + 1))] dX10_addTable_55 rfl rfl (Nat.le_of_ble_eq_true rfl) hz ?_
    refine x_goto 25 dX10_addTable_58 rfl ?_
    exact F

set_option maxRecDepth 100000 in
set_option maxHeartbeats 4000000 in
theorem bX10_tableAt_0 {d mc ms : Nat} {X : XX} {v : VV} {Q : QQ} (a1 : Int) (hd : 0 ≤ d) (hW : SW X) (F : i32 a1 → (((a1 < 0) → Q (some (2, (-1))) X v) ∧ ((0 ≤ a1) → (((16 ≤ a1) → Q (some (2, (-1))) X v) ∧ ((a1 < 16) → (0 ≤ a1 ∧ a1 < 16) ∧ Q (some (2, (X.2 37 a1))) X v))))) : Ex mX10_tableAt d 0 [(2, 0), (0, a1)] [] X v mc ms Q := by
  refine x_li32 (i := 1) rfl (fun ha1 => ?_)
  have F := F ha1
  refine x_iload_n dX10_tableAt_0 rfl ?_
  refine x_if_lt 19 dX10_tableAt_1 rfl (fun hc => ?_) (fun hc => ?_)
  · have F := F.1 hc
    refine x_null dX10_tableAt_19 ?_
    exact x_ret (some (2, (-1))) rfl ⟨dX10_tableAt_20, Or.inl ⟨_, rfl⟩⟩ F
  · have F := F.2 hc
    refine x_iload_n dX10_tableAt_4 rfl ?_
    refine x_bipush dX10_tableAt_5 kb_16 (i32_of rfl) ?_
    refine x_icmp_ge 19 dX10_tableAt_7 rfl (fun hc => ?_) (fun hc => ?_)
    · have F := F.1 hc
      refine x_null dX10_tableAt_19 ?_
      exact x_ret (some (2, (-1))) rfl ⟨dX10_tableAt_20, Or.inl ⟨_, rfl⟩⟩ F
    · have F := F.2 hc
      refine x_aload_n dX10_tableAt_10 rfl ?_
      refine x_getr (r' := 37) flX10_41 dX10_tableAt_11 (sW0 hW) (gW0 hW) (rW0_4 hW) rfl (Nat.le_of_ble_eq_true rfl) ?_
      refine x_iload_n dX10_tableAt_14 rfl ?_
      obtain ⟨hi, F⟩ := F
      refine x_aald (r' := (X.2 37 a1)) dX10_tableAt_15 (sW37 hW) (by decide) (gW37 hW) hi rfl ?_
      refine x_goto 20 dX10_tableAt_16 rfl ?_
      exact x_ret (some (2, (X.2 37 a1))) rfl ⟨dX10_tableAt_20, Or.inl ⟨_, rfl⟩⟩ F

set_option maxRecDepth 100000 in
set_option maxHeartbeats 4000000 in
theorem bX10_hasColumn_0 {d mc ms : Nat} {X : XX} {v : VV} {Q : QQ} (a1 : Int) (a2 : Int) (hd : 1 ≤ d) (hW : SW X) (F : i32 a1 → i32 a2 → ∃ P1 : Option AV → VV → Prop, Con mX10_tableAt 0 0 0 [(2, 0), (0, a1)] X v (fun o X1 v1 => X1 = X ∧ P1 o v1) ∧ ∀ (r2 : Int) (w3 : VV), P1 (some (2, r2)) w3 → (((r2 = -1) → Q (some (0, 0)) X w3) ∧ ((¬ r2 = -1) → (((a2 < 0) → Q (some (0, 0)) X w3) ∧ ((0 ≤ a2) → X.1.2 r2 = (7, 0) ∧ (0 ≤ r2 ∧ r2 < X.1.1) ∧ ∃ P6 : Option AV → VV → Prop, Con mX7_columnCount 0 0 0 [(2, r2)] X w3 (fun o X1 v1 => X1 = X ∧ P6 o v1) ∧ ∀ (r7 : Int) (w8 : VV), P6 (some (0, r7)) w8 → (((r7 ≤ a2) → Q (some (0, 0)) X w8) ∧ ((a2 < r7) → Q (some (0, 1)) X w8))))))) : Ex mX10_hasColumn d 0 [(2, 0), (0, a1), (0, a2), (3, 0)] [] X v mc ms Q := by
  refine x_li32 (i := 1) rfl (fun ha1 => ?_)
  have F := F ha1
  refine x_li32 (i := 2) rfl (fun ha2 => ?_)
  have F := F ha2
  refine x_aload_n dX10_hasColumn_0 rfl ?_
  refine x_iload_n dX10_hasColumn_1 rfl ?_
  obtain ⟨P1, hC, F⟩ := F
  refine x_inv dX10_hasColumn_2 mlX10_143 hC (sW0 hW) (Nat.le_of_ble_eq_true rfl) (gW0 hW) rfl rfl (by omega) (Nat.zero_le _) (Nat.zero_le _) (Nat.le_of_ble_eq_true rfl) (fun o1 Y4 w3 ht hP => ?_)
  obtain ⟨r2, rfl⟩ : ∃ i, o1 = some (2, i) := ht
  obtain ⟨hX, hP⟩ := hP
  have hX := Eq.symm hX
  subst hX
  have F := F r2 w3 hP
  refine x_astore_n [(2, 0), (0, a1), (0, a2), (2, r2)] dX10_hasColumn_5 rfl (Nat.le_of_ble_eq_true rfl) ?_
  refine x_aload_n dX10_hasColumn_6 rfl ?_
  refine x_ifnull 26 dX10_hasColumn_7 rfl (fun hc => ?_) (fun hc => ?_)
  · have F := F.1 hc
    refine x_iconst dX10_hasColumn_26 rfl (i32_of rfl) ?_
    exact x_ret (some (0, 0)) rfl ⟨dX10_hasColumn_27, Or.inr ⟨rfl, Or.inl rfl⟩⟩ F
  · have F := F.2 hc
    refine x_iload_n dX10_hasColumn_10 rfl ?_
    refine x_if_lt 26 dX10_hasColumn_11 rfl (fun hc => ?_) (fun hc => ?_)
    · have F := F.1 hc
      refine x_iconst dX10_hasColumn_26 rfl (i32_of rfl) ?_
      exact x_ret (some (0, 0)) rfl ⟨dX10_hasColumn_27, Or.inr ⟨rfl, Or.inl rfl⟩⟩ F
    · have F := F.2 hc
      refine x_iload_n dX10_hasColumn_14 rfl ?_
      refine x_aload_n dX10_hasColumn_15 rfl ?_
      obtain ⟨hs5, hr5, F⟩ := F
      obtain ⟨P6, hC, F⟩ := F
      refine x_inv dX10_hasColumn_16 mlX10_150 hC hs5 (Nat.le_of_ble_eq_true rfl) hr5 rfl rfl (by omega) (Nat.zero_le _) (Nat.zero_le _) (Nat.le_of_ble_eq_true rfl) (fun o1 Y9 w8 ht hP => ?_)
      obtain ⟨r7, rfl⟩ : ∃ i, o1 = some (0, i) := ht
      obtain ⟨hX, hP⟩ := hP
      have hX := Eq.symm hX
      subst hX
      have F := F r7 w8 hP
      refine x_icmp_ge 26 dX10_hasColumn_19 rfl (fun hc => ?_) (fun hc => ?_)
      · have F := F.1 hc
        refine x_iconst dX10_hasColumn_26 rfl (i32_of rfl) ?_
        exact x_ret (some (0, 0)) rfl ⟨dX10_hasColumn_27, Or.inr ⟨rfl, Or.inl rfl⟩⟩ F
      · have F := F.2 hc
        refine x_iconst dX10_hasColumn_22 rfl (i32_of rfl) ?_
        refine x_goto 27 dX10_hasColumn_23 rfl ?_
        exact x_ret (some (0, 1)) rfl ⟨dX10_hasColumn_27, Or.inr ⟨rfl, Or.inr rfl⟩⟩ F

set_option maxRecDepth 100000 in
set_option maxHeartbeats 4000000 in
theorem bX10_indexOfName_0 {d mc ms : Nat} {X : XX} {v : VV} {Q : QQ} (a2 : Int) (hd : 0 ≤ d) (hW : SW X) (F : Ex mX10_indexOfName d 2 [(2, 37), (1, a2), (3, 0), (0, 0), (3, 0)] [] X v mc ms Q) : Ex mX10_indexOfName d 0 [(2, 37), (1, a2), (3, 0), (3, 0), (3, 0)] [] X v mc ms Q := by
  refine x_iconst dX10_indexOfName_0 rfl (i32_of rfl) ?_
  refine x_istore_n [(2, 37), (1, a2), (3, 0), (0, 0), (3, 0)] dX10_indexOfName_1 rfl (Nat.le_of_ble_eq_true rfl) ?_
  exact F

set_option maxRecDepth 100000 in
set_option maxHeartbeats 4000000 in
theorem bX10_indexOfName_2 {d mc ms : Nat} {X : XX} {v : VV} {Q : QQ} (a2 : Int) (x3 : Int) (hd : 0 ≤ d) (hW : SW X) (F : i32 x3 → (((16 ≤ x3) → Q (some (0, (-1))) X v) ∧ ((x3 < 16) → (0 ≤ x3 ∧ x3 < 16) ∧ ((((X.2 37 x3) = -1) → i32 (x3 + 1) ∧ Ex mX10_indexOfName d 2 [(2, 37), (1, a2), (3, 0), (0, (x3 + 1)), (3, 0)] [] X v mc ms Q) ∧ ((¬ (X.2 37 x3) = -1) → X.1.2 (X.2 37 x3) = (7, 0) ∧ (0 ≤ (X.2 37 x3) ∧ (X.2 37 x3) < X.1.1) ∧ (((¬ (v (X.2 37 x3) 0) = a2) → i32 (x3 + 1) ∧ Ex mX10_indexOfName d 2 [(2, 37), (1, a2), (3, 0), (0, (x3 + 1)), (3, 0)] [] X v mc ms Q) ∧ (((v (X.2 37 x3) 0) = a2) → Q (some (0, x3)) X v))))))) : Ex mX10_indexOfName d 2 [(2, 37), (1, a2), (3, 0), (0, x3), (3, 0)] [] X v mc ms Q := by
  refine x_li32 (i := 3) rfl (fun hx3 => ?_)
  have F := F hx3
  refine x_iload_n dX10_indexOfName_2 rfl ?_
  refine x_aload_n dX10_indexOfName_3 rfl ?_
  refine x_alen dX10_indexOfName_4 (sW37 hW) (by decide) (gW37 hW) (fun hlen => ?_)
  refine x_icmp_ge 36 dX10_indexOfName_5 rfl (fun hc => ?_) (fun hc => ?_)
  · have F := F.1 hc
    refine x_iconst dX10_indexOfName_36 rfl (i32_of rfl) ?_
    exact x_ret (some (0, (-1))) rfl ⟨dX10_indexOfName_37, Or.inl rfl⟩ F
  · have F := F.2 hc
    refine x_aload_n dX10_indexOfName_8 rfl ?_
    refine x_iload_n dX10_indexOfName_9 rfl ?_
    obtain ⟨hi, F⟩ := F
    refine x_aald (r' := (X.2 37 x3)) dX10_indexOfName_10 (sW37 hW) (by decide) (gW37 hW) hi rfl ?_
    refine x_astore [(2, 37), (1, a2), (3, 0), (0, x3), (2, (X.2 37 x3))] dX10_indexOfName_11 rfl (Nat.le_of_ble_eq_true rfl) ?_
    refine x_aload dX10_indexOfName_13 rfl ?_
    refine x_ifnull 30 dX10_indexOfName_15 rfl (fun hc => ?_) (fun hc => ?_)
    · have F := F.1 hc
      obtain ⟨hz, F⟩ := F
      refine x_iinc [(2, 37), (1, a2), (3, 0), (0, (x3 + 1)), (2, (X.2 37 x3))] dX10_indexOfName_30 rfl rfl (Nat.le_of_ble_eq_true rfl) hz ?_
      refine x_goto 2 dX10_indexOfName_33 rfl ?_
      exact x_less [(2, 37), (1, a2), (3, 0), (0, (x3 + 1)), (3, 0)] ⟨Or.inr rfl, ⟨Or.inr rfl, ⟨Or.inr rfl, ⟨Or.inr rfl, ⟨Or.inl rfl, trivial⟩⟩⟩⟩⟩ F
    · have F := F.2 hc
      refine x_aload dX10_indexOfName_18 rfl ?_
      obtain ⟨hs1, hr1, F⟩ := F
      refine x_geti (e := (v (X.2 37 x3) 0)) 1 flX10_285 dX10_indexOfName_20 hs1 hr1 rfl rfl (Nat.le_of_ble_eq_true rfl) (tagn2 rfl) ?_
      refine x_lload_n dX10_indexOfName_23 rfl ?_
      refine x_lcmp dX10_indexOfName_24 (fun z2 hz21 hz22 hz23 => ?_)
      refine x_if_ne 30 dX10_indexOfName_25 rfl (fun hc => ?_) (fun hc => ?_)
      · have F := F.1 (fun q => hc (hz21.mpr q))
        obtain ⟨hz, F⟩ := F
        refine x_iinc [(2, 37), (1, a2), (3, 0), (0, (x3 + 1)), (2, (X.2 37 x3))] dX10_indexOfName_30 rfl rfl (Nat.le_of_ble_eq_true rfl) hz ?_
        refine x_goto 2 dX10_indexOfName_33 rfl ?_
        exact x_less [(2, 37), (1, a2), (3, 0), (0, (x3 + 1)), (3, 0)] ⟨Or.inr rfl, ⟨Or.inr rfl, ⟨Or.inr rfl, ⟨Or.inr rfl, ⟨Or.inl rfl, trivial⟩⟩⟩⟩⟩ F
      · have F := F.2 (hz21.mp hc)
        refine x_iload_n dX10_indexOfName_28 rfl ?_
        exact x_ret (some (0, x3)) rfl ⟨dX10_indexOfName_29, Or.inl rfl⟩ F
