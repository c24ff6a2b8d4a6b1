set_option maxRecDepth 100000 in
set_option maxHeartbeats 4000000 in
theorem bX10_isType_0 {d mc ms : Nat} {X : XX} {v : VV} {Q : QQ} (a1 : Int) (hd : 0 ≤ d) (hW : SW X) (F : i32 a1 → (((a1 = 110) → Q (some (0, 1)) X v) ∧ ((¬ a1 = 110) → (((a1 = 116) → Q (some (0, 1)) X v) ∧ ((¬ a1 = 116) → (((¬ a1 = 100) → Q (some (0, 0)) X v) ∧ ((a1 = 100) → Q (some (0, 1)) X v))))))) : Ex mX10_isType d 0 [(0, a1)] [] X v mc ms Q := by
  refine x_li32 (i := 0) rfl (fun ha1 => ?_)
  have F := F ha1
  refine x_iload_n dX10_isType_0 rfl ?_
  refine x_bipush dX10_isType_1 kb_110 (i32_of rfl) ?_
  refine x_icmp_eq 18 dX10_isType_3 rfl (fun hc => ?_) (fun hc => ?_)
  · have F := F.1 hc
    refine x_iconst dX10_isType_18 rfl (i32_of rfl) ?_
    refine x_goto 23 dX10_isType_19 rfl ?_
    exact x_ret (some (0, 1)) rfl ⟨dX10_isType_23, Or.inr ⟨rfl, Or.inr rfl⟩⟩ F
  · have F := F.2 hc
    refine x_iload_n dX10_isType_6 rfl ?_
    refine x_bipush dX10_isType_7 kb_116 (i32_of rfl) ?_
    refine x_icmp_eq 18 dX10_isType_9 rfl (fun hc => ?_) (fun hc => ?_)
    · have F := F.1 hc
      refine x_iconst dX10_isType_18 rfl (i32_of rfl) ?_
      refine x_goto 23 dX10_isType_19 rfl ?_
      exact x_ret (some (0, 1)) rfl ⟨dX10_isType_23, Or.inr ⟨rfl, Or.inr rfl⟩⟩ F
    · have F := F.2 hc
      refine x_iload_n dX10_isType_12 rfl ?_
      refine x_bipush dX10_isType_13 kb_100 (i32_of rfl) ?_
      refine x_icmp_ne 22 dX10_isType_15 rfl (fun hc => ?_) (fun hc => ?_)
      · have F := F.1 hc
        refine x_iconst dX10_isType_22 rfl (i32_of rfl) ?_
        exact x_ret (some (0, 0)) rfl ⟨dX10_isType_23, Or.inr ⟨rfl, Or.inl rfl⟩⟩ F
      · have F := F.2 hc
        refine x_iconst dX10_isType_18 rfl (i32_of rfl) ?_
        refine x_goto 23 dX10_isType_19 rfl ?_
        exact x_ret (some (0, 1)) rfl ⟨dX10_isType_23, Or.inr ⟨rfl, Or.inr rfl⟩⟩ F

set_option maxRecDepth 100000 in
set_option maxHeartbeats 4000000 in
theorem bX10_markEarlierSteps_0 {d mc ms : Nat} {X : XX} {v : VV} {Q : QQ} (a1 : Int) (hd : 2 ≤ d) (hW : SW X) (F : i32 a1 → i32 (a1 - 1) ∧ Ex mX10_markEarlierSteps d 4 [(2, 0), (0, a1), (0, (a1 - 1)), (3, 0), (3, 0)] [] X v mc ms Q) : Ex mX10_markEarlierSteps d 0 [(2, 0), (0, a1), (3, 0), (3, 0), (3, 0)] [] X v mc ms Q := by
  refine x_li32 (i := 1) rfl (fun ha1 => ?_)
  have F := F ha1
  refine x_iload_n dX10_markEarlierSteps_0 rfl ?_
  refine x_iconst dX10_markEarlierSteps_1 rfl (i32_of rfl) ?_
  obtain ⟨hz, F⟩ := F
  refine x_isub dX10_markEarlierSteps_2 hz ?_
  refine x_istore_n [(2, 0), (0, a1), (0, (a1 - 1)), (3, 0), (3, 0)] dX10_markEarlierSteps_3 rfl (Nat.le_of_ble_eq_true rfl) ?_
  exact F

set_option maxRecDepth 100000 in
set_option maxHeartbeats 4000000 in
theorem bX10_markEarlierSteps_4 {d mc ms : Nat} {X : XX} {v : VV} {Q : QQ} (a1 : Int) (x2 : Int) (hd : 2 ≤ d) (hW : SW X) (F : i32 a1 → i32 x2 → (((x2 < 0) → Q none X v) ∧ ((0 ≤ x2) → ∃ P1 : Option AV → VV → Prop, Con mX10_tableAt 0 0 0 [(2, 0), (0, x2)] X v (fun o X1 v1 => X1 = X ∧ P1 o v1) ∧ ∀ (r2 : Int) (w3 : VV), P1 (some (2, r2)) w3 → (((¬ r2 = -1) → Ex mX10_markEarlierSteps d 24 [(2, 0), (0, a1), (0, x2), (2, r2), (0, 0)] [] X w3 mc ms Q) ∧ ((r2 = -1) → i32 (x2 + (-1)) ∧ Ex mX10_markEarlierSteps d 4 [(2, 0), (0, a1), (0, (x2 + (-1))), (3, 0), (3, 0)] [] X w3 mc ms Q))))) : Ex mX10_markEarlierSteps d 4 [(2, 0), (0, a1), (0, x2), (3, 0), (3, 0)] [] X v mc ms Q := by
  refine x_li32 (i := 1) rfl (fun ha1 => ?_)
  have F := F ha1
  refine x_li32 (i := 2) rfl (fun hx2 => ?_)
  have F := F hx2
  refine x_iload_n dX10_markEarlierSteps_4 rfl ?_
  refine x_if_lt 75 dX10_markEarlierSteps_5 rfl (fun hc => ?_) (fun hc => ?_)
  · have F := F.1 hc
    exact x_ret none rfl ⟨dX10_markEarlierSteps_75, rfl⟩ F
  · have F := F.2 hc
    refine x_aload_n dX10_markEarlierSteps_8 rfl ?_
    refine x_iload_n dX10_markEarlierSteps_9 rfl ?_
    obtain ⟨P1, hC, F⟩ := F
    refine x_inv dX10_markEarlierSteps_10 mlX10_143 hC (sW0 hW) (Nat.le_of_ble_eq_true rfl) (gW0 hW) rfl rfl (by omega) (Nat.zero_le _) (Nat.zero_le _) (Nat.le_of_ble_eq_true rfl) (fun o1 Y4 w3 ht hP => ?_)
    obtain ⟨r2, rfl⟩ : ∃ i, o1 = some (2, i) := ht
    obtain ⟨hX, hP⟩ := hP
    have hX := Eq.symm hX
    subst hX
    have F := F r2 w3 hP
    refine x_astore_n [(2, 0), (0, a1), (0, x2), (2, r2), (3, 0)] dX10_markEarlierSteps_13 rfl (Nat.le_of_ble_eq_true rfl) ?_
    refine x_aload_n dX10_markEarlierSteps_14 rfl ?_
    refine x_ifnonnull 21 dX10_markEarlierSteps_15 rfl (fun hc => ?_) (fun hc => ?_)
    · have F := F.1 hc
      refine x_iconst dX10_markEarlierSteps_21 rfl (i32_of rfl) ?_
      refine x_istore [(2, 0), (0, a1), (0, x2), (2, r2), (0, 0)] dX10_markEarlierSteps_22 rfl (Nat.le_of_ble_eq_true rfl) ?_
      exact F
    · have F := F.2 hc
      refine x_goto 69 dX10_markEarlierSteps_18 rfl ?_
      obtain ⟨hz, F⟩ := F
      refine x_iinc [(2, 0), (0, a1), (0, (x2 + (-1))), (2, r2), (3, 0)] dX10_markEarlierSteps_69 rfl rfl (Nat.le_of_ble_eq_true rfl) hz ?_
      refine x_goto 4 dX10_markEarlierSteps_72 rfl ?_
      exact x_less [(2, 0), (0, a1), (0, (x2 + (-1))), (3, 0), (3, 0)] ⟨Or.inr rfl, ⟨Or.inr rfl, ⟨Or.inr rfl, ⟨Or.inl rfl, ⟨Or.inr rfl, trivial⟩⟩⟩⟩⟩ F

set_option maxRecDepth 100000 in
set_option maxHeartbeats 4000000 in
theorem bX10_markEarlierSteps_24 {d mc ms : Nat} {X : XX} {v : VV} {Q : QQ} (a1 : Int) (x2 : Int) (x3 : Int) (x4 : Int) (hd : 2 ≤ d) (hW : SW X) (F : i32 a1 → i32 x2 → i32 x4 → X.1.2 x3 = (7, 0) ∧ (0 ≤ x3 ∧ x3 < X.1.1) ∧ ∃ P6 : Option AV → VV → Prop, Con mX7_columnCount 0 0 0 [(2, x3)] X v (fun o X1 v1 => X1 = X ∧ P6 o v1) ∧ ∀ (r7 : Int) (w8 : VV), P6 (some (0, r7)) w8 → (((r7 ≤ x4) → i32 (x2 + (-1)) ∧ Ex mX10_markEarlierSteps d 4 [(2, 0), (0, a1), (0, (x2 + (-1))), (3, 0), (3, 0)] [] X w8 mc ms Q) ∧ ((x4 < r7) → i32 (x2 * 8) ∧ (i32 (x2 * 8) → i32 ((x2 * 8) + x4)) ∧ ∃ P10 : Option AV → VV → Prop, Con mX2_has 1 0 0 [(2, 41), (0, ((x2 * 8) + x4))] X w8 (fun o X1 v1 => X1 = X ∧ P10 o v1) ∧ ∀ (r11 : Int) (w12 : VV), P10 (some (0, r11)) w12 → (((r11 = 0) → i32 (x4 + 1) ∧ Ex mX10_markEarlierSteps d 24 [(2, 0), (0, a1), (0, x2), (2, x3), (0, (x4 + 1))] [] X w12 mc ms Q) ∧ ((¬ r11 = 0) → X.1.2 (X.2 x3 3) = (5, 0) ∧ (0 ≤ (X.2 x3 3) ∧ (X.2 x3 3) < X.1.1) ∧ ∃ P15 : Option AV → VV → Prop, Con mX5_markUsed 1 0 0 [(2, (X.2 x3 3)), (0, x4), (2, 41)] X w12 (fun o X1 v1 => X1 = X ∧ P15 o v1) ∧ ∀ (w17 : VV), P15 none w17 → i32 (x4 + 1) ∧ Ex mX10_markEarlierSteps d 24 [(2, 0), (0, a1), (0, x2), (2, x3), (0, (x4 + 1))] [] X w17 mc ms Q))))) : Ex mX10_markEarlierSteps d 24 [(2, 0), (0, a1), (0, x2), (2, x3), (0, x4)] [] X v mc ms Q := by
  refine x_li32 (i := 1) rfl (fun ha1 => ?_)
  have F := F ha1
  refine x_li32 (i := 2) rfl (fun hx2 => ?_)
  have F := F hx2
  refine x_li32 (i := 4) rfl (fun hx4 => ?_)
  have F := F hx4
  refine x_iload dX10_markEarlierSteps_24 rfl ?_
  refine x_aload_n dX10_markEarlierSteps_26 rfl ?_
  obtain ⟨hs5, hr5, F⟩ := F
  obtain ⟨P6, hC, F⟩ := F
  refine x_inv dX10_markEarlierSteps_27 mlX10_150 hC hs5 (Nat.le_of_ble_eq_true rfl) hr5 rfl rfl (by omega) (Nat.zero_le _) (Nat.zero_le _) (Nat.le_of_ble_eq_true rfl) (fun o1 Y9 w8 ht hP => ?_)
  obtain ⟨r7, rfl⟩ : ∃ i, o1 = some (0, i) := ht
  obtain ⟨hX, hP⟩ := hP
  have hX := Eq.symm hX
  subst hX
  have F := F r7 w8 hP
  refine x_icmp_ge 69 dX10_markEarlierSteps_30 rfl (fun hc => ?_) (fun hc => ?_)
  · have F := F.1 hc
    obtain ⟨hz, F⟩ := F
    refine x_iinc [(2, 0), (0, a1), (0, (x2 + (-1))), (2, x3), (0, x4)] dX10_markEarlierSteps_69 rfl rfl (Nat.le_of_ble_eq_true rfl) hz ?_
    refine x_goto 4 dX10_markEarlierSteps_72 rfl ?_
    exact x_less [(2, 0), (0, a1), (0, (x2 + (-1))), (3, 0), (3, 0)] ⟨Or.inr rfl, ⟨Or.inr rfl, ⟨Or.inr rfl, ⟨Or.inl rfl, ⟨Or.inl rfl, trivial⟩⟩⟩⟩⟩ F
  · have F := F.2 hc
    refine x_aload_n dX10_markEarlierSteps_33 rfl ?_
    refine x_getr (r' := 41) flX10_61 dX10_markEarlierSteps_34 (sW0 hW) (gW0 hW) (rW0_8 hW) rfl (Nat.le_of_ble_eq_true rfl) ?_
    refine x_iload_n dX10_markEarlierSteps_37 rfl ?_
    refine x_bipush dX10_markEarlierSteps_38 kb_8 (i32_of rfl) ?_
    obtain ⟨hz, F⟩ := F
    refine x_imul dX10_markEarlierSteps_40 hz ?_
    refine x_iload dX10_markEarlierSteps_41 rfl ?_
    refine x_si32 (i := 1) rfl (fun hk1 => ?_)
    obtain ⟨hz, F⟩ := F
    have hz := hz hk1
    refine x_iadd dX10_markEarlierSteps_43 hz ?_
    obtain ⟨P10, hC, F⟩ := F
    refine x_inv dX10_markEarlierSteps_44 mlX10_289 hC (sW41 hW) (Nat.le_of_ble_eq_true rfl) (gW41 hW) rfl rfl (by omega) (Nat.zero_le _) (Nat.zero_le _) (Nat.le_of_ble_eq_true rfl) (fun o1 Y13 w12 ht hP => ?_)
    obtain ⟨r11, rfl⟩ : ∃ i, o1 = some (0, i) := ht
    obtain ⟨hX, hP⟩ := hP
    have hX := Eq.symm hX
    subst hX
    have F := F r11 w12 hP
    refine x_if_eq 63 dX10_markEarlierSteps_47 rfl (fun hc => ?_) (fun hc => ?_)
    · have F := F.1 hc
      obtain ⟨hz, F⟩ := F
      refine x_iinc [(2, 0), (0, a1), (0, x2), (2, x3), (0, (x4 + 1))] dX10_markEarlierSteps_63 rfl rfl (Nat.le_of_ble_eq_true rfl) hz ?_
      refine x_goto 24 dX10_markEarlierSteps_66 rfl ?_
      exact F
    · have F := F.2 hc
      refine x_aload_n dX10_markEarlierSteps_50 rfl ?_
      refine x_getr (r' := (X.2 x3 3)) flX10_179 dX10_markEarlierSteps_51 hs5 hr5 rfl rfl (Nat.le_of_ble_eq_true rfl) ?_
      refine x_iload dX10_markEarlierSteps_54 rfl ?_
      refine x_aload_n dX10_markEarlierSteps_56 rfl ?_
      refine x_getr (r' := 41) flX10_61 dX10_markEarlierSteps_57 (sW0 hW) (gW0 hW) (rW0_8 hW) rfl (Nat.le_of_ble_eq_true rfl) ?_
      obtain ⟨hs14, hr14, F⟩ := F
      obtain ⟨P15, hC, F⟩ := F
      refine x_inv dX10_markEarlierSteps_60 mlX10_183 hC hs14 (Nat.le_of_ble_eq_true rfl) hr14 rfl rfl (by omega) (Nat.zero_le _) (Nat.zero_le _) (Nat.le_of_ble_eq_true rfl) (fun o1 Y18 w17 ht hP => ?_)
      obtain rfl : o1 = none := ht
      obtain ⟨hX, hP⟩ := hP
      have hX := Eq.symm hX
      subst hX
      have F := F w17 hP
      obtain ⟨hz, F⟩ := F
      refine x_iinc [(2, 0), (0, a1), (0, x2), (2, x3), (0, (x4 + 1))] dX10_markEarlierSteps_63 rfl rfl (Nat.le_of_ble_eq_true rfl) hz ?_
      refine x_goto 24 dX10_markEarlierSteps_66 rfl ?_
      exact F

set_option maxRecDepth 100000 in
set_option maxHeartbeats 4000000 in
theorem bX10_markTouched_0 {d mc ms : Nat} {X : XX} {v : VV} {Q : QQ} (a1 : Int) (a2 : Int) (hd : 3 ≤ d) (hW : SW X) (F : i32 a1 → i32 a2 → ∃ P1 : Option AV → VV → Prop, Con mX2_clear 0 0 0 [(2, 41)] X v (fun o X1 v1 => X1 = X ∧ P1 o v1) ∧ ∀ (w3 : VV), P1 none w3 → i32 (a1 * 8) ∧ (i32 (a1 * 8) → i32 ((a1 * 8) + a2)) ∧ ∃ P5 : Option AV → VV → Prop, Con mX2_add 0 0 0 [(2, 41), (0, ((a1 * 8) + a2))] X w3 (fun o X1 v1 => X1 = X ∧ P5 o v1) ∧ ∀ (w7 : VV), P5 none w7 → i32 (a1 + 1) ∧ Ex mX10_markTouched d 24 [(2, 0), (0, a1), (0, a2), (0, (a1 + 1)), (3, 0), (3, 0), (3, 0)] [] X w7 mc ms Q) : Ex mX10_markTouched d 0 [(2, 0), (0, a1), (0, a2), (3, 0), (3, 0), (3, 0), (3, 0)] [] X v mc ms Q := by
  refine x_li32 (i := 1) rfl (fun ha1 => ?_)
  have F := F ha1
  refine x_li32 (i := 2) rfl (fun ha2 => ?_)
  have F := F ha2
  refine x_aload_n dX10_markTouched_0 rfl ?_
  refine x_getr (r' := 41) flX10_61 dX10_markTouched_1 (sW0 hW) (gW0 hW) (rW0_8 hW) rfl (Nat.le_of_ble_eq_true rfl) ?_
  obtain ⟨P1, hC, F⟩ := F
  refine x_inv dX10_markTouched_4 mlX10_176 hC (sW41 hW) (Nat.le_of_ble_eq_true rfl) (gW41 hW) rfl rfl (by omega) (Nat.zero_le _) (Nat.zero_le _) (Nat.le_of_ble_eq_true rfl) (fun o1 Y4 w3 ht hP => ?_)
  obtain rfl : o1 = none := ht
  obtain ⟨hX, hP⟩ := hP
  have hX := Eq.symm hX
  subst hX
  have F := F w3 hP
  refine x_aload_n dX10_markTouched_7 rfl ?_
  refine x_getr (r' := 41) flX10_61 dX10_markTouched_8 (sW0 hW) (gW0 hW) (rW0_8 hW) rfl (Nat.le_of_ble_eq_true rfl) ?_
  refine x_iload_n dX10_markTouched_11 rfl ?_
  refine x_bipush dX10_markTouched_12 kb_8 (i32_of rfl) ?_
  obtain ⟨hz, F⟩ := F
  refine x_imul dX10_markTouched_14 hz ?_
  refine x_iload_n dX10_markTouched_15 rfl ?_
  refine x_si32 (i := 1) rfl (fun hk1 => ?_)
  obtain ⟨hz, F⟩ := F
  have hz := hz hk1
  refine x_iadd dX10_markTouched_16 hz ?_
  obtain ⟨P5, hC, F⟩ := F
  refine x_inv dX10_markTouched_17 mlX10_290 hC (sW41 hW) (Nat.le_of_ble_eq_true rfl) (gW41 hW) rfl rfl (by omega) (Nat.zero_le _) (Nat.zero_le _) (Nat.le_of_ble_eq_true rfl) (fun o1 Y8 w7 ht hP => ?_)
  obtain rfl : o1 = none := ht
  obtain ⟨hX, hP⟩ := hP
  have hX := Eq.symm hX
  subst hX
  have F := F w7 hP
  refine x_iload_n dX10_markTouched_20 rfl ?_
  refine x_iconst dX10_markTouched_21 rfl (i32_of rfl) ?_
  obtain ⟨hz, F⟩ := F
  refine x_iadd dX10_markTouched_22 hz ?_
  refine x_istore_n [(2, 0), (0, a1), (0, a2), (0, (a1 + 1)), (3, 0), (3, 0), (3, 0)] dX10_markTouched_23 rfl (Nat.le_of_ble_eq_true rfl) ?_
  exact F

set_option maxRecDepth 100000 in
set_option maxHeartbeats 4000000 in
theorem bX10_markTouched_24 {d mc ms : Nat} {X : XX} {v : VV} {Q : QQ} (a1 : Int) (a2 : Int) (x3 : Int) (hd : 3 ≤ d) (hW : SW X) (F : i32 a1 → i32 a2 → i32 x3 → (((16 ≤ x3) → Q none X v) ∧ ((x3 < 16) → ∃ P9 : Option AV → VV → Prop, Con mX10_tableAt 0 0 0 [(2, 0), (0, x3)] X v (fun o X1 v1 => X1 = X ∧ P9 o v1) ∧ ∀ (r10 : Int) (w11 : VV), P9 (some (2, r10)) w11 → (((¬ r10 = -1) → X.1.2 r10 = (7, 0) ∧ (0 ≤ r10 ∧ r10 < X.1.1) ∧ X.1.2 (X.2 r10 3) = (5, 0) ∧ (0 ≤ (X.2 r10 3) ∧ (X.2 r10 3) < X.1.1) ∧ ∃ P15 : Option AV → VV → Prop, Con mX5_usesMarked 2 0 0 [(2, (X.2 r10 3)), (0, 6), (2, 41)] X w11 (fun o X1 v1 => X1 = X ∧ P15 o v1) ∧ ∀ (r16 : Int) (w17 : VV), P15 (some (0, r16)) w17 → Ex mX10_markTouched d 64 [(2, 0), (0, a1), (0, a2), (0, x3), (2, r10), (0, r16), (0, 0)] [] X w17 mc ms Q) ∧ ((r10 = -1) → i32 (x3 + 1) ∧ Ex mX10_markTouched d 24 [(2, 0), (0, a1), (0, a2), (0, (x3 + 1)), (3, 0), (3, 0), (3, 0)] [] X w11 mc ms Q))))) : Ex mX10_markTouched d 24 [(2, 0), (0, a1), (0, a2), (0, x3), (3, 0), (3, 0), (3, 0)] [] X v mc ms Q := by
  refine x_li32 (i := 1) rfl (fun ha1 => ?_)
  have F := F ha1
  refine x_li32 (i := 2) rfl (fun ha2 => ?_)
  have F := F ha2
  refine x_li32 (i := 3) rfl (fun hx3 => ?_)
  have F := F hx3
  refine x_iload_n dX10_markTouched_24 rfl ?_
  refine x_bipush dX10_markTouched_25 kb_16 (i32_of rfl) ?_
  refine x_icmp_ge 122 dX10_markTouched_27 rfl (fun hc => ?_) (fun hc => ?_)
  · have F := F.1 hc
    exact x_ret none rfl ⟨dX10_markTouched_122, rfl⟩ F
  · have F := F.2 hc
    refine x_aload_n dX10_markTouched_30 rfl ?_
    refine x_iload_n dX10_markTouched_31 rfl ?_
    obtain ⟨P9, hC, F⟩ := F
    refine x_inv dX10_markTouched_32 mlX10_143 hC (sW0 hW) (Nat.le_of_ble_eq_true rfl) (gW0 hW) rfl rfl (by omega) (Nat.zero_le _) (Nat.zero_le _) (Nat.le_of_ble_eq_true rfl) (fun o1 Y12 w11 ht hP => ?_)
    obtain ⟨r10, rfl⟩ : ∃ i, o1 = some (2, i) := ht
    obtain ⟨hX, hP⟩ := hP
    have hX := Eq.symm hX
    subst hX
    have F := F r10 w11 hP
    refine x_astore [(2, 0), (0, a1), (0, a2), (0, x3), (2, r10), (3, 0), (3, 0)] dX10_markTouched_35 rfl (Nat.le_of_ble_eq_true rfl) ?_
    refine x_aload dX10_markTouched_37 rfl ?_
    refine x_ifnonnull 45 dX10_markTouched_39 rfl (fun hc => ?_) (fun hc => ?_)
    · have F := F.1 hc
      refine x_aload dX10_markTouched_45 rfl ?_
      obtain ⟨hs13, hr13, F⟩ := F
      refine x_getr (r' := (X.2 r10 3)) flX10_179 dX10_markTouched_47 hs13 hr13 rfl rfl (Nat.le_of_ble_eq_true rfl) ?_
      refine x_bipush dX10_markTouched_50 kb_6 (i32_of rfl) ?_
      refine x_aload_n dX10_markTouched_52 rfl ?_
      refine x_getr (r' := 41) flX10_61 dX10_markTouched_53 (sW0 hW) (gW0 hW) (rW0_8 hW) rfl (Nat.le_of_ble_eq_true rfl) ?_
      obtain ⟨hs14, hr14, F⟩ := F
      obtain ⟨P15, hC, F⟩ := F
      refine x_inv dX10_markTouched_56 mlX10_291 hC hs14 (Nat.le_of_ble_eq_true rfl) hr14 rfl rfl (by omega) (Nat.zero_le _) (Nat.zero_le _) (Nat.le_of_ble_eq_true rfl) (fun o1 Y18 w17 ht hP => ?_)
      obtain ⟨r16, rfl⟩ : ∃ i, o1 = some (0, i) := ht
      obtain ⟨hX, hP⟩ := hP
      have hX := Eq.symm hX
      subst hX
      have F := F r16 w17 hP
      refine x_istore [(2, 0), (0, a1), (0, a2), (0, x3), (2, r10), (0, r16), (3, 0)] dX10_markTouched_59 rfl (Nat.le_of_ble_eq_true rfl) ?_
      refine x_iconst dX10_markTouched_61 rfl (i32_of rfl) ?_
      refine x_istore [(2, 0), (0, a1), (0, a2), (0, x3), (2, r10), (0, r16), (0, 0)] dX10_markTouched_62 rfl (Nat.le_of_ble_eq_true rfl) ?_
      exact F
    · have F := F.2 hc
      refine x_goto 116 dX10_markTouched_42 rfl ?_
      obtain ⟨hz, F⟩ := F
      refine x_iinc [(2, 0), (0, a1), (0, a2), (0, (x3 + 1)), (2, r10), (3, 0), (3, 0)] dX10_markTouched_116 rfl rfl (Nat.le_of_ble_eq_true rfl) hz ?_
      refine x_goto 24 dX10_markTouched_119 rfl ?_
      exact x_less [(2, 0), (0, a1), (0, a2), (0, (x3 + 1)), (3, 0), (3, 0), (3, 0)] ⟨Or.inr rfl, ⟨Or.inr rfl, ⟨Or.inr rfl, ⟨Or.inr rfl, ⟨Or.inl rfl, ⟨Or.inr rfl, ⟨Or.inr rfl, trivial⟩⟩⟩⟩⟩⟩⟩ F

set_option maxRecDepth 100000 in
set_option maxHeartbeats 4000000 in
theorem bX10_markTouched_64 {d mc ms : Nat} {X : XX} {v : VV} {Q : QQ} (a1 : Int) (a2 : Int) (x3 : Int) (x4 : Int) (x5 : Int) (x6 : Int) (hd : 3 ≤ d) (hW : SW X) (F : i32 a1 → i32 a2 → i32 x3 → i32 x5 → i32 x6 → X.1.2 x4 = (7, 0) ∧ (0 ≤ x4 ∧ x4 < X.1.1) ∧ ∃ P20 : Option AV → VV → Prop, Con mX7_columnCount 0 0 0 [(2, x4)] X v (fun o X1 v1 => X1 = X ∧ P20 o v1) ∧ ∀ (r21 : Int) (w22 : VV), P20 (some (0, r21)) w22 → (((r21 ≤ x6) → i32 (x3 + 1) ∧ Ex mX10_markTouched d 24 [(2, 0), (0, a1), (0, a2), (0, (x3 + 1)), (3, 0), (3, 0), (3, 0)] [] X w22 mc ms Q) ∧ ((x6 < r21) → (((¬ x5 = 0) → Ex mX10_markTouched d 96 [(2, 0), (0, a1), (0, a2), (0, x3), (2, x4), (0, x5), (0, x6)] [] X w22 mc ms Q) ∧ ((x5 = 0) → X.1.2 (X.2 x4 3) = (5, 0) ∧ (0 ≤ (X.2 x4 3) ∧ (X.2 x4 3) < X.1.1) ∧ ∃ P25 : Option AV → VV → Prop, Con mX5_usesMarked 2 0 0 [(2, (X.2 x4 3)), (0, x6), (2, 41)] X w22 (fun o X1 v1 => X1 = X ∧ P25 o v1) ∧ ∀ (r26 : Int) (w27 : VV), P25 (some (0, r26)) w27 → (((r26 = 0) → i32 (x6 + 1) ∧ Ex mX10_markTouched d 64 [(2, 0), (0, a1), (0, a2), (0, x3), (2, x4), (0, x5), (0, (x6 + 1))] [] X w27 mc ms Q) ∧ ((¬ r26 = 0) → Ex mX10_markTouched d 96 [(2, 0), (0, a1), (0, a2), (0, x3), (2, x4), (0, x5), (0, x6)] [] X w27 mc ms Q))))))) : Ex mX10_markTouched d 64 [(2, 0), (0, a1), (0, a2), (0, x3), (2, x4), (0, x5), (0, x6)] [] X v mc ms Q := by
  refine x_li32 (i := 1) rfl (fun ha1 => ?_)
  have F := F ha1
  refine x_li32 (i := 2) rfl (fun ha2 => ?_)
  have F := F ha2
  refine x_li32 (i := 3) rfl (fun hx3 => ?_)
  have F := F hx3
  refine x_li32 (i := 5) rfl (fun hx5 => ?_)
  have F := F hx5
  refine x_li32 (i := 6) rfl (fun hx6 => ?_)
  have F := F hx6
  refine x_iload dX10_markTouched_64 rfl ?_
  refine x_aload dX10_markTouched_66 rfl ?_
  obtain ⟨hs19, hr19, F⟩ := F
  obtain ⟨P20, hC, F⟩ := F
  refine x_inv dX10_markTouched_68 mlX10_150 hC hs19 (Nat.le_of_ble_eq_true rfl) hr19 rfl rfl (by omega) (Nat.zero_le _) (Nat.zero_le _) (Nat.le_of_ble_eq_true rfl) (fun o1 Y23 w22 ht hP => ?_)
  obtain ⟨r21, rfl⟩ : ∃ i, o1 = some (0, i) := ht
  obtain ⟨hX, hP⟩ := hP
  have hX := Eq.symm hX
  subst hX
  have F := F r21 w22 hP
  refine x_icmp_ge 116 dX10_markTouched_71 rfl (fun hc => ?_) (fun hc => ?_)
  · have F := F.1 hc
    obtain ⟨hz, F⟩ := F
    refine x_iinc [(2, 0), (0, a1), (0, a2), (0, (x3 + 1)), (2, x4), (0, x5), (0, x6)] dX10_markTouched_116 rfl rfl (Nat.le_of_ble_eq_true rfl) hz ?_
    refine x_goto 24 dX10_markTouched_119 rfl ?_
    exact x_less [(2, 0), (0, a1), (0, a2), (0, (x3 + 1)), (3, 0), (3, 0), (3, 0)] ⟨Or.inr rfl, ⟨Or.inr rfl, ⟨Or.inr rfl, ⟨Or.inr rfl, ⟨Or.inl rfl, ⟨Or.inl rfl, ⟨Or.inl rfl, trivial⟩⟩⟩⟩⟩⟩⟩ F
  · have F := F.2 hc
    refine x_iload dX10_markTouched_74 rfl ?_
    refine x_if_ne 96 dX10_markTouched_76 rfl (fun hc => ?_) (fun hc => ?_)
    · have F := F.1 hc
      exact F
    · have F := F.2 hc
      refine x_aload dX10_markTouched_79 rfl ?_
      refine x_getr (r' := (X.2 x4 3)) flX10_179 dX10_markTouched_81 hs19 hr19 rfl rfl (Nat.le_of_ble_eq_true rfl) ?_
      refine x_iload dX10_markTouched_84 rfl ?_
      refine x_aload_n dX10_markTouched_86 rfl ?_
      refine x_getr (r' := 41) flX10_61 dX10_markTouched_87 (sW0 hW) (gW0 hW) (rW0_8 hW) rfl (Nat.le_of_ble_eq_true rfl) ?_
      obtain ⟨hs24, hr24, F⟩ := F
      obtain ⟨P25, hC, F⟩ := F
      refine x_inv dX10_markTouched_90 mlX10_291 hC hs24 (Nat.le_of_ble_eq_true rfl) hr24 rfl rfl (by omega) (Nat.zero_le _) (Nat.zero_le _) (Nat.le_of_ble_eq_true rfl) (fun o1 Y28 w27 ht hP => ?_)
      obtain ⟨r26, rfl⟩ : ∃ i, o1 = some (0, i) := ht
      obtain ⟨hX, hP⟩ := hP
      have hX := Eq.symm hX
      subst hX
      have F := F r26 w27 hP
      refine x_if_eq 110 dX10_markTouched_93 rfl (fun hc => ?_) (fun hc => ?_)
      · have F := F.1 hc
        obtain ⟨hz, F⟩ := F
        refine x_iinc [(2, 0), (0, a1), (0, a2), (0, x3), (2, x4), (0, x5), (0, (x6 + 1))] dX10_markTouched_110 rfl rfl (Nat.le_of_ble_eq_true rfl) hz ?_
        refine x_goto 64 dX10_markTouched_113 rfl ?_
        exact F
      · have F := F.2 hc
        exact F

set_option maxRecDepth 100000 in
set_option maxHeartbeats 4000000 in
theorem bX10_markTouched_96 {d mc ms : Nat} {X : XX} {v : VV} {Q : QQ} (a1 : Int) (a2 : Int) (x3 : Int) (x4 : Int) (x5 : Int) (x6 : Int) (hd : 3 ≤ d) (hW : SW X) (F : i32 a1 → i32 a2 → i32 x3 → i32 x5 → i32 x6 → i32 (x3 * 8) ∧ (i32 (x3 * 8) → i32 ((x3 * 8) + x6)) ∧ ∃ P29 : Option AV → VV → Prop, Con mX2_add 0 0 0 [(2, 41), (0, ((x3 * 8) + x6))] X v (fun o X1 v1 => X1 = X ∧ P29 o v1) ∧ ∀ (w31 : VV), P29 none w31 → i32 (x6 + 1) ∧ Ex mX10_markTouched d 64 [(2, 0), (0, a1), (0, a2), (0, x3), (2, x4), (0, x5), (0, (x6 + 1))] [] X w31 mc ms Q) : Ex mX10_markTouched d 96 [(2, 0), (0, a1), (0, a2), (0, x3), (2, x4), (0, x5), (0, x6)] [] X v mc ms Q := by
  refine x_li32 (i := 1) rfl (fun ha1 => ?_)
  have F := F ha1
  refine x_li32 (i := 2) rfl (fun ha2 => ?_)
  have F := F ha2
  refine x_li32 (i := 3) rfl (fun hx3 => ?_)
  have F := F hx3
  refine x_li32 (i := 5) rfl (fun hx5 => ?_)
  have F := F hx5
  refine x_li32 (i := 6) rfl (fun hx6 => ?_)
  have F := F hx6
  refine x_aload_n dX10_markTouched_96 rfl ?_
  refine x_getr (r' := 41) flX10_61 dX10_markTouched_97 (sW0 hW) (gW0 hW) (rW0_8 hW) rfl (Nat.le_of_ble_eq_true rfl) ?_
  refine x_iload_n dX10_markTouched_100 rfl ?_
  refine x_bipush dX10_markTouched_101 kb_8 (i32_of rfl) ?_
  obtain ⟨hz, F⟩ := F
  refine x_imul dX10_markTouched_103 hz ?_
  refine x_iload dX10_markTouched_104 rfl ?_
  refine x_si32 (i := 1) rfl (fun hk1 => ?_)
  obtain ⟨hz, F⟩ := F
  have hz := hz hk1
  refine x_iadd dX10_markTouched_106 hz ?_
  obtain ⟨P29, hC, F⟩ := F
  refine x_inv dX10_markTouched_107 mlX10_290 hC (sW41 hW) (Nat.le_of_ble_eq_true rfl) (gW41 hW) rfl rfl (by omega) (Nat.zero_le _) (Nat.zero_le _) (Nat.le_of_ble_eq_true rfl) (fun o1 Y32 w31 ht hP => ?_)
  obtain rfl : o1 = none := ht
  obtain ⟨hX, hP⟩ := hP
  have hX := Eq.symm hX
  subst hX
  have F := F w31 hP
  obtain ⟨hz, F⟩ := F
  refine x_iinc [(2, 0), (0, a1), (0, a2), (0, x3), (2, x4), (0, x5), (0, (x6 + 1))] dX10_markTouched_110 rfl rfl (Nat.le_of_ble_eq_true rfl) hz ?_
  refine x_goto 64 dX10_markTouched_113 rfl ?_
  exact F

set_option maxRecDepth 100000 in
set_option maxHeartbeats 4000000 in
theorem bX10_findMarked_0 {d mc ms : Nat} {X : XX} {v : VV} {Q : QQ} (a1 : Int) (hd : 2 ≤ d) (hW : SW X) (F : i32 a1 → ∃ P1 : Option AV → VV → Prop, Con mX6_cutTo 0 0 0 [(2, 43), (0, 0)] X v (fun o X1 v1 => X1 = X ∧ P1 o v1) ∧ ∀ (w3 : VV), P1 none w3 → Ex mX10_findMarked d 10 [(2, 0), (0, a1), (0, 0), (3, 0)] [] X w3 mc ms Q) : Ex mX10_findMarked d 0 [(2, 0), (0, a1), (3, 0), (3, 0)] [] X v mc ms Q := by
  refine x_li32 (i := 1) rfl (fun ha1 => ?_)
  have F := F ha1
  refine x_aload_n dX10_findMarked_0 rfl ?_
  refine x_getr (r' := 43) flX10_65 dX10_findMarked_1 (sW0 hW) (gW0 hW) (rW0_9 hW) rfl (Nat.le_of_ble_eq_true rfl) ?_
  refine x_iconst dX10_findMarked_4 rfl (i32_of rfl) ?_
  obtain ⟨P1, hC, F⟩ := F
  refine x_inv dX10_findMarked_5 mlX10_82 hC (sW43 hW) (Nat.le_of_ble_eq_true rfl) (gW43 hW) rfl rfl (by omega) (Nat.zero_le _) (Nat.zero_le _) (Nat.le_of_ble_eq_true rfl) (fun o1 Y4 w3 ht hP => ?_)
  obtain rfl : o1 = none := ht
  obtain ⟨hX, hP⟩ := hP
  have hX := Eq.symm hX
  subst hX
  have F := F w3 hP
  refine x_iconst dX10_findMarked_8 rfl (i32_of rfl) ?_
  refine x_istore_n [(2, 0), (0, a1), (0, 0), (3, 0)] dX10_findMarked_9 rfl (Nat.le_of_ble_eq_true rfl) ?_
  exact F

set_option maxRecDepth 100000 in
set_option maxHeartbeats 4000000 in
theorem bX10_findMarked_10 {d mc ms : Nat} {X : XX} {v : VV} {Q : QQ} (a1 : Int) (x2 : Int) (hd : 2 ≤ d) (hW : SW X) (F : i32 a1 → i32 x2 → (((128 ≤ x2) → ∃ P5 : Option AV → VV → Prop, Con mX6_size 0 0 0 [(2, 43)] X v (fun o X1 v1 => X1 = X ∧ P5 o v1) ∧ ∀ (r6 : Int) (w7 : VV), P5 (some (0, r6)) w7 → Q (some (0, r6)) X w7) ∧ ((x2 < 128) → (0 ≤ x2) ∧ ∃ P9 : Option AV → VV → Prop, Con mX10_tableAt 0 0 0 [(2, 0), (0, (x2 / 8))] X v (fun o X1 v1 => X1 = X ∧ P9 o v1) ∧ ∀ (r10 : Int) (w11 : VV), P9 (some (2, r10)) w11 → (((r10 = -1) → i32 (x2 + 1) ∧ Ex mX10_findMarked d 10 [(2, 0), (0, a1), (0, (x2 + 1)), (3, 0)] [] X w11 mc ms Q) ∧ ((¬ r10 = -1) → (((a1 = 0) → Ex mX10_findMarked d 44 [(2, 0), (0, a1), (0, x2), (2, r10)] [] X w11 mc ms Q) ∧ ((¬ a1 = 0) → X.1.2 r10 = (7, 0) ∧ (0 ≤ r10 ∧ r10 < X.1.1) ∧ ((((w11 r10 5) = 0) → Ex mX10_findMarked d 44 [(2, 0), (0, a1), (0, x2), (2, r10)] [] X w11 mc ms Q) ∧ ((¬ (w11 r10 5) = 0) → i32 (x2 + 1) ∧ Ex mX10_findMarked d 10 [(2, 0), (0, a1), (0, (x2 + 1)), (3, 0)] [] X w11 mc ms Q))))))))) : Ex mX10_findMarked d 10 [(2, 0), (0, a1), (0, x2), (3, 0)] [] X v mc ms Q := by
  refine x_li32 (i := 1) rfl (fun ha1 => ?_)
  have F := F ha1
  refine x_li32 (i := 2) rfl (fun hx2 => ?_)
  have F := F hx2
  refine x_iload_n dX10_findMarked_10 rfl ?_
  refine x_sipush dX10_findMarked_11 ks_128 (i32_of rfl) ?_
  refine x_icmp_ge 69 dX10_findMarked_14 rfl (fun hc => ?_) (fun hc => ?_)
  · have F := F.1 hc
    refine x_aload_n dX10_findMarked_69 rfl ?_
    refine x_getr (r' := 43) flX10_65 dX10_findMarked_70 (sW0 hW) (gW0 hW) (rW0_9 hW) rfl (Nat.le_of_ble_eq_true rfl) ?_
    obtain ⟨P5, hC, F⟩ := F
    refine x_inv dX10_findMarked_73 mlX10_75 hC (sW43 hW) (Nat.le_of_ble_eq_true rfl) (gW43 hW) rfl rfl (by omega) (Nat.zero_le _) (Nat.zero_le _) (Nat.le_of_ble_eq_true rfl) (fun o1 Y8 w7 ht hP => ?_)
    obtain ⟨r6, rfl⟩ : ∃ i, o1 = some (0, i) := ht
    obtain ⟨hX, hP⟩ := hP
    have hX := Eq.symm hX
    subst hX
    have F := F r6 w7 hP
    exact x_ret (some (0, r6)) rfl ⟨dX10_findMarked_76, Or.inl rfl⟩ F
  · have F := F.2 hc
    refine x_aload_n dX10_findMarked_17 rfl ?_
    refine x_iload_n dX10_findMarked_18 rfl ?_
    refine x_bipush dX10_findMarked_19 kb_8 (i32_of rfl) ?_
    obtain ⟨hz, F⟩ := F
    refine x_si32 (i := 0) rfl (fun hk0 => ?_)
    refine x_si32 (i := 1) rfl (fun hk1 => ?_)
    refine x_idiv (z := (x2 / 8)) dX10_findMarked_21 (idiv_ne hk0 (by decide)) (idiv_nn hk1 hk0 hz (by decide)) (idiv_ok hk1 hk0 hz (by decide)) ?_
    obtain ⟨P9, hC, F⟩ := F
    refine x_inv dX10_findMarked_22 mlX10_143 hC (sW0 hW) (Nat.le_of_ble_eq_true rfl) (gW0 hW) rfl rfl (by omega) (Nat.zero_le _) (Nat.zero_le _) (Nat.le_of_ble_eq_true rfl) (fun o1 Y12 w11 ht hP => ?_)
    obtain ⟨r10, rfl⟩ : ∃ i, o1 = some (2, i) := ht
    obtain ⟨hX, hP⟩ := hP
    have hX := Eq.symm hX
    subst hX
    have F := F r10 w11 hP
    refine x_astore_n [(2, 0), (0, a1), (0, x2), (2, r10)] dX10_findMarked_25 rfl (Nat.le_of_ble_eq_true rfl) ?_
    refine x_aload_n dX10_findMarked_26 rfl ?_
    refine x_ifnull 63 dX10_findMarked_27 rfl (fun hc => ?_) (fun hc => ?_)
    · have F := F.1 hc
      obtain ⟨hz, F⟩ := F
      refine x_iinc [(2, 0), (0, a1), (0, (x2 + 1)), (2, r10)] dX10_findMarked_63 rfl rfl (Nat.le_of_ble_eq_true rfl) hz ?_
      refine x_goto 10 dX10_findMarked_66 rfl ?_
      exact x_less [(2, 0), (0, a1), (0, (x2 + 1)), (3, 0)] ⟨Or.inr rfl, ⟨Or.inr rfl, ⟨Or.inr rfl, ⟨Or.inl rfl, trivial⟩⟩⟩⟩ F
    · have F := F.2 hc
      refine x_iload_n dX10_findMarked_30 rfl ?_
      refine x_if_eq 44 dX10_findMarked_31 rfl (fun hc => ?_) (fun hc => ?_)
      · have F := F.1 hc
        exact F
      · have F := F.2 hc
        refine x_aload_n dX10_findMarked_34 rfl ?_
        obtain ⟨hs13, hr13, F⟩ := F
        refine x_geti (e := (w11 r10 5)) 0 flX10_147 dX10_findMarked_35 hs13 hr13 rfl rfl (Nat.le_of_ble_eq_true rfl) (tagn2 rfl) ?_
        refine x_if_eq 44 dX10_findMarked_38 rfl (fun hc => ?_) (fun hc => ?_)
        · have F := F.1 hc
          exact F
        · have F := F.2 hc
          refine x_goto 63 dX10_findMarked_41 rfl ?_
          obtain ⟨hz, F⟩ := F
          refine x_iinc [(2, 0), (0, a1), (0, (x2 + 1)), (2, r10)] dX10_findMarked_63 rfl rfl (Nat.le_of_ble_eq_true rfl) hz ?_
          refine x_goto 10 dX10_findMarked_66 rfl ?_
          exact x_less [(2, 0), (0, a1), (0, (x2 + 1)), (3, 0)] ⟨Or.inr rfl, ⟨Or.inr rfl, ⟨Or.inr rfl, ⟨Or.inl rfl, trivial⟩⟩⟩⟩ F

set_option maxRecDepth 100000 in
set_option maxHeartbeats 4000000 in
theorem bX10_findMarked_44 {d mc ms : Nat} {X : XX} {v : VV} {Q : QQ} (a1 : Int) (x2 : Int) (x3 : Int) (hd : 2 ≤ d) (hW : SW X) (F : i32 a1 → i32 x2 → ∃ P14 : Option AV → VV → Prop, Con mX2_has 1 0 0 [(2, 41), (0, x2)] X v (fun o X1 v1 => X1 = X ∧ P14 o v1) ∧ ∀ (r15 : Int) (w16 : VV), P14 (some (0, r15)) w16 → (((r15 = 0) → i32 (x2 + 1) ∧ Ex mX10_findMarked d 10 [(2, 0), (0, a1), (0, (x2 + 1)), (3, 0)] [] X w16 mc ms Q) ∧ ((¬ r15 = 0) → ∃ P18 : Option AV → VV → Prop, Con mX6_add 0 0 0 [(2, 43), (0, x2)] X w16 (fun o X1 v1 => X1 = X ∧ P18 o v1) ∧ ∀ (w20 : VV), P18 none w20 → i32 (x2 + 1) ∧ Ex mX10_findMarked d 10 [(2, 0), (0, a1), (0, (x2 + 1)), (3, 0)] [] X w20 mc ms Q))) : Ex mX10_findMarked d 44 [(2, 0), (0, a1), (0, x2), (2, x3)] [] X v mc ms Q := by
  refine x_li32 (i := 1) rfl (fun ha1 => ?_)
  have F := F ha1
  refine x_li32 (i := 2) rfl (fun hx2 => ?_)
  have F := F hx2
  refine x_aload_n dX10_findMarked_44 rfl ?_
  refine x_getr (r' := 41) flX10_61 dX10_findMarked_45 (sW0 hW) (gW0 hW) (rW0_8 hW) rfl (Nat.le_of_ble_eq_true rfl) ?_
  refine x_iload_n dX10_findMarked_48 rfl ?_
  obtain ⟨P14, hC, F⟩ := F
  refine x_inv dX10_findMarked_49 mlX10_289 hC (sW41 hW) (Nat.le_of_ble_eq_true rfl) (gW41 hW) rfl rfl (by omega) (Nat.zero_le _) (Nat.zero_le _) (Nat.le_of_ble_eq_true rfl) (fun o1 Y17 w16 ht hP => ?_)
  obtain ⟨r15, rfl⟩ : ∃ i, o1 = some (0, i) := ht
  obtain ⟨hX, hP⟩ := hP
  have hX := Eq.symm hX
  subst hX
  have F := F r15 w16 hP
  refine x_if_eq 63 dX10_findMarked_52 rfl (fun hc => ?_) (fun hc => ?_)
  · have F := F.1 hc
    obtain ⟨hz, F⟩ := F
    refine x_iinc [(2, 0), (0, a1), (0, (x2 + 1)), (2, x3)] dX10_findMarked_63 rfl rfl (Nat.le_of_ble_eq_true rfl) hz ?_
    refine x_goto 10 dX10_findMarked_66 rfl ?_
    exact x_less [(2, 0), (0, a1), (0, (x2 + 1)), (3, 0)] ⟨Or.inr rfl, ⟨Or.inr rfl, ⟨Or.inr rfl, ⟨Or.inl rfl, trivial⟩⟩⟩⟩ F
  · have F := F.2 hc
    refine x_aload_n dX10_findMarked_55 rfl ?_
    refine x_getr (r' := 43) flX10_65 dX10_findMarked_56 (sW0 hW) (gW0 hW) (rW0_9 hW) rfl (Nat.le_of_ble_eq_true rfl) ?_
    refine x_iload_n dX10_findMarked_59 rfl ?_
    obtain ⟨P18, hC, F⟩ := F
    refine x_inv dX10_findMarked_60 mlX10_212 hC (sW43 hW) (Nat.le_of_ble_eq_true rfl) (gW43 hW) rfl rfl (by omega) (Nat.zero_le _) (Nat.zero_le _) (Nat.le_of_ble_eq_true rfl) (fun o1 Y21 w20 ht hP => ?_)
    obtain rfl : o1 = none := ht
    obtain ⟨hX, hP⟩ := hP
    have hX := Eq.symm hX
    subst hX
    have F := F w20 hP
    obtain ⟨hz, F⟩ := F
    refine x_iinc [(2, 0), (0, a1), (0, (x2 + 1)), (2, x3)] dX10_findMarked_63 rfl rfl (Nat.le_of_ble_eq_true rfl) hz ?_
    refine x_goto 10 dX10_findMarked_66 rfl ?_
    exact x_less [(2, 0), (0, a1), (0, (x2 + 1)), (3, 0)] ⟨Or.inr rfl, ⟨Or.inr rfl, ⟨Or.inr rfl, ⟨Or.inl rfl, trivial⟩⟩⟩⟩ F

set_option maxRecDepth 100000 in
set_option maxHeartbeats 4000000 in
theorem bX10_tryTypes_0 {d mc ms : Nat} {X : XX} {v : VV} {Q : QQ} (a1 : Int) (hd : 4 ≤ d) (hW : SW X) (F : i32 a1 → ∃ P1 : Option AV → VV → Prop, Con mX10_tableAt 0 0 0 [(2, 0), (0, a1)] X v (fun o X1 v1 => X1 = X ∧ P1 o v1) ∧ ∀ (r2 : Int) (w3 : VV), P1 (some (2, r2)) w3 → (((r2 = -1) → Q none X w3) ∧ ((¬ r2 = -1) → X.1.2 r2 = (7, 0) ∧ (0 ≤ r2 ∧ r2 < X.1.1) ∧ ∃ P6 : Option AV → VV → Prop, Con mX7_hasSelect 0 0 0 [(2, r2)] X w3 (fun o X1 v1 => X1 = X ∧ P6 o v1) ∧ ∀ (r7 : Int) (w8 : VV), P6 (some (0, r7)) w8 → (((¬ r7 = 0) → Ex mX10_tryTypes d 20 [(2, 0), (0, a1), (2, r2), (0, 0), (3, 0)] [] X w8 mc ms Q) ∧ ((r7 = 0) → Q none X w8))))) : Ex mX10_tryTypes d 0 [(2, 0), (0, a1), (3, 0), (3, 0), (3, 0)] [] X v mc ms Q := by
  refine x_li32 (i := 1) rfl (fun ha1 => ?_)
  have F := F ha1
  refine x_aload_n dX10_tryTypes_0 rfl ?_
  refine x_iload_n dX10_tryTypes_1 rfl ?_
  obtain ⟨P1, hC, F⟩ := F
  refine x_inv dX10_tryTypes_2 mlX10_143 hC (sW0 hW) (Nat.le_of_ble_eq_true rfl) (gW0 hW) rfl rfl (by omega) (Nat.zero_le _) (Nat.zero_le _) (Nat.le_of_ble_eq_true rfl) (fun o1 Y4 w3 ht hP => ?_)
  obtain ⟨r2, rfl⟩ : ∃ i, o1 = some (2, i) := ht
  obtain ⟨hX, hP⟩ := hP
  have hX := Eq.symm hX
  subst hX
  have F := F r2 w3 hP
  refine x_astore_n [(2, 0), (0, a1), (2, r2), (3, 0), (3, 0)] dX10_tryTypes_5 rfl (Nat.le_of_ble_eq_true rfl) ?_
  refine x_aload_n dX10_tryTypes_6 rfl ?_
  refine x_ifnull 17 dX10_tryTypes_7 rfl (fun hc => ?_) (fun hc => ?_)
  · have F := F.1 hc
    exact x_ret none rfl ⟨dX10_tryTypes_17, rfl⟩ F
  · have F := F.2 hc
    refine x_aload_n dX10_tryTypes_10 rfl ?_
    obtain ⟨hs5, hr5, F⟩ := F
    obtain ⟨P6, hC, F⟩ := F
    refine x_inv dX10_tryTypes_11 mlX10_269 hC hs5 (Nat.le_of_ble_eq_true rfl) hr5 rfl rfl (by omega) (Nat.zero_le _) (Nat.zero_le _) (Nat.le_of_ble_eq_true rfl) (fun o1 Y9 w8 ht hP => ?_)
    obtain ⟨r7, rfl⟩ : ∃ i, o1 = some (0, i) := ht
    obtain ⟨hX, hP⟩ := hP
    have hX := Eq.symm hX
    subst hX
    have F := F r7 w8 hP
    refine x_if_ne 18 dX10_tryTypes_14 rfl (fun hc => ?_) (fun hc => ?_)
    · have F := F.1 hc
      refine x_iconst dX10_tryTypes_18 rfl (i32_of rfl) ?_
      refine x_istore_n [(2, 0), (0, a1), (2, r2), (0, 0), (3, 0)] dX10_tryTypes_19 rfl (Nat.le_of_ble_eq_true rfl) ?_
      exact F
    · have F := F.2 hc
      exact x_ret none rfl ⟨dX10_tryTypes_17, rfl⟩ F

set_option maxRecDepth 100000 in
set_option maxHeartbeats 4000000 in
theorem bX10_tryTypes_20 {d mc ms : Nat} {X : XX} {v : VV} {Q : QQ} (a1 : Int) (x2 : Int) (x3 : Int) (hd : 4 ≤ d) (hW : SW X) (F : i32 a1 → i32 x3 → X.1.2 x2 = (7, 0) ∧ (0 ≤ x2 ∧ x2 < X.1.1) ∧ ∃ P11 : Option AV → VV → Prop, Con mX7_columnCount 0 0 0 [(2, x2)] X v (fun o X1 v1 => X1 = X ∧ P11 o v1) ∧ ∀ (r12 : Int) (w13 : VV), P11 (some (0, r12)) w13 → (((r12 ≤ x3) → ∃ P15 : Option AV → VV → Prop, Con mX9_typeOfPart 3 0 0 [(2, 35), (2, (X.2 x2 3)), (0, 6), (2, 39)] X w13 (fun o X1 v1 => X1 = X ∧ P15 o v1) ∧ ∀ (r16 : Int) (w17 : VV), P15 (some (0, r16)) w17 → ((((w17 35 2) = (-1)) → Q none X w17) ∧ ((¬ (w17 35 2) = (-1)) → i32 (a1 * 8) ∧ (i32 (a1 * 8) → i32 ((a1 * 8) + 6)) ∧ ∃ P19 : Option AV → VV → Prop, Con mX6_add 0 0 0 [(2, 45), (0, ((a1 * 8) + 6))] X w17 (fun o X1 v1 => X1 = X ∧ P19 o v1) ∧ ∀ (w21 : VV), P19 none w21 → Q none X w21))) ∧ ((x3 < r12) → ∃ P23 : Option AV → VV → Prop, Con mX9_typeOfPart 3 0 0 [(2, 35), (2, (X.2 x2 3)), (0, x3), (2, 39)] X w13 (fun o X1 v1 => X1 = X ∧ P23 o v1) ∧ ∀ (r24 : Int) (w25 : VV), P23 (some (0, r24)) w25 → (((¬ (w25 35 2) = (-1)) → i32 (a1 * 8) ∧ (i32 (a1 * 8) → i32 ((a1 * 8) + x3)) ∧ ∃ P27 : Option AV → VV → Prop, Con mX6_add 0 0 0 [(2, 45), (0, ((a1 * 8) + x3))] X w25 (fun o X1 v1 => X1 = X ∧ P27 o v1) ∧ ∀ (w29 : VV), P27 none w29 → i32 (x3 + 1) ∧ Ex mX10_tryTypes d 20 [(2, 0), (0, a1), (2, x2), (0, (x3 + 1)), (3, 0)] [] X w29 mc ms Q) ∧ (((w25 35 2) = (-1)) → i32 (a1 * 8) ∧ (i32 (a1 * 8) → i32 ((a1 * 8) + x3)) ∧ (0 ≤ ((a1 * 8) + x3) ∧ ((a1 * 8) + x3) < 128) ∧ i32 (x3 + 1) ∧ Ex mX10_tryTypes d 20 [(2, 0), (0, a1), (2, x2), (0, (x3 + 1)), (3, 0)] [] X (upd2 w25 39 ((a1 * 8) + x3) r24) mc ms Q))))) : Ex mX10_tryTypes d 20 [(2, 0), (0, a1), (2, x2), (0, x3), (3, 0)] [] X v mc ms Q := by
  refine x_li32 (i := 1) rfl (fun ha1 => ?_)
  have F := F ha1
  refine x_li32 (i := 3) rfl (fun hx3 => ?_)
  have F := F hx3
  refine x_iload_n dX10_tryTypes_20 rfl ?_
  refine x_aload_n dX10_tryTypes_21 rfl ?_
  obtain ⟨hs10, hr10, F⟩ := F
  obtain ⟨P11, hC, F⟩ := F
  refine x_inv dX10_tryTypes_22 mlX10_150 hC hs10 (Nat.le_of_ble_eq_true rfl) hr10 rfl rfl (by omega) (Nat.zero_le _) (Nat.zero_le _) (Nat.le_of_ble_eq_true rfl) (fun o1 Y14 w13 ht hP => ?_)
  obtain ⟨r12, rfl⟩ : ∃ i, o1 = some (0, i) := ht
  obtain ⟨hX, hP⟩ := hP
  have hX := Eq.symm hX
  subst hX
  have F := F r12 w13 hP
  refine x_icmp_ge 92 dX10_tryTypes_25 rfl (fun hc => ?_) (fun hc => ?_)
  · have F := F.1 hc
    refine x_aload_n dX10_tryTypes_92 rfl ?_
    refine x_getr (r' := 35) flX10_35 dX10_tryTypes_93 (sW0 hW) (gW0 hW) (rW0_3 hW) rfl (Nat.le_of_ble_eq_true rfl) ?_
    refine x_aload_n dX10_tryTypes_96 rfl ?_
    refine x_getr (r' := (X.2 x2 3)) flX10_179 dX10_tryTypes_97 hs10 hr10 rfl rfl (Nat.le_of_ble_eq_true rfl) ?_
    refine x_bipush dX10_tryTypes_100 kb_6 (i32_of rfl) ?_
    refine x_aload_n dX10_tryTypes_102 rfl ?_
    refine x_getr (r' := 39) flX10_49 dX10_tryTypes_103 (sW0 hW) (gW0 hW) (rW0_6 hW) rfl (Nat.le_of_ble_eq_true rfl) ?_
    obtain ⟨P15, hC, F⟩ := F
    refine x_inv dX10_tryTypes_106 mlX10_295 hC (sW35 hW) (Nat.le_of_ble_eq_true rfl) (gW35 hW) rfl rfl (by omega) (Nat.zero_le _) (Nat.zero_le _) (Nat.le_of_ble_eq_true rfl) (fun o1 Y18 w17 ht hP => ?_)
    obtain ⟨r16, rfl⟩ : ∃ i, o1 = some (0, i) := ht
    obtain ⟨hX, hP⟩ := hP
    have hX := Eq.symm hX
    subst hX
    have F := F r16 w17 hP
    refine x_pop dX10_tryTypes_109 (tag1 rfl) ?_
    refine x_aload_n dX10_tryTypes_110 rfl ?_
    refine x_getr (r' := 35) flX10_35 dX10_tryTypes_111 (sW0 hW) (gW0 hW) (rW0_3 hW) rfl (Nat.le_of_ble_eq_true rfl) ?_
    refine x_geti (e := (w17 35 2)) 0 flX10_299 dX10_tryTypes_114 (sW35 hW) (gW35 hW) rfl rfl (Nat.le_of_ble_eq_true rfl) (tagn2 rfl) ?_
    refine x_iconst dX10_tryTypes_117 rfl (i32_of rfl) ?_
    refine x_icmp_eq 135 dX10_tryTypes_118 rfl (fun hc => ?_) (fun hc => ?_)
    · have F := F.1 hc
      exact x_ret none rfl ⟨dX10_tryTypes_135, rfl⟩ F
    · have F := F.2 hc
      refine x_aload_n dX10_tryTypes_121 rfl ?_
      refine x_getr (r' := 45) flX10_68 dX10_tryTypes_122 (sW0 hW) (gW0 hW) (rW0_10 hW) rfl (Nat.le_of_ble_eq_true rfl) ?_
      refine x_iload_n dX10_tryTypes_125 rfl ?_
      refine x_bipush dX10_tryTypes_126 kb_8 (i32_of rfl) ?_
      obtain ⟨hz, F⟩ := F
      refine x_imul dX10_tryTypes_128 hz ?_
      refine x_bipush dX10_tryTypes_129 kb_6 (i32_of rfl) ?_
      refine x_si32 (i := 1) rfl (fun hk1 => ?_)
      obtain ⟨hz, F⟩ := F
      have hz := hz hk1
      refine x_iadd dX10_tryTypes_131 hz ?_
      obtain ⟨P19, hC, F⟩ := F
      refine x_inv dX10_tryTypes_132 mlX10_212 hC (sW45 hW) (Nat.le_of_ble_eq_true rfl) (gW45 hW) rfl rfl (by omega) (Nat.zero_le _) (Nat.zero_le _) (Nat.le_of_ble_eq_true rfl) (fun o1 Y22 w21 ht hP => ?_)
      obtain rfl : o1 = none := ht
      obtain ⟨hX, hP⟩ := hP
      have hX := Eq.symm hX
      subst hX
      have F := F w21 hP
      exact x_ret none rfl ⟨dX10_tryTypes_135, rfl⟩ F
  · have F := F.2 hc
    refine x_aload_n dX10_tryTypes_28 rfl ?_
    refine x_getr (r' := 35) flX10_35 dX10_tryTypes_29 (sW0 hW) (gW0 hW) (rW0_3 hW) rfl (Nat.le_of_ble_eq_true rfl) ?_
    refine x_aload_n dX10_tryTypes_32 rfl ?_
    refine x_getr (r' := (X.2 x2 3)) flX10_179 dX10_tryTypes_33 hs10 hr10 rfl rfl (Nat.le_of_ble_eq_true rfl) ?_
    refine x_iload_n dX10_tryTypes_36 rfl ?_
    refine x_aload_n dX10_tryTypes_37 rfl ?_
    refine x_getr (r' := 39) flX10_49 dX10_tryTypes_38 (sW0 hW) (gW0 hW) (rW0_6 hW) rfl (Nat.le_of_ble_eq_true rfl) ?_
    obtain ⟨P23, hC, F⟩ := F
    refine x_inv dX10_tryTypes_41 mlX10_295 hC (sW35 hW) (Nat.le_of_ble_eq_true rfl) (gW35 hW) rfl rfl (by omega) (Nat.zero_le _) (Nat.zero_le _) (Nat.le_of_ble_eq_true rfl) (fun o1 Y26 w25 ht hP => ?_)
    obtain ⟨r24, rfl⟩ : ∃ i, o1 = some (0, i) := ht
    obtain ⟨hX, hP⟩ := hP
    have hX := Eq.symm hX
    subst hX
    have F := F r24 w25 hP
    refine x_istore [(2, 0), (0, a1), (2, x2), (0, x3), (0, r24)] dX10_tryTypes_44 rfl (Nat.le_of_ble_eq_true rfl) ?_
    refine x_aload_n dX10_tryTypes_46 rfl ?_
    refine x_getr (r' := 35) flX10_35 dX10_tryTypes_47 (sW0 hW) (gW0 hW) (rW0_3 hW) rfl (Nat.le_of_ble_eq_true rfl) ?_
    refine x_geti (e := (w25 35 2)) 0 flX10_299 dX10_tryTypes_50 (sW35 hW) (gW35 hW) rfl rfl (Nat.le_of_ble_eq_true rfl) (tagn2 rfl) ?_
    refine x_iconst dX10_tryTypes_53 rfl (i32_of rfl) ?_
    refine x_icmp_ne 73 dX10_tryTypes_54 rfl (fun hc => ?_) (fun hc => ?_)
    · have F := F.1 hc
      refine x_aload_n dX10_tryTypes_73 rfl ?_
      refine x_getr (r' := 45) flX10_68 dX10_tryTypes_74 (sW0 hW) (gW0 hW) (rW0_10 hW) rfl (Nat.le_of_ble_eq_true rfl) ?_
      refine x_iload_n dX10_tryTypes_77 rfl ?_
      refine x_bipush dX10_tryTypes_78 kb_8 (i32_of rfl) ?_
      obtain ⟨hz, F⟩ := F
      refine x_imul dX10_tryTypes_80 hz ?_
      refine x_iload_n dX10_tryTypes_81 rfl ?_
      refine x_si32 (i := 1) rfl (fun hk1 => ?_)
      obtain ⟨hz, F⟩ := F
      have hz := hz hk1
      refine x_iadd dX10_tryTypes_82 hz ?_
      obtain ⟨P27, hC, F⟩ := F
      refine x_inv dX10_tryTypes_83 mlX10_212 hC (sW45 hW) (Nat.le_of_ble_eq_true rfl) (gW45 hW) rfl rfl (by omega) (Nat.zero_le _) (Nat.zero_le _) (Nat.le_of_ble_eq_true rfl) (fun o1 Y30 w29 ht hP => ?_)
      obtain rfl : o1 = none := ht
      obtain ⟨hX, hP⟩ := hP
      have hX := Eq.symm hX
      subst hX
      have F := F w29 hP
      obtain ⟨hz, F⟩ := F
      refine x_iinc [(2, 0), (0, a1), (2, x2), (0, (x3 + 1)), (0, r24)] dX10_tryTypes_86 rfl rfl (Nat.le_of_ble_eq_true rfl) hz ?_
      refine x_goto 20 dX10_tryTypes_89 rfl ?_
      exact x_less [(2, 0), (0, a1), (2, x2), (0, (x3 + 1)), (3, 0)] ⟨Or.inr rfl, ⟨Or.inr rfl, ⟨Or.inr rfl, ⟨Or.inr rfl, ⟨Or.inl rfl, trivial⟩⟩⟩⟩⟩ F
    · have F := F.2 hc
      refine x_aload_n dX10_tryTypes_57 rfl ?_
      refine x_getr (r' := 39) flX10_49 dX10_tryTypes_58 (sW0 hW) (gW0 hW) (rW0_6 hW) rfl (Nat.le_of_ble_eq_true rfl) ?_
      refine x_iload_n dX10_tryTypes_61 rfl ?_
      refine x_bipush dX10_tryTypes_62 kb_8 (i32_of rfl) ?_
      obtain ⟨hz, F⟩ := F
      refine x_imul dX10_tryTypes_64 hz ?_
      refine x_iload_n dX10_tryTypes_65 rfl ?_
      refine x_si32 (i := 1) rfl (fun hk1 => ?_)
      obtain ⟨hz, F⟩ := F
      have hz := hz hk1
      refine x_iadd dX10_tryTypes_66 hz ?_
      refine x_iload dX10_tryTypes_67 rfl ?_
      obtain ⟨hi, F⟩ := F
      refine x_iast dX10_tryTypes_69 (sW39 hW) (gW39 hW) hi ?_
      refine x_goto 86 dX10_tryTypes_70 rfl ?_
      obtain ⟨hz, F⟩ := F
      refine x_iinc [(2, 0), (0, a1), (2, x2), (0, (x3 + 1)), (0, r24)] dX10_tryTypes_86 rfl rfl (Nat.le_of_ble_eq_true rfl) hz ?_
      refine x_goto 20 dX10_tryTypes_89 rfl ?_
      exact x_less [(2, 0), (0, a1), (2, x2), (0, (x3 + 1)), (3, 0)] ⟨Or.inr rfl, ⟨Or.inr rfl, ⟨Or.inr rfl, ⟨Or.inr rfl, ⟨Or.inl rfl, trivial⟩⟩⟩⟩⟩ F

set_option maxRecDepth 100000 in
set_option maxHeartbeats 4000000 in
theorem bX10_countRetypedBeside_0 {d mc ms : Nat} {X : XX} {v : VV} {Q : QQ} (a1 : Int) (hd : 0 ≤ d) (hW : SW X) (F : i32 a1 → Ex mX10_countRetypedBeside d 4 [(2, 0), (0, a1), (0, 0), (0, 0)] [] X v mc ms Q) : Ex mX10_countRetypedBeside d 0 [(2, 0), (0, a1), (3, 0), (3, 0)] [] X v mc ms Q := by
  refine x_li32 (i := 1) rfl (fun ha1 => ?_)
  have F := F ha1
  refine x_iconst dX10_countRetypedBeside_0 rfl (i32_of rfl) ?_
  refine x_istore_n [(2, 0), (0, a1), (0, 0), (3, 0)] dX10_countRetypedBeside_1 rfl (Nat.le_of_ble_eq_true rfl) ?_
  refine x_iconst dX10_countRetypedBeside_2 rfl (i32_of rfl) ?_
  refine x_istore_n [(2, 0), (0, a1), (0, 0), (0, 0)] dX10_countRetypedBeside_3 rfl (Nat.le_of_ble_eq_true rfl) ?_
  exact F

set_option maxRecDepth 100000 in
set_option maxHeartbeats 4000000 in
theorem bX10_countRetypedBeside_4 {d mc ms : Nat} {X : XX} {v : VV} {Q : QQ} (a1 : Int) (x2 : Int) (x3 : Int) (hd : 0 ≤ d) (hW : SW X) (F : i32 a1 → i32 x2 → i32 x3 → (((128 ≤ x3) → Q (some (0, x2)) X v) ∧ ((x3 < 128) → (((x3 = a1) → i32 (x3 + 1) ∧ Ex mX10_countRetypedBeside d 4 [(2, 0), (0, a1), (0, x2), (0, (x3 + 1))] [] X v mc ms Q) ∧ ((¬ x3 = a1) → (0 ≤ x3 ∧ x3 < 128) ∧ (0 ≤ x3 ∧ x3 < 128) ∧ ((((v 39 x3) = (v 38 x3)) → i32 (x3 + 1) ∧ Ex mX10_countRetypedBeside d 4 [(2, 0), (0, a1), (0, x2), (0, (x3 + 1))] [] X v mc ms Q) ∧ ((¬ (v 39 x3) = (v 38 x3)) → i32 (x2 + 1) ∧ i32 (x3 + 1) ∧ Ex mX10_countRetypedBeside d 4 [(2, 0), (0, a1), (0, (x2 + 1)), (0, (x3 + 1))] [] X v mc ms Q))))))) : Ex mX10_countRetypedBeside d 4 [(2, 0), (0, a1), (0, x2), (0, x3)] [] X v mc ms Q := by
  refine x_li32 (i := 1) rfl (fun ha1 => ?_)
  have F := F ha1
  refine x_li32 (i := 2) rfl (fun hx2 => ?_)
  have F := F hx2
  refine x_li32 (i := 3) rfl (fun hx3 => ?_)
  have F := F hx3
  refine x_iload_n dX10_countRetypedBeside_4 rfl ?_
  refine x_sipush dX10_countRetypedBeside_5 ks_128 (i32_of rfl) ?_
  refine x_icmp_ge 40 dX10_countRetypedBeside_8 rfl (fun hc => ?_) (fun hc => ?_)
  · have F := F.1 hc
    refine x_iload_n dX10_countRetypedBeside_40 rfl ?_
    exact x_ret (some (0, x2)) rfl ⟨dX10_countRetypedBeside_41, Or.inl rfl⟩ F
  · have F := F.2 hc
    refine x_iload_n dX10_countRetypedBeside_11 rfl ?_
    refine x_iload_n dX10_countRetypedBeside_12 rfl ?_
    refine x_icmp_eq 34 dX10_countRetypedBeside_13 rfl (fun hc => ?_) (fun hc => ?_)
    · have F := F.1 hc
      obtain ⟨hz, F⟩ := F
      refine x_iinc [(2, 0), (0, a1), (0, x2), (0, (x3 + 1))] dX10_countRetypedBeside_34 rfl rfl (Nat.le_of_ble_eq_true rfl) hz ?_
      refine x_goto 4 dX10_countRetypedBeside_37 rfl ?_
      exact F
    · have F := F.2 hc
      refine x_aload_n dX10_countRetypedBeside_16 rfl ?_
      refine x_getr (r' := 39) flX10_49 dX10_countRetypedBeside_17 (sW0 hW) (gW0 hW) (rW0_6 hW) rfl (Nat.le_of_ble_eq_true rfl) ?_
      refine x_iload_n dX10_countRetypedBeside_20 rfl ?_
      obtain ⟨hi, F⟩ := F
      refine x_iald (e := (v 39 x3)) dX10_countRetypedBeside_21 (sW39 hW) (gW39 hW) hi rfl ?_
      refine x_aload_n dX10_countRetypedBeside_22 rfl ?_
      refine x_getr (r' := 38) flX10_45 dX10_countRetypedBeside_23 (sW0 hW) (gW0 hW) (rW0_5 hW) rfl (Nat.le_of_ble_eq_true rfl) ?_
      refine x_iload_n dX10_countRetypedBeside_26 rfl ?_
      obtain ⟨hi, F⟩ := F
      refine x_iald (e := (v 38 x3)) dX10_countRetypedBeside_27 (sW38 hW) (gW38 hW) hi rfl ?_
      refine x_icmp_eq 34 dX10_countRetypedBeside_28 rfl (fun hc => ?_) (fun hc => ?_)
      · have F := F.1 hc
        obtain ⟨hz, F⟩ := F
        refine x_iinc [(2, 0), (0, a1), (0, x2), (0, (x3 + 1))] dX10_countRetypedBeside_34 rfl rfl (Nat.le_of_ble_eq_true rfl) hz ?_
        refine x_goto 4 dX10_countRetypedBeside_37 rfl ?_
        exact F
      · have F := F.2 hc
        obtain ⟨hz, F⟩ := F
        refine x_iinc [(2, 0), (0, a1), (0, (x2 + 1)), (0, x3)] dX10_countRetypedBeside_31 rfl rfl (Nat.le_of_ble_eq_true rfl) hz ?_
        obtain ⟨hz, F⟩ := F
        refine x_iinc [(2, 0), (0, a1), (0, (x2 + 1)), (0, (x3 + 1))] dX10_countRetypedBeside_34 rfl rfl (Nat.le_of_ble_eq_true rfl) hz ?_
        refine x_goto 4 dX10_countRetypedBeside_37 rfl ?_
        exact F

set_option maxRecDepth 100000 in
set_option maxHeartbeats 4000000 in
theorem bX10_dropAsksOf_0 {d mc ms : Nat} {X : XX} {v : VV} {Q : QQ} (a1 : Int) (hd : 0 ≤ d) (hW : SW X) (F : i32 a1 → Ex mX10_dropAsksOf d 4 [(2, 0), (0, a1), (0, 0), (0, 0), (3, 0)] [] X v mc ms Q) : Ex mX10_dropAsksOf d 0 [(2, 0), (0, a1), (3, 0), (3, 0), (3, 0)] [] X v mc ms Q := by
  refine x_li32 (i := 1) rfl (fun ha1 => ?_)
  have F := F ha1
  refine x_iconst dX10_dropAsksOf_0 rfl (i32_of rfl) ?_
  refine x_istore_n [(2, 0), (0, a1), (0, 0), (3, 0), (3, 0)] dX10_dropAsksOf_1 rfl (Nat.le_of_ble_eq_true rfl) ?_
  refine x_iconst dX10_dropAsksOf_2 rfl (i32_of rfl) ?_
  refine x_istore_n [(2, 0), (0, a1), (0, 0), (0, 0), (3, 0)] dX10_dropAsksOf_3 rfl (Nat.le_of_ble_eq_true rfl) ?_
  exact F

set_option maxRecDepth 100000 in
set_option maxHeartbeats 4000000 in
theorem bX10_dropAsksOf_4 {d mc ms : Nat} {X : XX} {v : VV} {Q : QQ} (a1 : Int) (x2 : Int) (x3 : Int) (hd : 0 ≤ d) (hW : SW X) (F : i32 a1 → i32 x2 → i32 x3 → (((40 ≤ x3) → Q (some (0, x2)) X v) ∧ ((x3 < 40) → (0 ≤ x3 ∧ x3 < 40) ∧ ((((X.2 40 x3) = -1) → i32 (x3 + 1) ∧ Ex mX10_dropAsksOf d 4 [(2, 0), (0, a1), (0, x2), (0, (x3 + 1)), (3, 0)] [] X v mc ms Q) ∧ ((¬ (X.2 40 x3) = -1) → X.1.2 (X.2 40 x3) = (0, 0) ∧ (0 ≤ (X.2 40 x3) ∧ (X.2 40 x3) < X.1.1) ∧ (((¬ (v (X.2 40 x3) 0) = a1) → i32 (x3 + 1) ∧ Ex mX10_dropAsksOf d 4 [(2, 0), (0, a1), (0, x2), (0, (x3 + 1)), (3, 0)] [] X v mc ms Q) ∧ (((v (X.2 40 x3) 0) = a1) → (0 ≤ x3 ∧ x3 < 40) ∧ i32 (x2 + 1) ∧ i32 (x3 + 1) ∧ Ex mX10_dropAsksOf d 4 [(2, 0), (0, a1), (0, (x2 + 1)), (0, (x3 + 1)), (3, 0)] [] (X.1, upd2 X.2 40 x3 (-1)) v mc ms Q))))))) : Ex mX10_dropAsksOf d 4 [(2, 0), (0, a1), (0, x2), (0, x3), (3, 0)] [] X v mc ms Q := by
  refine x_li32 (i := 1) rfl (fun ha1 => ?_)
  have F := F ha1
  refine x_li32 (i := 2) rfl (fun hx2 => ?_)
  have F := F hx2
  refine x_li32 (i := 3) rfl (fun hx3 => ?_)
  have F := F hx3
  refine x_iload_n dX10_dropAsksOf_4 rfl ?_
  refine x_bipush dX10_dropAsksOf_5 kb_40 (i32_of rfl) ?_
  refine x_icmp_ge 48 dX10_dropAsksOf_7 rfl (fun hc => ?_) (fun hc => ?_)
  · have F := F.1 hc
    refine x_iload_n dX10_dropAsksOf_48 rfl ?_
    exact x_ret (some (0, x2)) rfl ⟨dX10_dropAsksOf_49, Or.inl rfl⟩ F
  · have F := F.2 hc
    refine x_aload_n dX10_dropAsksOf_10 rfl ?_
    refine x_getr (r' := 40) flX10_54 dX10_dropAsksOf_11 (sW0 hW) (gW0 hW) (rW0_7 hW) rfl (Nat.le_of_ble_eq_true rfl) ?_
    refine x_iload_n dX10_dropAsksOf_14 rfl ?_
    obtain ⟨hi, F⟩ := F
    refine x_aald (r' := (X.2 40 x3)) dX10_dropAsksOf_15 (sW40 hW) (by decide) (gW40 hW) hi rfl ?_
    refine x_astore [(2, 0), (0, a1), (0, x2), (0, x3), (2, (X.2 40 x3))] dX10_dropAsksOf_16 rfl (Nat.le_of_ble_eq_true rfl) ?_
    refine x_aload dX10_dropAsksOf_18 rfl ?_
    refine x_ifnull 42 dX10_dropAsksOf_20 rfl (fun hc => ?_) (fun hc => ?_)
    · have F := F.1 hc
      obtain ⟨hz, F⟩ := F
      refine x_iinc [(2, 0), (0, a1), (0, x2), (0, (x3 + 1)), (2, (X.2 40 x3))] dX10_dropAsksOf_42 rfl rfl (Nat.le_of_ble_eq_true rfl) hz ?_
      refine x_goto 4 dX10_dropAsksOf_45 rfl ?_
      exact x_less [(2, 0), (0, a1), (0, x2), (0, (x3 + 1)), (3, 0)] ⟨Or.inr rfl, ⟨Or.inr rfl, ⟨Or.inr rfl, ⟨Or.inr rfl, ⟨Or.inl rfl, trivial⟩⟩⟩⟩⟩ F
    · have F := F.2 hc
      refine x_aload dX10_dropAsksOf_23 rfl ?_
      obtain ⟨hs1, hr1, F⟩ := F
      refine x_geti (e := (v (X.2 40 x3) 0)) 0 flX10_203 dX10_dropAsksOf_25 hs1 hr1 rfl rfl (Nat.le_of_ble_eq_true rfl) (tagn2 rfl) ?_
      refine x_iload_n dX10_dropAsksOf_28 rfl ?_
      refine x_icmp_ne 42 dX10_dropAsksOf_29 rfl (fun hc => ?_) (fun hc => ?_)
      · have F := F.1 hc
        obtain ⟨hz, F⟩ := F
        refine x_iinc [(2, 0), (0, a1), (0, x2), (0, (x3 + 1)), (2, (X.2 40 x3))] dX10_dropAsksOf_42 rfl rfl (Nat.le_of_ble_eq_true rfl) hz ?_
        refine x_goto 4 dX10_dropAsksOf_45 rfl ?_
        exact x_less [(2, 0), (0, a1), (0, x2), (0, (x3 + 1)), (3, 0)] ⟨Or.inr rfl, ⟨Or.inr rfl, ⟨Or.inr rfl, ⟨Or.inr rfl, ⟨Or.inl rfl, trivial⟩⟩⟩⟩⟩ F
      · have F := F.2 hc
        refine x_aload_n dX10_dropAsksOf_32 rfl ?_
        refine x_getr (r' := 40) flX10_54 dX10_dropAsksOf_33 (sW0 hW) (gW0 hW) (rW0_7 hW) rfl (Nat.le_of_ble_eq_true rfl) ?_
        refine x_iload_n dX10_dropAsksOf_36 rfl ?_
        refine x_null dX10_dropAsksOf_37 ?_
        obtain ⟨hi, F⟩ := F
        refine x_aastN dX10_dropAsksOf_38 (sW40 hW) (by decide) (gW40 hW) hi ?_
        have hW2 : SW (X.1, upd2 X.2 40 x3 (-1)) := hW.ref40 _ _
        obtain ⟨hz, F⟩ := F
        refine x_iinc [(2, 0), (0, a1), (0, (x2 + 1)), (0, x3), (2, (X.2 40 x3))] dX10_dropAsksOf_39 rfl rfl (Nat.le_of_ble_eq_true rfl) hz ?_
        obtain ⟨hz, F⟩ := F
        refine x_iinc [(2, 0), (0, a1), (0, (x2 + 1)), (0, (x3 + 1)), (2, (X.2 40 x3))] dX10_dropAsksOf_42 rfl rfl (Nat.le_of_ble_eq_true rfl) hz ?_
        refine x_goto 4 dX10_dropAsksOf_45 rfl ?_
        exact x_less [(2, 0), (0, a1), (0, (x2 + 1)), (0, (x3 + 1)), (3, 0)] ⟨Or.inr rfl, ⟨Or.inr rfl, ⟨Or.inr rfl, ⟨Or.inr rfl, ⟨Or.inl rfl, trivial⟩⟩⟩⟩⟩ F

set_option maxRecDepth 100000 in
set_option maxHeartbeats 4000000 in
theorem bX10_takeAgeFromBehind_0 {d mc ms : Nat} {X : XX} {v : VV} {Q : QQ} (a1 : Int) (hd : 1 ≤ d) (hW : SW X) (F : Ex mX10_takeAgeFromBehind d 9 [(2, 0), (2, a1), (0, 30000), (0, (-1)), (0, 0), (3, 0)] [] X v mc ms Q) : Ex mX10_takeAgeFromBehind d 0 [(2, 0), (2, a1), (3, 0), (3, 0), (3, 0), (3, 0)] [] X v mc ms Q := by
  refine x_sipush dX10_takeAgeFromBehind_0 ks_30000 (i32_of rfl) ?_
  refine x_istore_n [(2, 0), (2, a1), (0, 30000), (3, 0), (3, 0), (3, 0)] dX10_takeAgeFromBehind_3 rfl (Nat.le_of_ble_eq_true rfl) ?_
  refine x_iconst dX10_takeAgeFromBehind_4 rfl (i32_of rfl) ?_
  refine x_istore_n [(2, 0), (2, a1), (0, 30000), (0, (-1)), (3, 0), (3, 0)] dX10_takeAgeFromBehind_5 rfl (Nat.le_of_ble_eq_true rfl) ?_
  refine x_iconst dX10_takeAgeFromBehind_6 rfl (i32_of rfl) ?_
  refine x_istore [(2, 0), (2, a1), (0, 30000), (0, (-1)), (0, 0), (3, 0)] dX10_takeAgeFromBehind_7 rfl (Nat.le_of_ble_eq_true rfl) ?_
  exact F

set_option maxRecDepth 100000 in
set_option maxHeartbeats 4000000 in
theorem bX10_takeAgeFromBehind_9 {d mc ms : Nat} {X : XX} {v : VV} {Q : QQ} (a1 : Int) (x2 : Int) (x3 : Int) (x4 : Int) (hd : 1 ≤ d) (hW : SW X) (F : i32 x2 → i32 x3 → i32 x4 → X.1.2 a1 = (7, 0) ∧ (0 ≤ a1 ∧ a1 < X.1.1) ∧ X.1.2 (X.2 a1 2) = (6, 0) ∧ (0 ≤ (X.2 a1 2) ∧ (X.2 a1 2) < X.1.1) ∧ ∃ P3 : Option AV → VV → Prop, Con mX6_size 0 0 0 [(2, (X.2 a1 2))] X v (fun o X1 v1 => X1 = X ∧ P3 o v1) ∧ ∀ (r4 : Int) (w5 : VV), P3 (some (0, r4)) w5 → (((r4 ≤ x4) → (((¬ x3 = (-1)) → Q (some (0, 1)) X (upd2 (upd2 w5 a1 6 x2) a1 7 x3)) ∧ ((x3 = (-1)) → Q (some (0, 0)) X w5))) ∧ ((x4 < r4) → ∃ P7 : Option AV → VV → Prop, Con mX6_get 0 0 0 [(2, (X.2 a1 2)), (0, x4)] X w5 (fun o X1 v1 => X1 = X ∧ P7 o v1) ∧ ∀ (r8 : Int) (w9 : VV), P7 (some (0, r8)) w9 → ∃ P11 : Option AV → VV → Prop, Con mX10_tableAt 0 0 0 [(2, 0), (0, r8)] X w9 (fun o X1 v1 => X1 = X ∧ P11 o v1) ∧ ∀ (r12 : Int) (w13 : VV), P11 (some (2, r12)) w13 → (((r12 = -1) → Q (some (0, 0)) X w13) ∧ ((¬ r12 = -1) → X.1.2 r12 = (7, 0) ∧ (0 ≤ r12 ∧ r12 < X.1.1) ∧ (((¬ (w13 r12 7) = (-1)) → i32 (x4 + 1) ∧ Ex mX10_takeAgeFromBehind d 9 [(2, 0), (2, a1), (0, (if (w13 r12 6) < x2 then (w13 r12 6) else x2)), (0, (if x3 < (w13 r12 7) then (w13 r12 7) else x3)), (0, (x4 + 1)), (3, 0)] [] X w13 mc ms Q) ∧ (((w13 r12 7) = (-1)) → Q (some (0, 0)) X w13))))))) : Ex mX10_takeAgeFromBehind d 9 [(2, 0), (2, a1), (0, x2), (0, x3), (0, x4), (3, 0)] [] X v mc ms Q := by
  refine x_li32 (i := 2) rfl (fun hx2 => ?_)
  have F := F hx2
  refine x_li32 (i := 3) rfl (fun hx3 => ?_)
  have F := F hx3
  refine x_li32 (i := 4) rfl (fun hx4 => ?_)
  have F := F hx4
  refine x_iload dX10_takeAgeFromBehind_9 rfl ?_
  refine x_aload_n dX10_takeAgeFromBehind_11 rfl ?_
  obtain ⟨hs1, hr1, F⟩ := F
  refine x_getr (r' := (X.2 a1 2)) flX10_153 dX10_takeAgeFromBehind_12 hs1 hr1 rfl rfl (Nat.le_of_ble_eq_true rfl) ?_
  obtain ⟨hs2, hr2, F⟩ := F
  obtain ⟨P3, hC, F⟩ := F
  refine x_inv dX10_takeAgeFromBehind_15 mlX10_75 hC hs2 (Nat.le_of_ble_eq_true rfl) hr2 rfl rfl (by omega) (Nat.zero_le _) (Nat.zero_le _) (Nat.le_of_ble_eq_true rfl) (fun o1 Y6 w5 ht hP => ?_)
  obtain ⟨r4, rfl⟩ : ∃ i, o1 = some (0, i) := ht
  obtain ⟨hX, hP⟩ := hP
  have hX := Eq.symm hX
  subst hX
  have F := F r4 w5 hP
  refine x_icmp_ge 78 dX10_takeAgeFromBehind_18 rfl (fun hc => ?_) (fun hc => ?_)
  · have F := F.1 hc
    refine x_iload_n dX10_takeAgeFromBehind_78 rfl ?_
    refine x_iconst dX10_takeAgeFromBehind_79 rfl (i32_of rfl) ?_
    refine x_icmp_ne 85 dX10_takeAgeFromBehind_80 rfl (fun hc => ?_) (fun hc => ?_)
    · have F := F.1 hc
      refine x_aload_n dX10_takeAgeFromBehind_85 rfl ?_
      refine x_iload_n dX10_takeAgeFromBehind_86 rfl ?_
      refine x_puti 0 fwX10_160 dX10_takeAgeFromBehind_87 hs1 hr1 (fun h => Bool.noConfusion h) (Nat.le_of_ble_eq_true rfl) rfl (Or.inl ⟨rfl, Or.inl rfl⟩) ?_
      refine x_aload_n dX10_takeAgeFromBehind_90 rfl ?_
      refine x_iload_n dX10_takeAgeFromBehind_91 rfl ?_
      refine x_puti 0 fwX10_163 dX10_takeAgeFromBehind_92 hs1 hr1 (fun h => Bool.noConfusion h) (Nat.le_of_ble_eq_true rfl) rfl (Or.inl ⟨rfl, Or.inl rfl⟩) ?_
      refine x_iconst dX10_takeAgeFromBehind_95 rfl (i32_of rfl) ?_
      exact x_ret (some (0, 1)) rfl ⟨dX10_takeAgeFromBehind_96, Or.inr ⟨rfl, Or.inr rfl⟩⟩ F
    · have F := F.2 hc
      refine x_iconst dX10_takeAgeFromBehind_83 rfl (i32_of rfl) ?_
      exact x_ret (some (0, 0)) rfl ⟨dX10_takeAgeFromBehind_84, Or.inr ⟨rfl, Or.inl rfl⟩⟩ F
  · have F := F.2 hc
    refine x_aload_n dX10_takeAgeFromBehind_21 rfl ?_
    refine x_aload_n dX10_takeAgeFromBehind_22 rfl ?_
    refine x_getr (r' := (X.2 a1 2)) flX10_153 dX10_takeAgeFromBehind_23 hs1 hr1 rfl rfl (Nat.le_of_ble_eq_true rfl) ?_
    refine x_iload dX10_takeAgeFromBehind_26 rfl ?_
    obtain ⟨P7, hC, F⟩ := F
    refine x_inv dX10_takeAgeFromBehind_28 mlX10_156 hC hs2 (Nat.le_of_ble_eq_true rfl) hr2 rfl rfl (by omega) (Nat.zero_le _) (Nat.zero_le _) (Nat.le_of_ble_eq_true rfl) (fun o1 Y10 w9 ht hP => ?_)
    obtain ⟨r8, rfl⟩ : ∃ i, o1 = some (0, i) := ht
    obtain ⟨hX, hP⟩ := hP
    have hX := Eq.symm hX
    subst hX
    have F := F r8 w9 hP
    obtain ⟨P11, hC, F⟩ := F
    refine x_inv dX10_takeAgeFromBehind_31 mlX10_143 hC (sW0 hW) (Nat.le_of_ble_eq_true rfl) (gW0 hW) rfl rfl (by omega) (Nat.zero_le _) (Nat.zero_le _) (Nat.le_of_ble_eq_true rfl) (fun o1 Y14 w13 ht hP => ?_)
    obtain ⟨r12, rfl⟩ : ∃ i, o1 = some (2, i) := ht
    obtain ⟨hX, hP⟩ := hP
    have hX := Eq.symm hX
    subst hX
    have F := F r12 w13 hP
    refine x_astore [(2, 0), (2, a1), (0, x2), (0, x3), (0, x4), (2, r12)] dX10_takeAgeFromBehind_34 rfl (Nat.le_of_ble_eq_true rfl) ?_
    refine x_aload dX10_takeAgeFromBehind_36 rfl ?_
    refine x_ifnull 50 dX10_takeAgeFromBehind_38 rfl (fun hc => ?_) (fun hc => ?_)
    · have F := F.1 hc
      refine x_iconst dX10_takeAgeFromBehind_50 rfl (i32_of rfl) ?_
      exact x_ret (some (0, 0)) rfl ⟨dX10_takeAgeFromBehind_51, Or.inr ⟨rfl, Or.inl rfl⟩⟩ F
    · have F := F.2 hc
      refine x_aload dX10_takeAgeFromBehind_41 rfl ?_
      obtain ⟨hs15, hr15, F⟩ := F
      refine x_geti (e := (w13 r12 7)) 0 flX10_163 dX10_takeAgeFromBehind_43 hs15 hr15 rfl rfl (Nat.le_of_ble_eq_true rfl) (tagn2 rfl) ?_
      refine x_iconst dX10_takeAgeFromBehind_46 rfl (i32_of rfl) ?_
      refine x_icmp_ne 52 dX10_takeAgeFromBehind_47 rfl (fun hc => ?_) (fun hc => ?_)
      · have F := F.1 hc
        refine x_iload_n dX10_takeAgeFromBehind_52 rfl ?_
        refine x_aload dX10_takeAgeFromBehind_53 rfl ?_
        refine x_geti (e := (w13 r12 6)) 0 flX10_160 dX10_takeAgeFromBehind_55 hs15 hr15 rfl rfl (Nat.le_of_ble_eq_true rfl) (tagn2 rfl) ?_
        refine x_min dX10_takeAgeFromBehind_58 mlX10_302 (by omega) (Nat.le_of_ble_eq_true rfl) ?_
        refine x_istore_n [(2, 0), (2, a1), (0, (if (w13 r12 6) < x2 then (w13 r12 6) else x2)), (0, x3), (0, x4), (2, r12)] dX10_takeAgeFromBehind_61 rfl (Nat.le_of_ble_eq_true rfl) ?_
        refine x_iload_n dX10_takeAgeFromBehind_62 rfl ?_
        refine x_aload dX10_takeAgeFromBehind_63 rfl ?_
        refine x_geti (e := (w13 r12 7)) 0 flX10_163 dX10_takeAgeFromBehind_65 hs15 hr15 rfl rfl (Nat.le_of_ble_eq_true rfl) (tagn2 rfl) ?_
        refine x_max dX10_takeAgeFromBehind_68 mlX10_307 (by omega) (Nat.le_of_ble_eq_true rfl) ?_
        refine x_istore_n [(2, 0), (2, a1), (0, (if (w13 r12 6) < x2 then (w13 r12 6) else x2)), (0, (if x3 < (w13 r12 7) then (w13 r12 7) else x3)), (0, x4), (2, r12)] dX10_takeAgeFromBehind_71 rfl (Nat.le_of_ble_eq_true rfl) ?_
        obtain ⟨hz, F⟩ := F
        refine x_iinc [(2, 0), (2, a1), (0, (if (w13 r12 6) < x2 then (w13 r12 6) else x2)), (0, (if x3 < (w13 r12 7) then (w13 r12 7) else x3)), (0, (x4 + 1)), (2, r12)] dX10_takeAgeFromBehind_72 rfl rfl (Nat.le_of_ble_eq_true rfl) hz ?_
        refine x_goto 9 dX10_takeAgeFromBehind_75 rfl ?_
        exact x_less [(2, 0), (2, a1), (0, (if (w13 r12 6) < x2 then (w13 r12 6) else x2)), (0, (if x3 < (w13 r12 7) then (w13 r12 7) else x3)), (0, (x4 + 1)), (3, 0)] ⟨Or.inr rfl, ⟨Or.inr rfl, ⟨Or.inr rfl, ⟨Or.inr rfl, ⟨Or.inr rfl, ⟨Or.inl rfl, trivial⟩⟩⟩⟩⟩⟩ F
      · have F := F.2 hc
        refine x_iconst dX10_takeAgeFromBehind_50 rfl (i32_of rfl) ?_
        exact x_ret (some (0, 0)) rfl ⟨dX10_takeAgeFromBehind_51, Or.inr ⟨rfl, Or.inl rfl⟩⟩ F

set_option maxRecDepth 100000 in
set_option maxHeartbeats 4000000 in
theorem bX10_settleViews_0 {d mc ms : Nat} {X : XX} {v : VV} {Q : QQ} (hd : 2 ≤ d) (hW : SW X) (F : Ex mX10_settleViews d 2 [(2, 0), (0, 0), (3, 0)] [] X v mc ms Q) : Ex mX10_settleViews d 0 [(2, 0), (3, 0), (3, 0)] [] X v mc ms Q := by
  refine x_iconst dX10_settleViews_0 rfl (i32_of rfl) ?_
  refine x_istore_n [(2, 0), (0, 0), (3, 0)] dX10_settleViews_1 rfl (Nat.le_of_ble_eq_true rfl) ?_
  exact F

set_option maxRecDepth 100000 in
set_option maxHeartbeats 4000000 in
theorem bX10_settleViews_2 {d mc ms : Nat} {X : XX} {v : VV} {Q : QQ} (x1 : Int) (hd : 2 ≤ d) (hW : SW X) (F : i32 x1 → (((16 ≤ x1) → Q none X v) ∧ ((x1 < 16) → (0 ≤ x1 ∧ x1 < 16) ∧ ((((X.2 37 x1) = -1) → i32 (x1 + 1) ∧ Ex mX10_settleViews d 2 [(2, 0), (0, (x1 + 1)), (3, 0)] [] X v mc ms Q) ∧ ((¬ (X.2 37 x1) = -1) → X.1.2 (X.2 37 x1) = (7, 0) ∧ (0 ≤ (X.2 37 x1) ∧ (X.2 37 x1) < X.1.1) ∧ (((¬ (v (X.2 37 x1) 5) = 1) → i32 (x1 + 1) ∧ Ex mX10_settleViews d 2 [(2, 0), (0, (x1 + 1)), (3, 0)] [] X v mc ms Q) ∧ (((v (X.2 37 x1) 5) = 1) → ∃ P2 : Option AV → VV → Prop, Con mX10_takeAgeFromBehind 1 0 0 [(2, 0), (2, (X.2 37 x1))] X v (fun o X1 v1 => X1 = X ∧ P2 o v1) ∧ ∀ (r3 : Int) (w4 : VV), P2 (some (0, r3)) w4 → i32 (x1 + 1) ∧ Ex mX10_settleViews d 2 [(2, 0), (0, (x1 + 1)), (3, 0)] [] X w4 mc ms Q))))))) : Ex mX10_settleViews d 2 [(2, 0), (0, x1), (3, 0)] [] X v mc ms Q := by
  refine x_li32 (i := 1) rfl (fun hx1 => ?_)
  have F := F hx1
  refine x_iload_n dX10_settleViews_2 rfl ?_
  refine x_bipush dX10_settleViews_3 kb_16 (i32_of rfl) ?_
  refine x_icmp_ge 39 dX10_settleViews_5 rfl (fun hc => ?_) (fun hc => ?_)
  · have F := F.1 hc
    exact x_ret none rfl ⟨dX10_settleViews_39, rfl⟩ F
  · have F := F.2 hc
    refine x_aload_n dX10_settleViews_8 rfl ?_
    refine x_getr (r' := 37) flX10_41 dX10_settleViews_9 (sW0 hW) (gW0 hW) (rW0_4 hW) rfl (Nat.le_of_ble_eq_true rfl) ?_
    refine x_iload_n dX10_settleViews_12 rfl ?_
    obtain ⟨hi, F⟩ := F
    refine x_aald (r' := (X.2 37 x1)) dX10_settleViews_13 (sW37 hW) (by decide) (gW37 hW) hi rfl ?_
    refine x_astore_n [(2, 0), (0, x1), (2, (X.2 37 x1))] dX10_settleViews_14 rfl (Nat.le_of_ble_eq_true rfl) ?_
    refine x_aload_n dX10_settleViews_15 rfl ?_
    refine x_ifnull 33 dX10_settleViews_16 rfl (fun hc => ?_) (fun hc => ?_)
    · have F := F.1 hc
      obtain ⟨hz, F⟩ := F
      refine x_iinc [(2, 0), (0, (x1 + 1)), (2, (X.2 37 x1))] dX10_settleViews_33 rfl rfl (Nat.le_of_ble_eq_true rfl) hz ?_
      refine x_goto 2 dX10_settleViews_36 rfl ?_
      exact x_less [(2, 0), (0, (x1 + 1)), (3, 0)] ⟨Or.inr rfl, ⟨Or.inr rfl, ⟨Or.inl rfl, trivial⟩⟩⟩ F
    · have F := F.2 hc
      refine x_aload_n dX10_settleViews_19 rfl ?_
      obtain ⟨hs1, hr1, F⟩ := F
      refine x_geti (e := (v (X.2 37 x1) 5)) 0 flX10_147 dX10_settleViews_20 hs1 hr1 rfl rfl (Nat.le_of_ble_eq_true rfl) (tagn2 rfl) ?_
      refine x_iconst dX10_settleViews_23 rfl (i32_of rfl) ?_
      refine x_icmp_ne 33 dX10_settleViews_24 rfl (fun hc => ?_) (fun hc => ?_)
      · have F := F.1 hc
        obtain ⟨hz, F⟩ := F
        refine x_iinc [(2, 0), (0, (x1 + 1)), (2, (X.2 37 x1))] dX10_settleViews_33 rfl rfl (Nat.le_of_ble_eq_true rfl) hz ?_
        refine x_goto 2 dX10_settleViews_36 rfl ?_
        exact x_less [(2, 0), (0, (x1 + 1)), (3, 0)] ⟨Or.inr rfl, ⟨Or.inr rfl, ⟨Or.inl rfl, trivial⟩⟩⟩ F
      · have F := F.2 hc
        refine x_aload_n dX10_settleViews_27 rfl ?_
        refine x_aload_n dX10_settleViews_28 rfl ?_
        obtain ⟨P2, hC, F⟩ := F
        refine x_inv dX10_settleViews_29 mlX10_247 hC (sW0 hW) (Nat.le_of_ble_eq_true rfl) (gW0 hW) rfl rfl (by omega) (Nat.zero_le _) (Nat.zero_le _) (Nat.le_of_ble_eq_true rfl) (fun o1 Y5 w4 ht hP => ?_)
        obtain ⟨r3, rfl⟩ : ∃ i, o1 = some (0, i) := ht
        obtain ⟨hX, hP⟩ := hP
        have hX := Eq.symm hX
        subst hX
        have F := F r3 w4 hP
        refine x_pop dX10_settleViews_32 (tag1 rfl) ?_
        obtain ⟨hz, F⟩ := F
        refine x_iinc [(2, 0), (0, (x1 + 1)), (2, (X.2 37 x1))] dX10_settleViews_33 rfl rfl (Nat.le_of_ble_eq_true rfl) hz ?_
        refine x_goto 2 dX10_settleViews_36 rfl ?_
        exact x_less [(2, 0), (0, (x1 + 1)), (3, 0)] ⟨Or.inr rfl, ⟨Or.inr rfl, ⟨Or.inl rfl, trivial⟩⟩⟩ F

set_option maxRecDepth 100000 in
set_option maxHeartbeats 4000000 in
theorem bX10_isBroken_0 {d mc ms : Nat} {X : XX} {v : VV} {Q : QQ} (a1 : Int) (hd : 1 ≤ d) (hW : SW X) (F : (((a1 = -1) → Q (some (0, 0)) X v) ∧ ((¬ a1 = -1) → X.1.2 a1 = (7, 0) ∧ (0 ≤ a1 ∧ a1 < X.1.1) ∧ ((((v a1 9) = (-1)) → Q (some (0, 0)) X v) ∧ ((¬ (v a1 9) = (-1)) → (i32 (v a1 9) → i32 (v 0 13) → i32 ((v 0 13) - (v a1 9))) ∧ ∃ P2 : Option AV → VV → Prop, Con mX10_isBelow 0 0 0 [(2, a1), (0, ((v 0 13) - (v a1 9)))] X v (fun o X1 v1 => X1 = X ∧ P2 o v1) ∧ ∀ (r3 : Int) (w4 : VV), P2 (some (0, r3)) w4 → (((r3 = 0) → Q (some (0, 0)) X w4) ∧ ((¬ r3 = 0) → Q (some (0, 1)) X w4))))))) : Ex mX10_isBroken d 0 [(2, 0), (2, a1)] [] X v mc ms Q := by
  refine x_aload_n dX10_isBroken_0 rfl ?_
  refine x_ifnull 32 dX10_isBroken_1 rfl (fun hc => ?_) (fun hc => ?_)
  · have F := F.1 hc
    refine x_iconst dX10_isBroken_32 rfl (i32_of rfl) ?_
    exact x_ret (some (0, 0)) rfl ⟨dX10_isBroken_33, Or.inr ⟨rfl, Or.inl rfl⟩⟩ F
  · have F := F.2 hc
    refine x_aload_n dX10_isBroken_4 rfl ?_
    obtain ⟨hs1, hr1, F⟩ := F
    refine x_geti (e := (v a1 9)) 0 flX10_169 dX10_isBroken_5 hs1 hr1 rfl rfl (Nat.le_of_ble_eq_true rfl) (tagn2 rfl) ?_
    refine x_iconst dX10_isBroken_8 rfl (i32_of rfl) ?_
    refine x_icmp_eq 32 dX10_isBroken_9 rfl (fun hc => ?_) (fun hc => ?_)
    · have F := F.1 hc
      refine x_iconst dX10_isBroken_32 rfl (i32_of rfl) ?_
      exact x_ret (some (0, 0)) rfl ⟨dX10_isBroken_33, Or.inr ⟨rfl, Or.inl rfl⟩⟩ F
    · have F := F.2 hc
      refine x_aload_n dX10_isBroken_12 rfl ?_
      refine x_aload_n dX10_isBroken_13 rfl ?_
      refine x_geti (e := (v 0 13)) 0 flX10_241 dX10_isBroken_14 (sW0 hW) (gW0 hW) rfl rfl (Nat.le_of_ble_eq_true rfl) (tagn2 rfl) ?_
      refine x_aload_n dX10_isBroken_17 rfl ?_
      refine x_geti (e := (v a1 9)) 0 flX10_169 dX10_isBroken_18 hs1 hr1 rfl rfl (Nat.le_of_ble_eq_true rfl) (tagn2 rfl) ?_
      refine x_si32 (i := 0) rfl (fun hk0 => ?_)
      refine x_si32 (i := 1) rfl (fun hk1 => ?_)
      obtain ⟨hz, F⟩ := F
      have hz := hz hk0 hk1
      refine x_isub dX10_isBroken_21 hz ?_
      obtain ⟨P2, hC, F⟩ := F
      refine x_static dX10_isBroken_22 mlX10_310 hC rfl rfl (by omega) (Nat.zero_le _) (Nat.zero_le _) (Nat.le_of_ble_eq_true rfl) (fun o1 Y5 w4 ht hP => ?_)
      obtain ⟨r3, rfl⟩ : ∃ i, o1 = some (0, i) := ht
      obtain ⟨hX, hP⟩ := hP
      have hX := Eq.symm hX
      subst hX
      have F := F r3 w4 hP
      refine x_if_eq 32 dX10_isBroken_25 rfl (fun hc => ?_) (fun hc => ?_)
      · have F := F.1 hc
        refine x_iconst dX10_isBroken_32 rfl (i32_of rfl) ?_
        exact x_ret (some (0, 0)) rfl ⟨dX10_isBroken_33, Or.inr ⟨rfl, Or.inl rfl⟩⟩ F
      · have F := F.2 hc
        refine x_iconst dX10_isBroken_28 rfl (i32_of rfl) ?_
        refine x_goto 33 dX10_isBroken_29 rfl ?_
        exact x_ret (some (0, 1)) rfl ⟨dX10_isBroken_33, Or.inr ⟨rfl, Or.inr rfl⟩⟩ F

set_option maxRecDepth 100000 in
set_option maxHeartbeats 4000000 in
theorem bX10_isBelow_0 {d mc ms : Nat} {X : XX} {v : VV} {Q : QQ} (a1 : Int) (a2 : Int) (hd : 0 ≤ d) (hW : SW X) (F : i32 a2 → X.1.2 a1 = (7, 0) ∧ (0 ≤ a1 ∧ a1 < X.1.1) ∧ ((((v a1 7) = (-1)) → Q (some (0, 1)) X v) ∧ ((¬ (v a1 7) = (-1)) → (((a2 ≤ (v a1 7)) → Q (some (0, 0)) X v) ∧ (((v a1 7) < a2) → Q (some (0, 1)) X v))))) : Ex mX10_isBelow d 0 [(2, a1), (0, a2)] [] X v mc ms Q := by
  refine x_li32 (i := 1) rfl (fun ha2 => ?_)
  have F := F ha2
  refine x_aload_n dX10_isBelow_0 rfl ?_
  obtain ⟨hs1, hr1, F⟩ := F
  refine x_geti (e := (v a1 7)) 0 flX10_163 dX10_isBelow_1 hs1 hr1 rfl rfl (Nat.le_of_ble_eq_true rfl) (tagn2 rfl) ?_
  refine x_iconst dX10_isBelow_4 rfl (i32_of rfl) ?_
  refine x_icmp_eq 16 dX10_isBelow_5 rfl (fun hc => ?_) (fun hc => ?_)
  · have F := F.1 hc
    refine x_iconst dX10_isBelow_16 rfl (i32_of rfl) ?_
    refine x_goto 21 dX10_isBelow_17 rfl ?_
    exact x_ret (some (0, 1)) rfl ⟨dX10_isBelow_21, Or.inr ⟨rfl, Or.inr rfl⟩⟩ F
  · have F := F.2 hc
    refine x_aload_n dX10_isBelow_8 rfl ?_
    refine x_geti (e := (v a1 7)) 0 flX10_163 dX10_isBelow_9 hs1 hr1 rfl rfl (Nat.le_of_ble_eq_true rfl) (tagn2 rfl) ?_
    refine x_iload_n dX10_isBelow_12 rfl ?_
    refine x_icmp_ge 20 dX10_isBelow_13 rfl (fun hc => ?_) (fun hc => ?_)
    · have F := F.1 hc
      refine x_iconst dX10_isBelow_20 rfl (i32_of rfl) ?_
      exact x_ret (some (0, 0)) rfl ⟨dX10_isBelow_21, Or.inr ⟨rfl, Or.inl rfl⟩⟩ F
    · have F := F.2 hc
      refine x_iconst dX10_isBelow_16 rfl (i32_of rfl) ?_
      refine x_goto 21 dX10_isBelow_17 rfl ?_
      exact x_ret (some (0, 1)) rfl ⟨dX10_isBelow_21, Or.inr ⟨rfl, Or.inr rfl⟩⟩ F

set_option maxRecDepth 100000 in
set_option maxHeartbeats 4000000 in
theorem bX10_firstLateBehind_0 {d mc ms : Nat} {X : XX} {v : VV} {Q : QQ} (a1 : Int) (a2 : Int) (hd : 1 ≤ d) (hW : SW X) (F : i32 a1 → i32 a2 → ∃ P1 : Option AV → VV → Prop, Con mX10_tableAt 0 0 0 [(2, 0), (0, a1)] X v (fun o X1 v1 => X1 = X ∧ P1 o v1) ∧ ∀ (r2 : Int) (w3 : VV), P1 (some (2, r2)) w3 → (((¬ r2 = -1) → Ex mX10_firstLateBehind d 15 [(2, 0), (0, a1), (0, a2), (2, r2), (0, 0), (3, 0)] [] X w3 mc ms Q) ∧ ((r2 = -1) → Q (some (0, (-1))) X w3))) : Ex mX10_firstLateBehind d 0 [(2, 0), (0, a1), (0, a2), (3, 0), (3, 0), (3, 0)] [] X v mc ms Q := by
  refine x_li32 (i := 1) rfl (fun ha1 => ?_)
  have F := F ha1
  refine x_li32 (i := 2) rfl (fun ha2 => ?_)
  have F := F ha2
  refine x_aload_n dX10_firstLateBehind_0 rfl ?_
  refine x_iload_n dX10_firstLateBehind_1 rfl ?_
  obtain ⟨P1, hC, F⟩ := F
  refine x_inv dX10_firstLateBehind_2 mlX10_143 hC (sW0 hW) (Nat.le_of_ble_eq_true rfl) (gW0 hW) rfl rfl (by omega) (Nat.zero_le _) (Nat.zero_le _) (Nat.le_of_ble_eq_true rfl) (fun o1 Y4 w3 ht hP => ?_)
  obtain ⟨r2, rfl⟩ : ∃ i, o1 = some (2, i) := ht
  obtain ⟨hX, hP⟩ := hP
  have hX := Eq.symm hX
  subst hX
  have F := F r2 w3 hP
  refine x_astore_n [(2, 0), (0, a1), (0, a2), (2, r2), (3, 0), (3, 0)] dX10_firstLateBehind_5 rfl (Nat.le_of_ble_eq_true rfl) ?_
  refine x_aload_n dX10_firstLateBehind_6 rfl ?_
  refine x_ifnonnull 12 dX10_firstLateBehind_7 rfl (fun hc => ?_) (fun hc => ?_)
  · have F := F.1 hc
    refine x_iconst dX10_firstLateBehind_12 rfl (i32_of rfl) ?_
    refine x_istore [(2, 0), (0, a1), (0, a2), (2, r2), (0, 0), (3, 0)] dX10_firstLateBehind_13 rfl (Nat.le_of_ble_eq_true rfl) ?_
    exact F
  · have F := F.2 hc
    refine x_iconst dX10_firstLateBehind_10 rfl (i32_of rfl) ?_
    exact x_ret (some (0, (-1))) rfl ⟨dX10_firstLateBehind_11, Or.inl rfl⟩ F

set_option maxRecDepth 100000 in
set_option maxHeartbeats 4000000 in
theorem bX10_firstLateBehind_15 {d mc ms : Nat} {X : XX} {v : VV} {Q : QQ} (a1 : Int) (a2 : Int) (x3 : Int) (x4 : Int) (hd : 1 ≤ d) (hW : SW X) (F : i32 a1 → i32 a2 → i32 x4 → X.1.2 x3 = (7, 0) ∧ (0 ≤ x3 ∧ x3 < X.1.1) ∧ X.1.2 (X.2 x3 2) = (6, 0) ∧ (0 ≤ (X.2 x3 2) ∧ (X.2 x3 2) < X.1.1) ∧ ∃ P7 : Option AV → VV → Prop, Con mX6_size 0 0 0 [(2, (X.2 x3 2))] X v (fun o X1 v1 => X1 = X ∧ P7 o v1) ∧ ∀ (r8 : Int) (w9 : VV), P7 (some (0, r8)) w9 → (((r8 ≤ x4) → Q (some (0, (-1))) X w9) ∧ ((x4 < r8) → ∃ P11 : Option AV → VV → Prop, Con mX6_get 0 0 0 [(2, (X.2 x3 2)), (0, x4)] X w9 (fun o X1 v1 => X1 = X ∧ P11 o v1) ∧ ∀ (r12 : Int) (w13 : VV), P11 (some (0, r12)) w13 → ∃ P15 : Option AV → VV → Prop, Con mX10_tableAt 0 0 0 [(2, 0), (0, r12)] X w13 (fun o X1 v1 => X1 = X ∧ P15 o v1) ∧ ∀ (r16 : Int) (w17 : VV), P15 (some (2, r16)) w17 → (((r16 = -1) → i32 (x4 + 1) ∧ Ex mX10_firstLateBehind d 15 [(2, 0), (0, a1), (0, a2), (2, x3), (0, (x4 + 1)), (3, 0)] [] X w17 mc ms Q) ∧ ((¬ r16 = -1) → ∃ P19 : Option AV → VV → Prop, Con mX10_isBelow 0 0 0 [(2, r16), (0, a2)] X w17 (fun o X1 v1 => X1 = X ∧ P19 o v1) ∧ ∀ (r20 : Int) (w21 : VV), P19 (some (0, r20)) w21 → (((r20 = 0) → i32 (x4 + 1) ∧ Ex mX10_firstLateBehind d 15 [(2, 0), (0, a1), (0, a2), (2, x3), (0, (x4 + 1)), (3, 0)] [] X w21 mc ms Q) ∧ ((¬ r20 = 0) → ∃ P23 : Option AV → VV → Prop, Con mX6_get 0 0 0 [(2, (X.2 x3 2)), (0, x4)] X w21 (fun o X1 v1 => X1 = X ∧ P23 o v1) ∧ ∀ (r24 : Int) (w25 : VV), P23 (some (0, r24)) w25 → Q (some (0, r24)) X w25))))))) : Ex mX10_firstLateBehind d 15 [(2, 0), (0, a1), (0, a2), (2, x3), (0, x4), (3, 0)] [] X v mc ms Q := by
  refine x_li32 (i := 1) rfl (fun ha1 => ?_)
  have F := F ha1
  refine x_li32 (i := 2) rfl (fun ha2 => ?_)
  have F := F ha2
  refine x_li32 (i := 4) rfl (fun hx4 => ?_)
  have F := F hx4
  refine x_iload dX10_firstLateBehind_15 rfl ?_
  refine x_aload_n dX10_firstLateBehind_17 rfl ?_
  obtain ⟨hs5, hr5, F⟩ := F
  refine x_getr (r' := (X.2 x3 2)) flX10_153 dX10_firstLateBehind_18 hs5 hr5 rfl rfl (Nat.le_of_ble_eq_true rfl) ?_
  obtain ⟨hs6, hr6, F⟩ := F
  obtain ⟨P7, hC, F⟩ := F
  refine x_inv dX10_firstLateBehind_21 mlX10_75 hC hs6 (Nat.le_of_ble_eq_true rfl) hr6 rfl rfl (by omega) (Nat.zero_le _) (Nat.zero_le _) (Nat.le_of_ble_eq_true rfl) (fun o1 Y10 w9 ht hP => ?_)
  obtain ⟨r8, rfl⟩ : ∃ i, o1 = some (0, i) := ht
  obtain ⟨hX, hP⟩ := hP
  have hX := Eq.symm hX
  subst hX
  have F := F r8 w9 hP
  refine x_icmp_ge 72 dX10_firstLateBehind_24 rfl (fun hc => ?_) (fun hc => ?_)
  · have F := F.1 hc
    refine x_iconst dX10_firstLateBehind_72 rfl (i32_of rfl) ?_
    exact x_ret (some (0, (-1))) rfl ⟨dX10_firstLateBehind_73, Or.inl rfl⟩ F
  · have F := F.2 hc
    refine x_aload_n dX10_firstLateBehind_27 rfl ?_
    refine x_aload_n dX10_firstLateBehind_28 rfl ?_
    refine x_getr (r' := (X.2 x3 2)) flX10_153 dX10_firstLateBehind_29 hs5 hr5 rfl rfl (Nat.le_of_ble_eq_true rfl) ?_
    refine x_iload dX10_firstLateBehind_32 rfl ?_
    obtain ⟨P11, hC, F⟩ := F
    refine x_inv dX10_firstLateBehind_34 mlX10_156 hC hs6 (Nat.le_of_ble_eq_true rfl) hr6 rfl rfl (by omega) (Nat.zero_le _) (Nat.zero_le _) (Nat.le_of_ble_eq_true rfl) (fun o1 Y14 w13 ht hP => ?_)
    obtain ⟨r12, rfl⟩ : ∃ i, o1 = some (0, i) := ht
    obtain ⟨hX, hP⟩ := hP
    have hX := Eq.symm hX
    subst hX
    have F := F r12 w13 hP
    obtain ⟨P15, hC, F⟩ := F
    refine x_inv dX10_firstLateBehind_37 mlX10_143 hC (sW0 hW) (Nat.le_of_ble_eq_true rfl) (gW0 hW) rfl rfl (by omega) (Nat.zero_le _) (Nat.zero_le _) (Nat.le_of_ble_eq_true rfl) (fun o1 Y18 w17 ht hP => ?_)
    obtain ⟨r16, rfl⟩ : ∃ i, o1 = some (2, i) := ht
    obtain ⟨hX, hP⟩ := hP
    have hX := Eq.symm hX
    subst hX
    have F := F r16 w17 hP
    refine x_astore [(2, 0), (0, a1), (0, a2), (2, x3), (0, x4), (2, r16)] dX10_firstLateBehind_40 rfl (Nat.le_of_ble_eq_true rfl) ?_
    refine x_aload dX10_firstLateBehind_42 rfl ?_
    refine x_ifnull 66 dX10_firstLateBehind_44 rfl (fun hc => ?_) (fun hc => ?_)
    · have F := F.1 hc
      obtain ⟨hz, F⟩ := F
      refine x_iinc [(2, 0), (0, a1), (0, a2), (2, x3), (0, (x4 + 1)), (2, r16)] dX10_firstLateBehind_66 rfl rfl (Nat.le_of_ble_eq_true rfl) hz ?_
      refine x_goto 15 dX10_firstLateBehind_69 rfl ?_
      exact x_less [(2, 0), (0, a1), (0, a2), (2, x3), (0, (x4 + 1)), (3, 0)] ⟨Or.inr rfl, ⟨Or.inr rfl, ⟨Or.inr rfl, ⟨Or.inr rfl, ⟨Or.inr rfl, ⟨Or.inl rfl, trivial⟩⟩⟩⟩⟩⟩ F
    · have F := F.2 hc
      refine x_aload dX10_firstLateBehind_47 rfl ?_
      refine x_iload_n dX10_firstLateBehind_49 rfl ?_
      obtain ⟨P19, hC, F⟩ := F
      refine x_static dX10_firstLateBehind_50 mlX10_310 hC rfl rfl (by omega) (Nat.zero_le _) (Nat.zero_le _) (Nat.le_of_ble_eq_true rfl) (fun o1 Y22 w21 ht hP => ?_)
      obtain ⟨r20, rfl⟩ : ∃ i, o1 = some (0, i) := ht
      obtain ⟨hX, hP⟩ := hP
      have hX := Eq.symm hX
      subst hX
      have F := F r20 w21 hP
      refine x_if_eq 66 dX10_firstLateBehind_53 rfl (fun hc => ?_) (fun hc => ?_)
      · have F := F.1 hc
        obtain ⟨hz, F⟩ := F
        refine x_iinc [(2, 0), (0, a1), (0, a2), (2, x3), (0, (x4 + 1)), (2, r16)] dX10_firstLateBehind_66 rfl rfl (Nat.le_of_ble_eq_true rfl) hz ?_
        refine x_goto 15 dX10_firstLateBehind_69 rfl ?_
        exact x_less [(2, 0), (0, a1), (0, a2), (2, x3), (0, (x4 + 1)), (3, 0)] ⟨Or.inr rfl, ⟨Or.inr rfl, ⟨Or.inr rfl, ⟨Or.inr rfl, ⟨Or.inr rfl, ⟨Or.inl rfl, trivial⟩⟩⟩⟩⟩⟩ F
      · have F := F.2 hc
        refine x_aload_n dX10_firstLateBehind_56 rfl ?_
        refine x_getr (r' := (X.2 x3 2)) flX10_153 dX10_firstLateBehind_57 hs5 hr5 rfl rfl (Nat.le_of_ble_eq_true rfl) ?_
        refine x_iload dX10_firstLateBehind_60 rfl ?_
        obtain ⟨P23, hC, F⟩ := F
        refine x_inv dX10_firstLateBehind_62 mlX10_156 hC hs6 (Nat.le_of_ble_eq_true rfl) hr6 rfl rfl (by omega) (Nat.zero_le _) (Nat.zero_le _) (Nat.le_of_ble_eq_true rfl) (fun o1 Y26 w25 ht hP => ?_)
        obtain ⟨r24, rfl⟩ : ∃ i, o1 = some (0, i) := ht
        obtain ⟨hX, hP⟩ := hP
        have hX := Eq.symm hX
        subst hX
        have F := F r24 w25 hP
        exact x_ret (some (0, r24)) rfl ⟨dX10_firstLateBehind_65, Or.inl rfl⟩ F

set_option maxRecDepth 100000 in
set_option maxHeartbeats 4000000 in
theorem bX10_ownerOf_0 {d mc ms : Nat} {X : XX} {v : VV} {Q : QQ} (a1 : Int) (hd : 1 ≤ d) (hW : SW X) (F : i32 a1 → ∃ P1 : Option AV → VV → Prop, Con mX10_tableAt 0 0 0 [(2, 0), (0, a1)] X v (fun o X1 v1 => X1 = X ∧ P1 o v1) ∧ ∀ (r2 : Int) (w3 : VV), P1 (some (2, r2)) w3 → Ex mX10_ownerOf d 8 [(2, 0), (0, a1), (2, r2), (0, 0)] [] X w3 mc ms Q) : Ex mX10_ownerOf d 0 [(2, 0), (0, a1), (3, 0), (3, 0)] [] X v mc ms Q := by
  refine x_li32 (i := 1) rfl (fun ha1 => ?_)
  have F := F ha1
  refine x_aload_n dX10_ownerOf_0 rfl ?_
  refine x_iload_n dX10_ownerOf_1 rfl ?_
  obtain ⟨P1, hC, F⟩ := F
  refine x_inv dX10_ownerOf_2 mlX10_143 hC (sW0 hW) (Nat.le_of_ble_eq_true rfl) (gW0 hW) rfl rfl (by omega) (Nat.zero_le _) (Nat.zero_le _) (Nat.le_of_ble_eq_true rfl) (fun o1 Y4 w3 ht hP => ?_)
  obtain ⟨r2, rfl⟩ : ∃ i, o1 = some (2, i) := ht
  obtain ⟨hX, hP⟩ := hP
  have hX := Eq.symm hX
  subst hX
  have F := F r2 w3 hP
  refine x_astore_n [(2, 0), (0, a1), (2, r2), (3, 0)] dX10_ownerOf_5 rfl (Nat.le_of_ble_eq_true rfl) ?_
  refine x_iconst dX10_ownerOf_6 rfl (i32_of rfl) ?_
  refine x_istore_n [(2, 0), (0, a1), (2, r2), (0, 0)] dX10_ownerOf_7 rfl (Nat.le_of_ble_eq_true rfl) ?_
  exact F

set_option maxRecDepth 100000 in
set_option maxHeartbeats 4000000 in
theorem bX10_ownerOf_8 {d mc ms : Nat} {X : XX} {v : VV} {Q : QQ} (a1 : Int) (x2 : Int) (x3 : Int) (hd : 1 ≤ d) (hW : SW X) (F : i32 a1 → i32 x3 → (((16 ≤ x3) → Q (some (0, (-1))) X v) ∧ ((x3 < 16) → (((x2 = -1) → Q (some (0, (-1))) X v) ∧ ((¬ x2 = -1) → X.1.2 x2 = (7, 0) ∧ (0 ≤ x2 ∧ x2 < X.1.1) ∧ ((((v x2 8) = (-1)) → X.1.2 (X.2 x2 2) = (6, 0) ∧ (0 ≤ (X.2 x2 2) ∧ (X.2 x2 2) < X.1.1) ∧ ∃ P7 : Option AV → VV → Prop, Con mX6_get 0 0 0 [(2, (X.2 x2 2)), (0, 0)] X v (fun o X1 v1 => X1 = X ∧ P7 o v1) ∧ ∀ (r8 : Int) (w9 : VV), P7 (some (0, r8)) w9 → ∃ P11 : Option AV → VV → Prop, Con mX10_tableAt 0 0 0 [(2, 0), (0, r8)] X w9 (fun o X1 v1 => X1 = X ∧ P11 o v1) ∧ ∀ (r12 : Int) (w13 : VV), P11 (some (2, r12)) w13 → i32 (x3 + 1) ∧ Ex mX10_ownerOf d 8 [(2, 0), (0, a1), (2, r12), (0, (x3 + 1))] [] X w13 mc ms Q) ∧ ((¬ (v x2 8) = (-1)) → Q (some (0, (v x2 8))) X v))))))) : Ex mX10_ownerOf d 8 [(2, 0), (0, a1), (2, x2), (0, x3)] [] X v mc ms Q := by
  refine x_li32 (i := 1) rfl (fun ha1 => ?_)
  have F := F ha1
  refine x_li32 (i := 3) rfl (fun hx3 => ?_)
  have F := F hx3
  refine x_iload_n dX10_ownerOf_8 rfl ?_
  refine x_bipush dX10_ownerOf_9 kb_16 (i32_of rfl) ?_
  refine x_icmp_ge 50 dX10_ownerOf_11 rfl (fun hc => ?_) (fun hc => ?_)
  · have F := F.1 hc
    refine x_iconst dX10_ownerOf_50 rfl (i32_of rfl) ?_
    exact x_ret (some (0, (-1))) rfl ⟨dX10_ownerOf_51, Or.inl rfl⟩ F
  · have F := F.2 hc
    refine x_aload_n dX10_ownerOf_14 rfl ?_
    refine x_ifnull 50 dX10_ownerOf_15 rfl (fun hc => ?_) (fun hc => ?_)
    · have F := F.1 hc
      refine x_iconst dX10_ownerOf_50 rfl (i32_of rfl) ?_
      exact x_ret (some (0, (-1))) rfl ⟨dX10_ownerOf_51, Or.inl rfl⟩ F
    · have F := F.2 hc
      refine x_aload_n dX10_ownerOf_18 rfl ?_
      obtain ⟨hs5, hr5, F⟩ := F
      refine x_geti (e := (v x2 8)) 0 flX10_257 dX10_ownerOf_19 hs5 hr5 rfl rfl (Nat.le_of_ble_eq_true rfl) (tagn2 rfl) ?_
      refine x_iconst dX10_ownerOf_22 rfl (i32_of rfl) ?_
      refine x_icmp_eq 31 dX10_ownerOf_23 rfl (fun hc => ?_) (fun hc => ?_)
      · have F := F.1 hc
        refine x_aload_n dX10_ownerOf_31 rfl ?_
        refine x_aload_n dX10_ownerOf_32 rfl ?_
        refine x_getr (r' := (X.2 x2 2)) flX10_153 dX10_ownerOf_33 hs5 hr5 rfl rfl (Nat.le_of_ble_eq_true rfl) ?_
        refine x_iconst dX10_ownerOf_36 rfl (i32_of rfl) ?_
        obtain ⟨hs6, hr6, F⟩ := F
        obtain ⟨P7, hC, F⟩ := F
        refine x_inv dX10_ownerOf_37 mlX10_156 hC hs6 (Nat.le_of_ble_eq_true rfl) hr6 rfl rfl (by omega) (Nat.zero_le _) (Nat.zero_le _) (Nat.le_of_ble_eq_true rfl) (fun o1 Y10 w9 ht hP => ?_)
        obtain ⟨r8, rfl⟩ : ∃ i, o1 = some (0, i) := ht
        obtain ⟨hX, hP⟩ := hP
        have hX := Eq.symm hX
        subst hX
        have F := F r8 w9 hP
        obtain ⟨P11, hC, F⟩ := F
        refine x_inv dX10_ownerOf_40 mlX10_143 hC (sW0 hW) (Nat.le_of_ble_eq_true rfl) (gW0 hW) rfl rfl (by omega) (Nat.zero_le _) (Nat.zero_le _) (Nat.le_of_ble_eq_true rfl) (fun o1 Y14 w13 ht hP => ?_)
        obtain ⟨r12, rfl⟩ : ∃ i, o1 = some (2, i) := ht
        obtain ⟨hX, hP⟩ := hP
        have hX := Eq.symm hX
        subst hX
        have F := F r12 w13 hP
        refine x_astore_n [(2, 0), (0, a1), (2, r12), (0, x3)] dX10_ownerOf_43 rfl (Nat.le_of_ble_eq_true rfl) ?_
        obtain ⟨hz, F⟩ := F
        refine x_iinc [(2, 0), (0, a1), (2, r12), (0, (x3 + 1))] dX10_ownerOf_44 rfl rfl (Nat.le_of_ble_eq_true rfl) hz ?_
        refine x_goto 8 dX10_ownerOf_47 rfl ?_
        exact F
      · have F := F.2 hc
        refine x_aload_n dX10_ownerOf_26 rfl ?_
        refine x_geti (e := (v x2 8)) 0 flX10_257 dX10_ownerOf_27 hs5 hr5 rfl rfl (Nat.le_of_ble_eq_true rfl) (tagn2 rfl) ?_
        exact x_ret (some (0, (v x2 8))) rfl ⟨dX10_ownerOf_30, Or.inl rfl⟩ F

set_option maxRecDepth 100000 in
set_option maxHeartbeats 4000000 in
theorem bX10_usedTables_0 {d mc ms : Nat} {X : XX} {v : VV} {Q : QQ} (a1 : Int) (hd : 1 ≤ d) (hW : SW X) (F : i32 a1 → Ex mX10_usedTables d 4 [(2, 0), (0, a1), (0, 0), (0, 0), (3, 0), (3, 0)] [] X v mc ms Q) : Ex mX10_usedTables d 0 [(2, 0), (0, a1), (3, 0), (3, 0), (3, 0), (3, 0)] [] X v mc ms Q := by
  refine x_li32 (i := 1) rfl (fun ha1 => ?_)
  have F := F ha1
  refine x_iconst dX10_usedTables_0 rfl (i32_of rfl) ?_
  refine x_istore_n [(2, 0), (0, a1), (0, 0), (3, 0), (3, 0), (3, 0)] dX10_usedTables_1 rfl (Nat.le_of_ble_eq_true rfl) ?_
  refine x_iconst dX10_usedTables_2 rfl (i32_of rfl) ?_
  refine x_istore_n [(2, 0), (0, a1), (0, 0), (0, 0), (3, 0), (3, 0)] dX10_usedTables_3 rfl (Nat.le_of_ble_eq_true rfl) ?_
  exact F

set_option maxRecDepth 100000 in
set_option maxHeartbeats 4000000 in
theorem bX10_usedTables_4 {d mc ms : Nat} {X : XX} {v : VV} {Q : QQ} (a1 : Int) (x2 : Int) (x3 : Int) (hd : 1 ≤ d) (hW : SW X) (F : i32 a1 → i32 x2 → i32 x3 → (((40 ≤ x3) → Ex mX10_usedTables d 51 [(2, 0), (0, a1), (0, x2), (0, 15), (3, 0), (3, 0)] [] X v mc ms Q) ∧ ((x3 < 40) → (0 ≤ x3 ∧ x3 < 40) ∧ ((((X.2 40 x3) = -1) → i32 (x3 + 1) ∧ Ex mX10_usedTables d 4 [(2, 0), (0, a1), (0, x2), (0, (x3 + 1)), (3, 0), (3, 0)] [] X v mc ms Q) ∧ ((¬ (X.2 40 x3) = -1) → X.1.2 (X.2 40 x3) = (0, 0) ∧ (0 ≤ (X.2 40 x3) ∧ (X.2 40 x3) < X.1.1) ∧ ((((v (X.2 40 x3) 2) < a1) → i32 (x3 + 1) ∧ Ex mX10_usedTables d 4 [(2, 0), (0, a1), (0, x2), (0, (x3 + 1)), (3, 0), (3, 0)] [] X v mc ms Q) ∧ ((a1 ≤ (v (X.2 40 x3) 2)) → ∀ z2 : Int, Int32.ofInt 1 <<< (Int32.ofInt (v (X.2 40 x3) 0) &&& 31) = Int32.ofInt z2 → i32 z2 → ∀ z3 : Int, Int32.ofInt x2 ||| Int32.ofInt z2 = Int32.ofInt z3 → i32 z3 → i32 (x3 + 1) ∧ Ex mX10_usedTables d 4 [(2, 0), (0, a1), (0, z3), (0, (x3 + 1)), (3, 0), (3, 0)] [] X v mc ms Q))))))) : Ex mX10_usedTables d 4 [(2, 0), (0, a1), (0, x2), (0, x3), (3, 0), (3, 0)] [] X v mc ms Q := by
  refine x_li32 (i := 1) rfl (fun ha1 => ?_)
  have F := F ha1
  refine x_li32 (i := 2) rfl (fun hx2 => ?_)
  have F := F hx2
  refine x_li32 (i := 3) rfl (fun hx3 => ?_)
  have F := F hx3
  refine x_iload_n dX10_usedTables_4 rfl ?_
  refine x_bipush dX10_usedTables_5 kb_40 (i32_of rfl) ?_
  refine x_icmp_ge 48 dX10_usedTables_7 rfl (fun hc => ?_) (fun hc => ?_)
  · have F := F.1 hc
    refine x_bipush dX10_usedTables_48 kb_15 (i32_of rfl) ?_
    refine x_istore_n [(2, 0), (0, a1), (0, x2), (0, 15), (3, 0), (3, 0)] dX10_usedTables_50 rfl (Nat.le_of_ble_eq_true rfl) ?_
    exact F
  · have F := F.2 hc
    refine x_aload_n dX10_usedTables_10 rfl ?_
    refine x_getr (r' := 40) flX10_54 dX10_usedTables_11 (sW0 hW) (gW0 hW) (rW0_7 hW) rfl (Nat.le_of_ble_eq_true rfl) ?_
    refine x_iload_n dX10_usedTables_14 rfl ?_
    obtain ⟨hi, F⟩ := F
    refine x_aald (r' := (X.2 40 x3)) dX10_usedTables_15 (sW40 hW) (by decide) (gW40 hW) hi rfl ?_
    refine x_astore [(2, 0), (0, a1), (0, x2), (0, x3), (2, (X.2 40 x3)), (3, 0)] dX10_usedTables_16 rfl (Nat.le_of_ble_eq_true rfl) ?_
    refine x_aload dX10_usedTables_18 rfl ?_
    refine x_ifnull 42 dX10_usedTables_20 rfl (fun hc => ?_) (fun hc => ?_)
    · have F := F.1 hc
      obtain ⟨hz, F⟩ := F
      refine x_iinc [(2, 0), (0, a1), (0, x2), (0, (x3 + 1)), (2, (X.2 40 x3)), (3, 0)] dX10_usedTables_42 rfl rfl (Nat.le_of_ble_eq_true rfl) hz ?_
      refine x_goto 4 dX10_usedTables_45 rfl ?_
      exact x_less [(2, 0), (0, a1), (0, x2), (0, (x3 + 1)), (3, 0), (3, 0)] ⟨Or.inr rfl, ⟨Or.inr rfl, ⟨Or.inr rfl, ⟨Or.inr rfl, ⟨Or.inl rfl, ⟨Or.inr rfl, trivial⟩⟩⟩⟩⟩⟩ F
    · have F := F.2 hc
      refine x_aload dX10_usedTables_23 rfl ?_
      obtain ⟨hs1, hr1, F⟩ := F
      refine x_geti (e := (v (X.2 40 x3) 2)) 0 flX10_314 dX10_usedTables_25 hs1 hr1 rfl rfl (Nat.le_of_ble_eq_true rfl) (tagn2 rfl) ?_
      refine x_iload_n dX10_usedTables_28 rfl ?_
      refine x_icmp_lt 42 dX10_usedTables_29 rfl (fun hc => ?_) (fun hc => ?_)
      · have F := F.1 hc
        obtain ⟨hz, F⟩ := F
        refine x_iinc [(2, 0), (0, a1), (0, x2), (0, (x3 + 1)), (2, (X.2 40 x3)), (3, 0)] dX10_usedTables_42 rfl rfl (Nat.le_of_ble_eq_true rfl) hz ?_
        refine x_goto 4 dX10_usedTables_45 rfl ?_
        exact x_less [(2, 0), (0, a1), (0, x2), (0, (x3 + 1)), (3, 0), (3, 0)] ⟨Or.inr rfl, ⟨Or.inr rfl, ⟨Or.inr rfl, ⟨Or.inr rfl, ⟨Or.inl rfl, ⟨Or.inr rfl, trivial⟩⟩⟩⟩⟩⟩ F
      · have F := F.2 hc
        refine x_iload_n dX10_usedTables_32 rfl ?_
        refine x_iconst dX10_usedTables_33 rfl (i32_of rfl) ?_
        refine x_aload dX10_usedTables_34 rfl ?_
        refine x_geti (e := (v (X.2 40 x3) 0)) 0 flX10_203 dX10_usedTables_36 hs1 hr1 rfl rfl (Nat.le_of_ble_eq_true rfl) (tagn2 rfl) ?_
        obtain ⟨z2, ez2, hz2⟩ := i32_ex (Int32.ofInt 1 <<< (Int32.ofInt (v (X.2 40 x3) 0) &&& 31))
        have F := F z2 ez2 hz2
        refine x_ishl (z := z2) dX10_usedTables_39 ez2 hz2 ?_
        obtain ⟨z3, ez3, hz3⟩ := i32_ex (Int32.ofInt x2 ||| Int32.ofInt z2)
        have F := F z3 ez3 hz3
        refine x_ior (z := z3) dX10_usedTables_40 ez3 hz3 ?_
        refine x_istore_n [(2, 0), (0, a1), (0, z3), (0, x3), (2, (X.2 40 x3)), (3, 0)] dX10_usedTables_41 rfl (Nat.le_of_ble_eq_true rfl) ?_
        obtain ⟨hz, F⟩ := F
        refine x_iinc [(2, 0), (0, a1), (0, z3), (0, (x3 + 1)), (2, (X.2 40 x3)), (3, 0)] dX10_usedTables_42 rfl rfl (Nat.le_of_ble_eq_true rfl) hz ?_
        refine x_goto 4 dX10_usedTables_45 rfl ?_
        exact x_less [(2, 0), (0, a1), (0, z3), (0, (x3 + 1)), (3, 0), (3, 0)] ⟨Or.inr rfl, ⟨Or.inr rfl, ⟨Or.inr rfl, ⟨Or.inr rfl, ⟨Or.inl rfl, ⟨Or.inr rfl, trivial⟩⟩⟩⟩⟩⟩ F

set_option maxRecDepth 100000 in
set_option maxHeartbeats 4000000 in
theorem bX10_usedTables_51 {d mc ms : Nat} {X : XX} {v : VV} {Q : QQ} (a1 : Int) (x2 : Int) (x3 : Int) (hd : 1 ≤ d) (hW : SW X) (F : i32 a1 → i32 x2 → i32 x3 → (((x3 < 0) → Q (some (0, x2)) X v) ∧ ((0 ≤ x3) → (0 ≤ x3 ∧ x3 < 16) ∧ ((((X.2 37 x3) = -1) → i32 (x3 + (-1)) ∧ Ex mX10_usedTables d 51 [(2, 0), (0, a1), (0, x2), (0, (x3 + (-1))), (3, 0), (3, 0)] [] X v mc ms Q) ∧ ((¬ (X.2 37 x3) = -1) → ∀ z4 : Int, Int32.ofInt x2 >>> (Int32.ofInt x3 &&& 31) = Int32.ofInt z4 → i32 z4 → ∀ z5 : Int, Int32.ofInt z4 &&& Int32.ofInt 1 = Int32.ofInt z5 → i32 z5 → (((¬ z5 = 0) → Ex mX10_usedTables d 82 [(2, 0), (0, a1), (0, x2), (0, x3), (2, (X.2 37 x3)), (0, 0)] [] X v mc ms Q) ∧ ((z5 = 0) → i32 (x3 + (-1)) ∧ Ex mX10_usedTables d 51 [(2, 0), (0, a1), (0, x2), (0, (x3 + (-1))), (3, 0), (3, 0)] [] X v mc ms Q))))))) : Ex mX10_usedTables d 51 [(2, 0), (0, a1), (0, x2), (0, x3), (3, 0), (3, 0)] [] X v mc ms Q := by
  refine x_li32 (i := 1) rfl (fun ha1 => ?_)
  have F := F ha1
  refine x_li32 (i := 2) rfl (fun hx2 => ?_)
  have F := F hx2
  refine x_li32 (i := 3) rfl (fun hx3 => ?_)
  have F := F hx3
  refine x_iload_n dX10_usedTables_51 rfl ?_
  refine x_if_lt 122 dX10_usedTables_52 rfl (fun hc => ?_) (fun hc => ?_)
  · have F := F.1 hc
    refine x_iload_n dX10_usedTables_122 rfl ?_
    exact x_ret (some (0, x2)) rfl ⟨dX10_usedTables_123, Or.inl rfl⟩ F
  · have F := F.2 hc
    refine x_aload_n dX10_usedTables_55 rfl ?_
    refine x_getr (r' := 37) flX10_41 dX10_usedTables_56 (sW0 hW) (gW0 hW) (rW0_4 hW) rfl (Nat.le_of_ble_eq_true rfl) ?_
    refine x_iload_n dX10_usedTables_59 rfl ?_
    obtain ⟨hi, F⟩ := F
    refine x_aald (r' := (X.2 37 x3)) dX10_usedTables_60 (sW37 hW) (by decide) (gW37 hW) hi rfl ?_
    refine x_astore [(2, 0), (0, a1), (0, x2), (0, x3), (2, (X.2 37 x3)), (3, 0)] dX10_usedTables_61 rfl (Nat.le_of_ble_eq_true rfl) ?_
    refine x_aload dX10_usedTables_63 rfl ?_
    refine x_ifnull 116 dX10_usedTables_65 rfl (fun hc => ?_) (fun hc => ?_)
    · have F := F.1 hc
      obtain ⟨hz, F⟩ := F
      refine x_iinc [(2, 0), (0, a1), (0, x2), (0, (x3 + (-1))), (2, (X.2 37 x3)), (3, 0)] dX10_usedTables_116 rfl rfl (Nat.le_of_ble_eq_true rfl) hz ?_
      refine x_goto 51 dX10_usedTables_119 rfl ?_
      exact x_less [(2, 0), (0, a1), (0, x2), (0, (x3 + (-1))), (3, 0), (3, 0)] ⟨Or.inr rfl, ⟨Or.inr rfl, ⟨Or.inr rfl, ⟨Or.inr rfl, ⟨Or.inl rfl, ⟨Or.inr rfl, trivial⟩⟩⟩⟩⟩⟩ F
    · have F := F.2 hc
      refine x_iload_n dX10_usedTables_68 rfl ?_
      refine x_iload_n dX10_usedTables_69 rfl ?_
      obtain ⟨z4, ez4, hz4⟩ := i32_ex (Int32.ofInt x2 >>> (Int32.ofInt x3 &&& 31))
      have F := F z4 ez4 hz4
      refine x_ishr (z := z4) dX10_usedTables_70 ez4 hz4 ?_
      refine x_iconst dX10_usedTables_71 rfl (i32_of rfl) ?_
      obtain ⟨z5, ez5, hz5⟩ := i32_ex (Int32.ofInt z4 &&& Int32.ofInt 1)
      have F := F z5 ez5 hz5
      refine x_iand (z := z5) dX10_usedTables_72 ez5 hz5 ?_
      refine x_if_ne 79 dX10_usedTables_73 rfl (fun hc => ?_) (fun hc => ?_)
      · have F := F.1 hc
        refine x_iconst dX10_usedTables_79 rfl (i32_of rfl) ?_
        refine x_istore [(2, 0), (0, a1), (0, x2), (0, x3), (2, (X.2 37 x3)), (0, 0)] dX10_usedTables_80 rfl (Nat.le_of_ble_eq_true rfl) ?_
        exact F
      · have F := F.2 hc
        refine x_goto 116 dX10_usedTables_76 rfl ?_
        obtain ⟨hz, F⟩ := F
        refine x_iinc [(2, 0), (0, a1), (0, x2), (0, (x3 + (-1))), (2, (X.2 37 x3)), (3, 0)] dX10_usedTables_116 rfl rfl (Nat.le_of_ble_eq_true rfl) hz ?_
        refine x_goto 51 dX10_usedTables_119 rfl ?_
        exact x_less [(2, 0), (0, a1), (0, x2), (0, (x3 + (-1))), (3, 0), (3, 0)] ⟨Or.inr rfl, ⟨Or.inr rfl, ⟨Or.inr rfl, ⟨Or.inr rfl, ⟨Or.inl rfl, ⟨Or.inr rfl, trivial⟩⟩⟩⟩⟩⟩ F

set_option maxRecDepth 100000 in
set_option maxHeartbeats 4000000 in
theorem bX10_usedTables_82 {d mc ms : Nat} {X : XX} {v : VV} {Q : QQ} (a1 : Int) (x2 : Int) (x3 : Int) (x4 : Int) (x5 : Int) (hd : 1 ≤ d) (hW : SW X) (F : i32 a1 → i32 x2 → i32 x3 → i32 x5 → X.1.2 x4 = (7, 0) ∧ (0 ≤ x4 ∧ x4 < X.1.1) ∧ X.1.2 (X.2 x4 2) = (6, 0) ∧ (0 ≤ (X.2 x4 2) ∧ (X.2 x4 2) < X.1.1) ∧ ∃ P8 : Option AV → VV → Prop, Con mX6_size 0 0 0 [(2, (X.2 x4 2))] X v (fun o X1 v1 => X1 = X ∧ P8 o v1) ∧ ∀ (r9 : Int) (w10 : VV), P8 (some (0, r9)) w10 → (((r9 ≤ x5) → i32 (x3 + (-1)) ∧ Ex mX10_usedTables d 51 [(2, 0), (0, a1), (0, x2), (0, (x3 + (-1))), (3, 0), (3, 0)] [] X w10 mc ms Q) ∧ ((x5 < r9) → ∃ P12 : Option AV → VV → Prop, Con mX6_get 0 0 0 [(2, (X.2 x4 2)), (0, x5)] X w10 (fun o X1 v1 => X1 = X ∧ P12 o v1) ∧ ∀ (r13 : Int) (w14 : VV), P12 (some (0, r13)) w14 → ∀ z16 : Int, Int32.ofInt 1 <<< (Int32.ofInt r13 &&& 31) = Int32.ofInt z16 → i32 z16 → ∀ z17 : Int, Int32.ofInt x2 ||| Int32.ofInt z16 = Int32.ofInt z17 → i32 z17 → i32 (x5 + 1) ∧ Ex mX10_usedTables d 82 [(2, 0), (0, a1), (0, z17), (0, x3), (2, x4), (0, (x5 + 1))] [] X w14 mc ms Q))) : Ex mX10_usedTables d 82 [(2, 0), (0, a1), (0, x2), (0, x3), (2, x4), (0, x5)] [] X v mc ms Q := by
  refine x_li32 (i := 1) rfl (fun ha1 => ?_)
  have F := F ha1
  refine x_li32 (i := 2) rfl (fun hx2 => ?_)
  have F := F hx2
  refine x_li32 (i := 3) rfl (fun hx3 => ?_)
  have F := F hx3
  refine x_li32 (i := 5) rfl (fun hx5 => ?_)
  have F := F hx5
  refine x_iload dX10_usedTables_82 rfl ?_
  refine x_aload dX10_usedTables_84 rfl ?_
  obtain ⟨hs6, hr6, F⟩ := F
  refine x_getr (r' := (X.2 x4 2)) flX10_153 dX10_usedTables_86 hs6 hr6 rfl rfl (Nat.le_of_ble_eq_true rfl) ?_
  obtain ⟨hs7, hr7, F⟩ := F
  obtain ⟨P8, hC, F⟩ := F
  refine x_inv dX10_usedTables_89 mlX10_75 hC hs7 (Nat.le_of_ble_eq_true rfl) hr7 rfl rfl (by omega) (Nat.zero_le _) (Nat.zero_le _) (Nat.le_of_ble_eq_true rfl) (fun o1 Y11 w10 ht hP => ?_)
  obtain ⟨r9, rfl⟩ : ∃ i, o1 = some (0, i) := ht
  obtain ⟨hX, hP⟩ := hP
  have hX := Eq.symm hX
  subst hX
  have F := F r9 w10 hP
  refine x_icmp_ge 116 dX10_usedTables_92 rfl (fun hc => ?_) (fun hc => ?_)
  · have F := F.1 hc
    obtain ⟨hz, F⟩ := F
    refine x_iinc [(2, 0), (0, a1), (0, x2), (0, (x3 + (-1))), (2, x4), (0, x5)] dX10_usedTables_116 rfl rfl (Nat.le_of_ble_eq_true rfl) hz ?_
    refine x_goto 51 dX10_usedTables_119 rfl ?_
    exact x_less [(2, 0), (0, a1), (0, x2), (0, (x3 + (-1))), (3, 0), (3, 0)] ⟨Or.inr rfl, ⟨Or.inr rfl, ⟨Or.inr rfl, ⟨Or.inr rfl, ⟨Or.inl rfl, ⟨Or.inl rfl, trivial⟩⟩⟩⟩⟩⟩ F
  · have F := F.2 hc
    refine x_iload_n dX10_usedTables_95 rfl ?_
    refine x_iconst dX10_usedTables_96 rfl (i32_of rfl) ?_
    refine x_aload dX10_usedTables_97 rfl ?_
    refine x_getr (r' := (X.2 x4 2)) flX10_153 dX10_usedTables_99 hs6 hr6 rfl rfl (Nat.le_of_ble_eq_true rfl) ?_
    refine x_iload dX10_usedTables_102 rfl ?_
    obtain ⟨P12, hC, F⟩ := F
    refine x_inv dX10_usedTables_104 mlX10_156 hC hs7 (Nat.le_of_ble_eq_true rfl) hr7 rfl rfl (by omega) (Nat.zero_le _) (Nat.zero_le _) (Nat.le_of_ble_eq_true rfl) (fun o1 Y15 w14 ht hP => ?_)
    obtain ⟨r13, rfl⟩ : ∃ i, o1 = some (0, i) := ht
    obtain ⟨hX, hP⟩ := hP
    have hX := Eq.symm hX
    subst hX
    have F := F r13 w14 hP
    obtain ⟨z16, ez16, hz16⟩ := i32_ex (Int32.ofInt 1 <<< (Int32.ofInt r13 &&& 31))
    have F := F z16 ez16 hz16
    refine x_ishl (z := z16) dX10_usedTables_107 ez16 hz16 ?_
    obtain ⟨z17, ez17, hz17⟩ := i32_ex (Int32.ofInt x2 ||| Int32.ofInt z16)
    have F := F z17 ez17 hz17
    refine x_ior (z := z17) dX10_usedTables_108 ez17 hz17 ?_
    refine x_istore_n [(2, 0), (0, a1), (0, z17), (0, x3), (2, x4), (0, x5)] dX10_usedTables_109 rfl (Nat.le_of_ble_eq_true rfl) ?_
    obtain ⟨hz, F⟩ := F
    refine x_iinc [(2, 0), (0, a1), (0, z17), (0, x3), (2, x4), (0, (x5 + 1))] dX10_usedTables_110 rfl rfl (Nat.le_of_ble_eq_true rfl) hz ?_
    refine x_goto 82 dX10_usedTables_113 rfl ?_
    exact F
