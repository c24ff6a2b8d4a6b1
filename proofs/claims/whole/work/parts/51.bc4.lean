set_option maxRecDepth 100000 in
set_option maxHeartbeats 4000000 in
theorem bX8_isBlank_0 {d mc ms : Nat} {X : XX} {v : VV} {Q : QQ} (a1 : Int) (hd : 0 ≤ d) (hW : SW X) (F : i32 a1 → (((a1 = 32) → Q (some (0, 1)) X v) ∧ ((¬ a1 = 32) → (((¬ a1 = 10) → Q (some (0, 0)) X v) ∧ ((a1 = 10) → Q (some (0, 1)) X v))))) : Ex mX8_isBlank d 0 [(0, a1)] [] X v mc ms Q := by
  refine x_li32 (i := 0) rfl (fun ha1 => ?_)
  have F := F ha1
  refine x_iload_n dX8_isBlank_0 rfl ?_
  refine x_bipush dX8_isBlank_1 kb_32 (i32_of rfl) ?_
  refine x_icmp_eq 12 dX8_isBlank_3 rfl (fun hc => ?_) (fun hc => ?_)
  · have F := F.1 hc
    refine x_iconst dX8_isBlank_12 rfl (i32_of rfl) ?_
    refine x_goto 17 dX8_isBlank_13 rfl ?_
    exact x_ret (some (0, 1)) rfl ⟨dX8_isBlank_17, Or.inr ⟨rfl, Or.inr rfl⟩⟩ F
  · have F := F.2 hc
    refine x_iload_n dX8_isBlank_6 rfl ?_
    refine x_bipush dX8_isBlank_7 kb_10 (i32_of rfl) ?_
    refine x_icmp_ne 16 dX8_isBlank_9 rfl (fun hc => ?_) (fun hc => ?_)
    · have F := F.1 hc
      refine x_iconst dX8_isBlank_16 rfl (i32_of rfl) ?_
      exact x_ret (some (0, 0)) rfl ⟨dX8_isBlank_17, Or.inr ⟨rfl, Or.inl rfl⟩⟩ F
    · have F := F.2 hc
      refine x_iconst dX8_isBlank_12 rfl (i32_of rfl) ?_
      refine x_goto 17 dX8_isBlank_13 rfl ?_
      exact x_ret (some (0, 1)) rfl ⟨dX8_isBlank_17, Or.inr ⟨rfl, Or.inr rfl⟩⟩ F

set_option maxRecDepth 100000 in
set_option maxHeartbeats 4000000 in
theorem bX8_isLetter_0 {d mc ms : Nat} {X : XX} {v : VV} {Q : QQ} (a1 : Int) (hd : 0 ≤ d) (hW : SW X) (F : i32 a1 → (((a1 < 97) → Q (some (0, 0)) X v) ∧ ((97 ≤ a1) → (((122 < a1) → Q (some (0, 0)) X v) ∧ ((a1 ≤ 122) → Q (some (0, 1)) X v))))) : Ex mX8_isLetter d 0 [(0, a1)] [] X v mc ms Q := by
  refine x_li32 (i := 0) rfl (fun ha1 => ?_)
  have F := F ha1
  refine x_iload_n dX8_isLetter_0 rfl ?_
  refine x_bipush dX8_isLetter_1 kb_97 (i32_of rfl) ?_
  refine x_icmp_lt 16 dX8_isLetter_3 rfl (fun hc => ?_) (fun hc => ?_)
  · have F := F.1 hc
    refine x_iconst dX8_isLetter_16 rfl (i32_of rfl) ?_
    exact x_ret (some (0, 0)) rfl ⟨dX8_isLetter_17, Or.inr ⟨rfl, Or.inl rfl⟩⟩ F
  · have F := F.2 hc
    refine x_iload_n dX8_isLetter_6 rfl ?_
    refine x_bipush dX8_isLetter_7 kb_122 (i32_of rfl) ?_
    refine x_icmp_gt 16 dX8_isLetter_9 rfl (fun hc => ?_) (fun hc => ?_)
    · have F := F.1 hc
      refine x_iconst dX8_isLetter_16 rfl (i32_of rfl) ?_
      exact x_ret (some (0, 0)) rfl ⟨dX8_isLetter_17, Or.inr ⟨rfl, Or.inl rfl⟩⟩ F
    · have F := F.2 hc
      refine x_iconst dX8_isLetter_12 rfl (i32_of rfl) ?_
      refine x_goto 17 dX8_isLetter_13 rfl ?_
      exact x_ret (some (0, 1)) rfl ⟨dX8_isLetter_17, Or.inr ⟨rfl, Or.inr rfl⟩⟩ F

set_option maxRecDepth 100000 in
set_option maxHeartbeats 4000000 in
theorem bX8_isDigit_0 {d mc ms : Nat} {X : XX} {v : VV} {Q : QQ} (a1 : Int) (hd : 0 ≤ d) (hW : SW X) (F : i32 a1 → (((a1 < 48) → Q (some (0, 0)) X v) ∧ ((48 ≤ a1) → (((57 < a1) → Q (some (0, 0)) X v) ∧ ((a1 ≤ 57) → Q (some (0, 1)) X v))))) : Ex mX8_isDigit d 0 [(0, a1)] [] X v mc ms Q := by
  refine x_li32 (i := 0) rfl (fun ha1 => ?_)
  have F := F ha1
  refine x_iload_n dX8_isDigit_0 rfl ?_
  refine x_bipush dX8_isDigit_1 kb_48 (i32_of rfl) ?_
  refine x_icmp_lt 16 dX8_isDigit_3 rfl (fun hc => ?_) (fun hc => ?_)
  · have F := F.1 hc
    refine x_iconst dX8_isDigit_16 rfl (i32_of rfl) ?_
    exact x_ret (some (0, 0)) rfl ⟨dX8_isDigit_17, Or.inr ⟨rfl, Or.inl rfl⟩⟩ F
  · have F := F.2 hc
    refine x_iload_n dX8_isDigit_6 rfl ?_
    refine x_bipush dX8_isDigit_7 kb_57 (i32_of rfl) ?_
    refine x_icmp_gt 16 dX8_isDigit_9 rfl (fun hc => ?_) (fun hc => ?_)
    · have F := F.1 hc
      refine x_iconst dX8_isDigit_16 rfl (i32_of rfl) ?_
      exact x_ret (some (0, 0)) rfl ⟨dX8_isDigit_17, Or.inr ⟨rfl, Or.inl rfl⟩⟩ F
    · have F := F.2 hc
      refine x_iconst dX8_isDigit_12 rfl (i32_of rfl) ?_
      refine x_goto 17 dX8_isDigit_13 rfl ?_
      exact x_ret (some (0, 1)) rfl ⟨dX8_isDigit_17, Or.inr ⟨rfl, Or.inr rfl⟩⟩ F

set_option maxRecDepth 100000 in
set_option maxHeartbeats 4000000 in
theorem bX9_typeOfPart_0 {d mc ms : Nat} {X : XX} {v : VV} {Q : QQ} (o : Int) (a1 : Int) (a2 : Int) (a3 : Int) (hd : 3 ≤ d) (hW : SW X) (F : i32 a2 → X.1.2 o = (9, 0) ∧ (0 ≤ o ∧ o < X.1.1) ∧ X.1.2 a1 = (5, 0) ∧ (0 ≤ a1 ∧ a1 < X.1.1) ∧ ∃ P3 : Option AV → VV → Prop, Con mX5_stopOf 0 0 0 [(2, a1), (0, a2)] X (upd2 (upd2 v o 1 0) o 2 (-1)) (fun o X1 v1 => X1 = X ∧ P3 o v1) ∧ ∀ (r4 : Int) (w5 : VV), P3 (some (0, r4)) w5 → ∃ P7 : Option AV → VV → Prop, Con mX5_startOf 0 0 0 [(2, a1), (0, a2)] X w5 (fun o X1 v1 => X1 = X ∧ P7 o v1) ∧ ∀ (r8 : Int) (w9 : VV), P7 (some (0, r8)) w9 → Ex mX9_typeOfPart d 24 [(2, o), (2, a1), (0, a2), (2, a3), (0, r4), (0, r8), (3, 0), (3, 0)] [] X w9 mc ms Q) : Ex mX9_typeOfPart d 0 [(2, o), (2, a1), (0, a2), (2, a3), (3, 0), (3, 0), (3, 0), (3, 0)] [] X v mc ms Q := by
  refine x_li32 (i := 2) rfl (fun ha2 => ?_)
  have F := F ha2
  refine x_aload_n dX9_typeOfPart_0 rfl ?_
  refine x_iconst dX9_typeOfPart_1 rfl (i32_of rfl) ?_
  obtain ⟨hs1, hr1, F⟩ := F
  refine x_puti 0 fwX9_15 dX9_typeOfPart_2 hs1 hr1 (fun h => Bool.noConfusion h) (Nat.le_of_ble_eq_true rfl) rfl (Or.inl ⟨rfl, Or.inl rfl⟩) ?_
  refine x_aload_n dX9_typeOfPart_5 rfl ?_
  refine x_iconst dX9_typeOfPart_6 rfl (i32_of rfl) ?_
  refine x_puti 0 fwX9_19 dX9_typeOfPart_7 hs1 hr1 (fun h => Bool.noConfusion h) (Nat.le_of_ble_eq_true rfl) rfl (Or.inl ⟨rfl, Or.inl rfl⟩) ?_
  refine x_aload_n dX9_typeOfPart_10 rfl ?_
  refine x_iload_n dX9_typeOfPart_11 rfl ?_
  obtain ⟨hs2, hr2, F⟩ := F
  obtain ⟨P3, hC, F⟩ := F
  refine x_inv dX9_typeOfPart_12 mlX9_22 hC hs2 (Nat.le_of_ble_eq_true rfl) hr2 rfl rfl (by omega) (Nat.zero_le _) (Nat.zero_le _) (Nat.le_of_ble_eq_true rfl) (fun o1 Y6 w5 ht hP => ?_)
  obtain ⟨r4, rfl⟩ : ∃ i, o1 = some (0, i) := ht
  obtain ⟨hX, hP⟩ := hP
  have hX := Eq.symm hX
  subst hX
  have F := F r4 w5 hP
  refine x_istore [(2, o), (2, a1), (0, a2), (2, a3), (0, r4), (3, 0), (3, 0), (3, 0)] dX9_typeOfPart_15 rfl (Nat.le_of_ble_eq_true rfl) ?_
  refine x_aload_n dX9_typeOfPart_17 rfl ?_
  refine x_iload_n dX9_typeOfPart_18 rfl ?_
  obtain ⟨P7, hC, F⟩ := F
  refine x_inv dX9_typeOfPart_19 mlX9_28 hC hs2 (Nat.le_of_ble_eq_true rfl) hr2 rfl rfl (by omega) (Nat.zero_le _) (Nat.zero_le _) (Nat.le_of_ble_eq_true rfl) (fun o1 Y10 w9 ht hP => ?_)
  obtain ⟨r8, rfl⟩ : ∃ i, o1 = some (0, i) := ht
  obtain ⟨hX, hP⟩ := hP
  have hX := Eq.symm hX
  subst hX
  have F := F r8 w9 hP
  refine x_istore [(2, o), (2, a1), (0, a2), (2, a3), (0, r4), (0, r8), (3, 0), (3, 0)] dX9_typeOfPart_22 rfl (Nat.le_of_ble_eq_true rfl) ?_
  exact F

set_option maxRecDepth 100000 in
set_option maxHeartbeats 4000000 in
theorem bX9_typeOfPart_24 {d mc ms : Nat} {X : XX} {v : VV} {Q : QQ} (o : Int) (a1 : Int) (a2 : Int) (a3 : Int) (x4 : Int) (x5 : Int) (hd : 3 ≤ d) (hW : SW X) (F : i32 a2 → i32 x4 → i32 x5 → (((x4 ≤ x5) → X.1.2 o = (9, 0) ∧ (0 ≤ o ∧ o < X.1.1) ∧ ∃ P12 : Option AV → VV → Prop, Con mX9_pop 0 0 0 [(2, o)] X v (fun o X1 v1 => X1 = X ∧ P12 o v1) ∧ ∀ (r13 : Int) (w14 : VV), P12 (some (0, r13)) w14 → Q (some (0, r13)) X w14) ∧ ((x5 < x4) → X.1.2 a1 = (5, 0) ∧ (0 ≤ a1 ∧ a1 < X.1.1) ∧ X.1.2 (X.2 a1 0) = (6, 0) ∧ (0 ≤ (X.2 a1 0) ∧ (X.2 a1 0) < X.1.1) ∧ ∃ P18 : Option AV → VV → Prop, Con mX6_get 0 0 0 [(2, (X.2 a1 0)), (0, x5)] X v (fun o X1 v1 => X1 = X ∧ P18 o v1) ∧ ∀ (r19 : Int) (w20 : VV), P18 (some (0, r19)) w20 → (i32 r19 → i32 (r19 - 1000)) ∧ ((((r19 - 1000) < 0) → Ex mX9_typeOfPart d 73 [(2, o), (2, a1), (0, a2), (2, a3), (0, x4), (0, x5), (0, r19), (0, (r19 - 1000))] [] X w20 mc ms Q) ∧ ((0 ≤ (r19 - 1000)) → ∃ n22 : Nat, X.1.2 a3 = (100, n22) ∧ (0 ≤ a3 ∧ a3 < X.1.1) ∧ ((((n22 : Int) ≤ (r19 - 1000)) → Ex mX9_typeOfPart d 73 [(2, o), (2, a1), (0, a2), (2, a3), (0, x4), (0, x5), (0, r19), (0, (r19 - 1000))] [] X w20 mc ms Q) ∧ (((r19 - 1000) < (n22 : Int)) → (0 ≤ (r19 - 1000) ∧ (r19 - 1000) < n22) ∧ X.1.2 o = (9, 0) ∧ (0 ≤ o ∧ o < X.1.1) ∧ ∃ P24 : Option AV → VV → Prop, Con mX9_push 0 0 0 [(2, o), (0, (w20 a3 (r19 - 1000)))] X w20 (fun o X1 v1 => X1 = X ∧ P24 o v1) ∧ ∀ (w26 : VV), P24 none w26 → i32 (x5 + 1) ∧ Ex mX9_typeOfPart d 24 [(2, o), (2, a1), (0, a2), (2, a3), (0, x4), (0, (x5 + 1)), (3, 0), (3, 0)] [] X w26 mc ms Q))))))) : Ex mX9_typeOfPart d 24 [(2, o), (2, a1), (0, a2), (2, a3), (0, x4), (0, x5), (3, 0), (3, 0)] [] X v mc ms Q := by
  refine x_li32 (i := 2) rfl (fun ha2 => ?_)
  have F := F ha2
  refine x_li32 (i := 4) rfl (fun hx4 => ?_)
  have F := F hx4
  refine x_li32 (i := 5) rfl (fun hx5 => ?_)
  have F := F hx5
  refine x_iload dX9_typeOfPart_24 rfl ?_
  refine x_iload dX9_typeOfPart_26 rfl ?_
  refine x_icmp_ge 98 dX9_typeOfPart_28 rfl (fun hc => ?_) (fun hc => ?_)
  · have F := F.1 hc
    refine x_aload_n dX9_typeOfPart_98 rfl ?_
    obtain ⟨hs11, hr11, F⟩ := F
    obtain ⟨P12, hC, F⟩ := F
    refine x_inv dX9_typeOfPart_99 mlX9_51 hC hs11 (Nat.le_of_ble_eq_true rfl) hr11 rfl rfl (by omega) (Nat.zero_le _) (Nat.zero_le _) (Nat.le_of_ble_eq_true rfl) (fun o1 Y15 w14 ht hP => ?_)
    obtain ⟨r13, rfl⟩ : ∃ i, o1 = some (0, i) := ht
    obtain ⟨hX, hP⟩ := hP
    have hX := Eq.symm hX
    subst hX
    have F := F r13 w14 hP
    exact x_ret (some (0, r13)) rfl ⟨dX9_typeOfPart_102, Or.inl rfl⟩ F
  · have F := F.2 hc
    refine x_aload_n dX9_typeOfPart_31 rfl ?_
    obtain ⟨hs16, hr16, F⟩ := F
    refine x_getr (r' := (X.2 a1 0)) flX9_31 dX9_typeOfPart_32 hs16 hr16 rfl rfl (Nat.le_of_ble_eq_true rfl) ?_
    refine x_iload dX9_typeOfPart_35 rfl ?_
    obtain ⟨hs17, hr17, F⟩ := F
    obtain ⟨P18, hC, F⟩ := F
    refine x_inv dX9_typeOfPart_37 mlX9_35 hC hs17 (Nat.le_of_ble_eq_true rfl) hr17 rfl rfl (by omega) (Nat.zero_le _) (Nat.zero_le _) (Nat.le_of_ble_eq_true rfl) (fun o1 Y21 w20 ht hP => ?_)
    obtain ⟨r19, rfl⟩ : ∃ i, o1 = some (0, i) := ht
    obtain ⟨hX, hP⟩ := hP
    have hX := Eq.symm hX
    subst hX
    have F := F r19 w20 hP
    refine x_istore [(2, o), (2, a1), (0, a2), (2, a3), (0, x4), (0, x5), (0, r19), (3, 0)] dX9_typeOfPart_40 rfl (Nat.le_of_ble_eq_true rfl) ?_
    refine x_iload dX9_typeOfPart_42 rfl ?_
    refine x_sipush dX9_typeOfPart_44 ks_1000 (i32_of rfl) ?_
    refine x_si32 (i := 1) rfl (fun hk1 => ?_)
    obtain ⟨hz, F⟩ := F
    have hz := hz hk1
    refine x_isub dX9_typeOfPart_47 hz ?_
    refine x_istore [(2, o), (2, a1), (0, a2), (2, a3), (0, x4), (0, x5), (0, r19), (0, (r19 - 1000))] dX9_typeOfPart_48 rfl (Nat.le_of_ble_eq_true rfl) ?_
    refine x_iload dX9_typeOfPart_50 rfl ?_
    refine x_if_lt 73 dX9_typeOfPart_52 rfl (fun hc => ?_) (fun hc => ?_)
    · have F := F.1 hc
      exact F
    · have F := F.2 hc
      refine x_iload dX9_typeOfPart_55 rfl ?_
      refine x_aload_n dX9_typeOfPart_57 rfl ?_
      obtain ⟨n22, hs22, hr22, F⟩ := F
      refine x_alen dX9_typeOfPart_58 hs22 (by decide) hr22 (fun hlen => ?_)
      refine x_icmp_ge 73 dX9_typeOfPart_59 rfl (fun hc => ?_) (fun hc => ?_)
      · have F := F.1 hc
        exact F
      · have F := F.2 hc
        refine x_aload_n dX9_typeOfPart_62 rfl ?_
        refine x_aload_n dX9_typeOfPart_63 rfl ?_
        refine x_iload dX9_typeOfPart_64 rfl ?_
        obtain ⟨hi, F⟩ := F
        refine x_iald (e := (w20 a3 (r19 - 1000))) dX9_typeOfPart_66 hs22 hr22 hi rfl ?_
        obtain ⟨hs23, hr23, F⟩ := F
        obtain ⟨P24, hC, F⟩ := F
        refine x_inv dX9_typeOfPart_67 mlX9_40 hC hs23 (Nat.le_of_ble_eq_true rfl) hr23 rfl rfl (by omega) (Nat.zero_le _) (Nat.zero_le _) (Nat.le_of_ble_eq_true rfl) (fun o1 Y27 w26 ht hP => ?_)
        obtain rfl : o1 = none := ht
        obtain ⟨hX, hP⟩ := hP
        have hX := Eq.symm hX
        subst hX
        have F := F w26 hP
        refine x_goto 92 dX9_typeOfPart_70 rfl ?_
        obtain ⟨hz, F⟩ := F
        refine x_iinc [(2, o), (2, a1), (0, a2), (2, a3), (0, x4), (0, (x5 + 1)), (0, r19), (0, (r19 - 1000))] dX9_typeOfPart_92 rfl rfl (Nat.le_of_ble_eq_true rfl) hz ?_
        refine x_goto 24 dX9_typeOfPart_95 rfl ?_
        exact x_less [(2, o), (2, a1), (0, a2), (2, a3), (0, x4), (0, (x5 + 1)), (3, 0), (3, 0)] ⟨Or.inr rfl, ⟨Or.inr rfl, ⟨Or.inr rfl, ⟨Or.inr rfl, ⟨Or.inr rfl, ⟨Or.inr rfl, ⟨Or.inl rfl, ⟨Or.inl rfl, trivial⟩⟩⟩⟩⟩⟩⟩⟩ F

set_option maxRecDepth 100000 in
set_option maxHeartbeats 4000000 in
theorem bX9_typeOfPart_73 {d mc ms : Nat} {X : XX} {v : VV} {Q : QQ} (o : Int) (a1 : Int) (a2 : Int) (a3 : Int) (x4 : Int) (x5 : Int) (x6 : Int) (x7 : Int) (hd : 3 ≤ d) (hW : SW X) (F : i32 a2 → i32 x4 → i32 x5 → i32 x6 → i32 x7 → X.1.2 a1 = (5, 0) ∧ (0 ≤ a1 ∧ a1 < X.1.1) ∧ X.1.2 (X.2 a1 1) = (6, 0) ∧ (0 ≤ (X.2 a1 1) ∧ (X.2 a1 1) < X.1.1) ∧ ∃ P30 : Option AV → VV → Prop, Con mX6_get 0 0 0 [(2, (X.2 a1 1)), (0, x5)] X v (fun o X1 v1 => X1 = X ∧ P30 o v1) ∧ ∀ (r31 : Int) (w32 : VV), P30 (some (0, r31)) w32 → X.1.2 o = (9, 0) ∧ (0 ≤ o ∧ o < X.1.1) ∧ ∃ P35 : Option AV → VV → Prop, Con mX9_resultOf 2 0 0 [(2, o), (0, x6), (0, r31)] X w32 (fun o X1 v1 => X1 = X ∧ P35 o v1) ∧ ∀ (r36 : Int) (w37 : VV), P35 (some (0, r36)) w37 → ∃ P39 : Option AV → VV → Prop, Con mX9_push 0 0 0 [(2, o), (0, r36)] X w37 (fun o X1 v1 => X1 = X ∧ P39 o v1) ∧ ∀ (w41 : VV), P39 none w41 → i32 (x5 + 1) ∧ Ex mX9_typeOfPart d 24 [(2, o), (2, a1), (0, a2), (2, a3), (0, x4), (0, (x5 + 1)), (3, 0), (3, 0)] [] X w41 mc ms Q) : Ex mX9_typeOfPart d 73 [(2, o), (2, a1), (0, a2), (2, a3), (0, x4), (0, x5), (0, x6), (0, x7)] [] X v mc ms Q := by
  refine x_li32 (i := 2) rfl (fun ha2 => ?_)
  have F := F ha2
  refine x_li32 (i := 4) rfl (fun hx4 => ?_)
  have F := F hx4
  refine x_li32 (i := 5) rfl (fun hx5 => ?_)
  have F := F hx5
  refine x_li32 (i := 6) rfl (fun hx6 => ?_)
  have F := F hx6
  refine x_li32 (i := 7) rfl (fun hx7 => ?_)
  have F := F hx7
  refine x_aload_n dX9_typeOfPart_73 rfl ?_
  refine x_aload_n dX9_typeOfPart_74 rfl ?_
  refine x_iload dX9_typeOfPart_75 rfl ?_
  refine x_aload_n dX9_typeOfPart_77 rfl ?_
  obtain ⟨hs28, hr28, F⟩ := F
  refine x_getr (r' := (X.2 a1 1)) flX9_44 dX9_typeOfPart_78 hs28 hr28 rfl rfl (Nat.le_of_ble_eq_true rfl) ?_
  refine x_iload dX9_typeOfPart_81 rfl ?_
  obtain ⟨hs29, hr29, F⟩ := F
  obtain ⟨P30, hC, F⟩ := F
  refine x_inv dX9_typeOfPart_83 mlX9_35 hC hs29 (Nat.le_of_ble_eq_true rfl) hr29 rfl rfl (by omega) (Nat.zero_le _) (Nat.zero_le _) (Nat.le_of_ble_eq_true rfl) (fun o1 Y33 w32 ht hP => ?_)
  obtain ⟨r31, rfl⟩ : ∃ i, o1 = some (0, i) := ht
  obtain ⟨hX, hP⟩ := hP
  have hX := Eq.symm hX
  subst hX
  have F := F r31 w32 hP
  obtain ⟨hs34, hr34, F⟩ := F
  obtain ⟨P35, hC, F⟩ := F
  refine x_inv dX9_typeOfPart_86 mlX9_47 hC hs34 (Nat.le_of_ble_eq_true rfl) hr34 rfl rfl (by omega) (Nat.zero_le _) (Nat.zero_le _) (Nat.le_of_ble_eq_true rfl) (fun o1 Y38 w37 ht hP => ?_)
  obtain ⟨r36, rfl⟩ : ∃ i, o1 = some (0, i) := ht
  obtain ⟨hX, hP⟩ := hP
  have hX := Eq.symm hX
  subst hX
  have F := F r36 w37 hP
  obtain ⟨P39, hC, F⟩ := F
  refine x_inv dX9_typeOfPart_89 mlX9_40 hC hs34 (Nat.le_of_ble_eq_true rfl) hr34 rfl rfl (by omega) (Nat.zero_le _) (Nat.zero_le _) (Nat.le_of_ble_eq_true rfl) (fun o1 Y42 w41 ht hP => ?_)
  obtain rfl : o1 = none := ht
  obtain ⟨hX, hP⟩ := hP
  have hX := Eq.symm hX
  subst hX
  have F := F w41 hP
  obtain ⟨hz, F⟩ := F
  refine x_iinc [(2, o), (2, a1), (0, a2), (2, a3), (0, x4), (0, (x5 + 1)), (0, x6), (0, x7)] dX9_typeOfPart_92 rfl rfl (Nat.le_of_ble_eq_true rfl) hz ?_
  refine x_goto 24 dX9_typeOfPart_95 rfl ?_
  exact x_less [(2, o), (2, a1), (0, a2), (2, a3), (0, x4), (0, (x5 + 1)), (3, 0), (3, 0)] ⟨Or.inr rfl, ⟨Or.inr rfl, ⟨Or.inr rfl, ⟨Or.inr rfl, ⟨Or.inr rfl, ⟨Or.inr rfl, ⟨Or.inl rfl, ⟨Or.inl rfl, trivial⟩⟩⟩⟩⟩⟩⟩⟩ F

set_option maxRecDepth 100000 in
set_option maxHeartbeats 4000000 in
theorem bX9_resultOf_0 {d mc ms : Nat} {X : XX} {v : VV} {Q : QQ} (o : Int) (a1 : Int) (a2 : Int) (hd : 2 ≤ d) (hW : SW X) (F : i32 a1 → i32 a2 → (((a1 = 38) → Ex mX9_resultOf d 133 [(2, o), (0, a1), (0, a2), (3, 0)] [] X v mc ms Q) ∧ ((a1 = 43) → Ex mX9_resultOf d 133 [(2, o), (0, a1), (0, a2), (3, 0)] [] X v mc ms Q) ∧ ((a1 = 45) → Ex mX9_resultOf d 133 [(2, o), (0, a1), (0, a2), (3, 0)] [] X v mc ms Q) ∧ ((a1 = 60) → Ex mX9_resultOf d 118 [(2, o), (0, a1), (0, a2), (3, 0)] [] X v mc ms Q) ∧ ((a1 = 61) → Ex mX9_resultOf d 118 [(2, o), (0, a1), (0, a2), (3, 0)] [] X v mc ms Q) ∧ ((a1 = 257) → Q (some (0, 110)) X v) ∧ ((a1 = 258) → Q (some (0, 116)) X v) ∧ ((a1 = 266) → X.1.2 o = (9, 0) ∧ (0 ≤ o ∧ o < X.1.1) ∧ ∃ P2 : Option AV → VV → Prop, Con mX9_pop 0 0 0 [(2, o)] X v (fun o X1 v1 => X1 = X ∧ P2 o v1) ∧ ∀ (r3 : Int) (w4 : VV), P2 (some (0, r3)) w4 → ∃ P6 : Option AV → VV → Prop, Con mX9_noteUnlike 1 0 0 [(2, o), (0, r3), (0, 116), (0, a2)] X w4 (fun o X1 v1 => X1 = X ∧ P6 o v1) ∧ ∀ (w8 : VV), P6 none w8 → Q (some (0, 110)) X w8) ∧ ((a1 = 267) → X.1.2 o = (9, 0) ∧ (0 ≤ o ∧ o < X.1.1) ∧ ∃ P11 : Option AV → VV → Prop, Con mX9_pop 0 0 0 [(2, o)] X v (fun o X1 v1 => X1 = X ∧ P11 o v1) ∧ ∀ (r12 : Int) (w13 : VV), P11 (some (0, r12)) w13 → ∃ P15 : Option AV → VV → Prop, Con mX9_noteUnlike 1 0 0 [(2, o), (0, r12), (0, 110), (0, a2)] X w13 (fun o X1 v1 => X1 = X ∧ P15 o v1) ∧ ∀ (w17 : VV), P15 none w17 → Q (some (0, 116)) X w17) ∧ ((¬ a1 = 38 ∧ ¬ a1 = 43 ∧ ¬ a1 = 45 ∧ ¬ a1 = 60 ∧ ¬ a1 = 61 ∧ ¬ a1 = 257 ∧ ¬ a1 = 258 ∧ ¬ a1 = 266 ∧ ¬ a1 = 267) → Q (some (0, 0)) X v))) : Ex mX9_resultOf d 0 [(2, o), (0, a1), (0, a2), (3, 0)] [] X v mc ms Q := by
  refine x_li32 (i := 1) rfl (fun ha1 => ?_)
  have F := F ha1
  refine x_li32 (i := 2) rfl (fun ha2 => ?_)
  have F := F ha2
  refine x_iload_n dX9_resultOf_0 rfl ?_
  rcases (show a1 = 38 ∨ a1 = 43 ∨ a1 = 45 ∨ a1 = 60 ∨ a1 = 61 ∨ a1 = 257 ∨ a1 = 258 ∨ a1 = 266 ∨ a1 = 267 ∨ (¬ a1 = 38 ∧ ¬ a1 = 43 ∧ ¬ a1 = 45 ∧ ¬ a1 = 60 ∧ ¬ a1 = 61 ∧ ¬ a1 = 257 ∧ ¬ a1 = 258 ∧ ¬ a1 = 266 ∧ ¬ a1 = 267) by omega) with hc | hc | hc | hc | hc | hc | hc | hc | hc | hc
  · have F := F.1 hc
    refine x_lookup 133 dX9_resultOf_1 (by decide) (off := 132) (by rw [hc]; rfl) rfl ?_
    exact F
  · have F := F.2.1 hc
    refine x_lookup 133 dX9_resultOf_1 (by decide) (off := 132) (by rw [hc]; rfl) rfl ?_
    exact F
  · have F := F.2.2.1 hc
    refine x_lookup 133 dX9_resultOf_1 (by decide) (off := 132) (by rw [hc]; rfl) rfl ?_
    exact F
  · have F := F.2.2.2.1 hc
    refine x_lookup 118 dX9_resultOf_1 (by decide) (off := 117) (by rw [hc]; rfl) rfl ?_
    exact F
  · have F := F.2.2.2.2.1 hc
    refine x_lookup 118 dX9_resultOf_1 (by decide) (off := 117) (by rw [hc]; rfl) rfl ?_
    exact F
  · have F := F.2.2.2.2.2.1 hc
    refine x_lookup 84 dX9_resultOf_1 (by decide) (off := 83) (by rw [hc]; rfl) rfl ?_
    refine x_bipush dX9_resultOf_84 kb_110 (i32_of rfl) ?_
    exact x_ret (some (0, 110)) rfl ⟨dX9_resultOf_86, Or.inl rfl⟩ F
  · have F := F.2.2.2.2.2.2.1 hc
    refine x_lookup 87 dX9_resultOf_1 (by decide) (off := 86) (by rw [hc]; rfl) rfl ?_
    refine x_bipush dX9_resultOf_87 kb_116 (i32_of rfl) ?_
    exact x_ret (some (0, 116)) rfl ⟨dX9_resultOf_89, Or.inl rfl⟩ F
  · have F := F.2.2.2.2.2.2.2.1 hc
    refine x_lookup 90 dX9_resultOf_1 (by decide) (off := 89) (by rw [hc]; rfl) rfl ?_
    refine x_aload_n dX9_resultOf_90 rfl ?_
    refine x_aload_n dX9_resultOf_91 rfl ?_
    obtain ⟨hs1, hr1, F⟩ := F
    obtain ⟨P2, hC, F⟩ := F
    refine x_inv dX9_resultOf_92 mlX9_51 hC hs1 (Nat.le_of_ble_eq_true rfl) hr1 rfl rfl (by omega) (Nat.zero_le _) (Nat.zero_le _) (Nat.le_of_ble_eq_true rfl) (fun o1 Y5 w4 ht hP => ?_)
    obtain ⟨r3, rfl⟩ : ∃ i, o1 = some (0, i) := ht
    obtain ⟨hX, hP⟩ := hP
    have hX := Eq.symm hX
    subst hX
    have F := F r3 w4 hP
    refine x_bipush dX9_resultOf_95 kb_116 (i32_of rfl) ?_
    refine x_iload_n dX9_resultOf_97 rfl ?_
    obtain ⟨P6, hC, F⟩ := F
    refine x_inv dX9_resultOf_98 mlX9_55 hC hs1 (Nat.le_of_ble_eq_true rfl) hr1 rfl rfl (by omega) (Nat.zero_le _) (Nat.zero_le _) (Nat.le_of_ble_eq_true rfl) (fun o1 Y9 w8 ht hP => ?_)
    obtain rfl : o1 = none := ht
    obtain ⟨hX, hP⟩ := hP
    have hX := Eq.symm hX
    subst hX
    have F := F w8 hP
    refine x_bipush dX9_resultOf_101 kb_110 (i32_of rfl) ?_
    exact x_ret (some (0, 110)) rfl ⟨dX9_resultOf_103, Or.inl rfl⟩ F
  · have F := F.2.2.2.2.2.2.2.2.1 hc
    refine x_lookup 104 dX9_resultOf_1 (by decide) (off := 103) (by rw [hc]; rfl) rfl ?_
    refine x_aload_n dX9_resultOf_104 rfl ?_
    refine x_aload_n dX9_resultOf_105 rfl ?_
    obtain ⟨hs10, hr10, F⟩ := F
    obtain ⟨P11, hC, F⟩ := F
    refine x_inv dX9_resultOf_106 mlX9_51 hC hs10 (Nat.le_of_ble_eq_true rfl) hr10 rfl rfl (by omega) (Nat.zero_le _) (Nat.zero_le _) (Nat.le_of_ble_eq_true rfl) (fun o1 Y14 w13 ht hP => ?_)
    obtain ⟨r12, rfl⟩ : ∃ i, o1 = some (0, i) := ht
    obtain ⟨hX, hP⟩ := hP
    have hX := Eq.symm hX
    subst hX
    have F := F r12 w13 hP
    refine x_bipush dX9_resultOf_109 kb_110 (i32_of rfl) ?_
    refine x_iload_n dX9_resultOf_111 rfl ?_
    obtain ⟨P15, hC, F⟩ := F
    refine x_inv dX9_resultOf_112 mlX9_55 hC hs10 (Nat.le_of_ble_eq_true rfl) hr10 rfl rfl (by omega) (Nat.zero_le _) (Nat.zero_le _) (Nat.le_of_ble_eq_true rfl) (fun o1 Y18 w17 ht hP => ?_)
    obtain rfl : o1 = none := ht
    obtain ⟨hX, hP⟩ := hP
    have hX := Eq.symm hX
    subst hX
    have F := F w17 hP
    refine x_bipush dX9_resultOf_115 kb_116 (i32_of rfl) ?_
    exact x_ret (some (0, 116)) rfl ⟨dX9_resultOf_117, Or.inl rfl⟩ F
  · have F := F.2.2.2.2.2.2.2.2.2 hc
    refine x_lookup 150 dX9_resultOf_1 (by decide) (off := 149) (by simp [Op.lookupswitch.offset, (show ¬ (38 : Int) = a1 from fun z => hc.1 z.symm), (show ¬ (43 : Int) = a1 from fun z => hc.2.1 z.symm), (show ¬ (45 : Int) = a1 from fun z => hc.2.2.1 z.symm), (show ¬ (60 : Int) = a1 from fun z => hc.2.2.2.1 z.symm), (show ¬ (61 : Int) = a1 from fun z => hc.2.2.2.2.1 z.symm), (show ¬ (257 : Int) = a1 from fun z => hc.2.2.2.2.2.1 z.symm), (show ¬ (258 : Int) = a1 from fun z => hc.2.2.2.2.2.2.1 z.symm), (show ¬ (266 : Int) = a1 from fun z => hc.2.2.2.2.2.2.2.1 z.symm), (show ¬ (267 : Int) = a1 from fun z => hc.2.2.2.2.2.2.2.2 z.symm)]) rfl ?_
    refine x_iconst dX9_resultOf_150 rfl (i32_of rfl) ?_
    exact x_ret (some (0, 0)) rfl ⟨dX9_resultOf_151, Or.inl rfl⟩ F

set_option maxRecDepth 100000 in
set_option maxHeartbeats 4000000 in
theorem bX9_resultOf_118 {d mc ms : Nat} {X : XX} {v : VV} {Q : QQ} (o : Int) (a1 : Int) (a2 : Int) (hd : 2 ≤ d) (hW : SW X) (F : i32 a1 → i32 a2 → X.1.2 o = (9, 0) ∧ (0 ≤ o ∧ o < X.1.1) ∧ ∃ P20 : Option AV → VV → Prop, Con mX9_pop 0 0 0 [(2, o)] X v (fun o X1 v1 => X1 = X ∧ P20 o v1) ∧ ∀ (r21 : Int) (w22 : VV), P20 (some (0, r21)) w22 → ∃ P24 : Option AV → VV → Prop, Con mX9_pop 0 0 0 [(2, o)] X w22 (fun o X1 v1 => X1 = X ∧ P24 o v1) ∧ ∀ (r25 : Int) (w26 : VV), P24 (some (0, r25)) w26 → ∃ P28 : Option AV → VV → Prop, Con mX9_noteUnlike 1 0 0 [(2, o), (0, r21), (0, r25), (0, a2)] X w26 (fun o X1 v1 => X1 = X ∧ P28 o v1) ∧ ∀ (w30 : VV), P28 none w30 → Q (some (0, 0)) X w30) : Ex mX9_resultOf d 118 [(2, o), (0, a1), (0, a2), (3, 0)] [] X v mc ms Q := by
  refine x_li32 (i := 1) rfl (fun ha1 => ?_)
  have F := F ha1
  refine x_li32 (i := 2) rfl (fun ha2 => ?_)
  have F := F ha2
  refine x_aload_n dX9_resultOf_118 rfl ?_
  refine x_aload_n dX9_resultOf_119 rfl ?_
  obtain ⟨hs19, hr19, F⟩ := F
  obtain ⟨P20, hC, F⟩ := F
  refine x_inv dX9_resultOf_120 mlX9_51 hC hs19 (Nat.le_of_ble_eq_true rfl) hr19 rfl rfl (by omega) (Nat.zero_le _) (Nat.zero_le _) (Nat.le_of_ble_eq_true rfl) (fun o1 Y23 w22 ht hP => ?_)
  obtain ⟨r21, rfl⟩ : ∃ i, o1 = some (0, i) := ht
  obtain ⟨hX, hP⟩ := hP
  have hX := Eq.symm hX
  subst hX
  have F := F r21 w22 hP
  refine x_aload_n dX9_resultOf_123 rfl ?_
  obtain ⟨P24, hC, F⟩ := F
  refine x_inv dX9_resultOf_124 mlX9_51 hC hs19 (Nat.le_of_ble_eq_true rfl) hr19 rfl rfl (by omega) (Nat.zero_le _) (Nat.zero_le _) (Nat.le_of_ble_eq_true rfl) (fun o1 Y27 w26 ht hP => ?_)
  obtain ⟨r25, rfl⟩ : ∃ i, o1 = some (0, i) := ht
  obtain ⟨hX, hP⟩ := hP
  have hX := Eq.symm hX
  subst hX
  have F := F r25 w26 hP
  refine x_iload_n dX9_resultOf_127 rfl ?_
  obtain ⟨P28, hC, F⟩ := F
  refine x_inv dX9_resultOf_128 mlX9_55 hC hs19 (Nat.le_of_ble_eq_true rfl) hr19 rfl rfl (by omega) (Nat.zero_le _) (Nat.zero_le _) (Nat.le_of_ble_eq_true rfl) (fun o1 Y31 w30 ht hP => ?_)
  obtain rfl : o1 = none := ht
  obtain ⟨hX, hP⟩ := hP
  have hX := Eq.symm hX
  subst hX
  have F := F w30 hP
  refine x_iconst dX9_resultOf_131 rfl (i32_of rfl) ?_
  exact x_ret (some (0, 0)) rfl ⟨dX9_resultOf_132, Or.inl rfl⟩ F

set_option maxRecDepth 100000 in
set_option maxHeartbeats 4000000 in
theorem bX9_resultOf_133 {d mc ms : Nat} {X : XX} {v : VV} {Q : QQ} (o : Int) (a1 : Int) (a2 : Int) (hd : 2 ≤ d) (hW : SW X) (F : i32 a1 → i32 a2 → X.1.2 o = (9, 0) ∧ (0 ≤ o ∧ o < X.1.1) ∧ ∃ P33 : Option AV → VV → Prop, Con mX9_pop 0 0 0 [(2, o)] X v (fun o X1 v1 => X1 = X ∧ P33 o v1) ∧ ∀ (r34 : Int) (w35 : VV), P33 (some (0, r34)) w35 → ∃ P37 : Option AV → VV → Prop, Con mX9_pop 0 0 0 [(2, o)] X w35 (fun o X1 v1 => X1 = X ∧ P37 o v1) ∧ ∀ (r38 : Int) (w39 : VV), P37 (some (0, r38)) w39 → ∃ P41 : Option AV → VV → Prop, Con mX9_operated 1 0 0 [(2, o), (0, a1), (0, r38), (0, r34), (0, a2)] X w39 (fun o X1 v1 => X1 = X ∧ P41 o v1) ∧ ∀ (r42 : Int) (w43 : VV), P41 (some (0, r42)) w43 → Q (some (0, r42)) X w43) : Ex mX9_resultOf d 133 [(2, o), (0, a1), (0, a2), (3, 0)] [] X v mc ms Q := by
  refine x_li32 (i := 1) rfl (fun ha1 => ?_)
  have F := F ha1
  refine x_li32 (i := 2) rfl (fun ha2 => ?_)
  have F := F ha2
  refine x_aload_n dX9_resultOf_133 rfl ?_
  obtain ⟨hs32, hr32, F⟩ := F
  obtain ⟨P33, hC, F⟩ := F
  refine x_inv dX9_resultOf_134 mlX9_51 hC hs32 (Nat.le_of_ble_eq_true rfl) hr32 rfl rfl (by omega) (Nat.zero_le _) (Nat.zero_le _) (Nat.le_of_ble_eq_true rfl) (fun o1 Y36 w35 ht hP => ?_)
  obtain ⟨r34, rfl⟩ : ∃ i, o1 = some (0, i) := ht
  obtain ⟨hX, hP⟩ := hP
  have hX := Eq.symm hX
  subst hX
  have F := F r34 w35 hP
  refine x_istore_n [(2, o), (0, a1), (0, a2), (0, r34)] dX9_resultOf_137 rfl (Nat.le_of_ble_eq_true rfl) ?_
  refine x_aload_n dX9_resultOf_138 rfl ?_
  refine x_iload_n dX9_resultOf_139 rfl ?_
  refine x_aload_n dX9_resultOf_140 rfl ?_
  obtain ⟨P37, hC, F⟩ := F
  refine x_inv dX9_resultOf_141 mlX9_51 hC hs32 (Nat.le_of_ble_eq_true rfl) hr32 rfl rfl (by omega) (Nat.zero_le _) (Nat.zero_le _) (Nat.le_of_ble_eq_true rfl) (fun o1 Y40 w39 ht hP => ?_)
  obtain ⟨r38, rfl⟩ : ∃ i, o1 = some (0, i) := ht
  obtain ⟨hX, hP⟩ := hP
  have hX := Eq.symm hX
  subst hX
  have F := F r38 w39 hP
  refine x_iload_n dX9_resultOf_144 rfl ?_
  refine x_iload_n dX9_resultOf_145 rfl ?_
  obtain ⟨P41, hC, F⟩ := F
  refine x_inv dX9_resultOf_146 mlX9_59 hC hs32 (Nat.le_of_ble_eq_true rfl) hr32 rfl rfl (by omega) (Nat.zero_le _) (Nat.zero_le _) (Nat.le_of_ble_eq_true rfl) (fun o1 Y44 w43 ht hP => ?_)
  obtain ⟨r42, rfl⟩ : ∃ i, o1 = some (0, i) := ht
  obtain ⟨hX, hP⟩ := hP
  have hX := Eq.symm hX
  subst hX
  have F := F r42 w43 hP
  exact x_ret (some (0, r42)) rfl ⟨dX9_resultOf_149, Or.inl rfl⟩ F

set_option maxRecDepth 100000 in
set_option maxHeartbeats 4000000 in
theorem bX9_operated_0 {d mc ms : Nat} {X : XX} {v : VV} {Q : QQ} (o : Int) (a1 : Int) (a2 : Int) (a3 : Int) (a4 : Int) (hd : 1 ≤ d) (hW : SW X) (F : i32 a1 → i32 a2 → i32 a3 → i32 a4 → (((a2 = 0) → Q (some (0, 0)) X v) ∧ ((¬ a2 = 0) → (((¬ a3 = 0) → (((¬ a1 = 38) → Ex mX9_operated d 31 [(2, o), (0, a1), (0, a2), (0, a3), (0, a4)] [] X v mc ms Q) ∧ ((a1 = 38) → (((¬ a2 = 116) → Ex mX9_operated d 31 [(2, o), (0, a1), (0, a2), (0, a3), (0, a4)] [] X v mc ms Q) ∧ ((a2 = 116) → (((¬ a3 = 116) → Ex mX9_operated d 31 [(2, o), (0, a1), (0, a2), (0, a3), (0, a4)] [] X v mc ms Q) ∧ ((a3 = 116) → Q (some (0, 116)) X v))))))) ∧ ((a3 = 0) → Q (some (0, 0)) X v))))) : Ex mX9_operated d 0 [(2, o), (0, a1), (0, a2), (0, a3), (0, a4)] [] X v mc ms Q := by
  refine x_li32 (i := 1) rfl (fun ha1 => ?_)
  have F := F ha1
  refine x_li32 (i := 2) rfl (fun ha2 => ?_)
  have F := F ha2
  refine x_li32 (i := 3) rfl (fun ha3 => ?_)
  have F := F ha3
  refine x_li32 (i := 4) rfl (fun ha4 => ?_)
  have F := F ha4
  refine x_iload_n dX9_operated_0 rfl ?_
  refine x_if_eq 8 dX9_operated_1 rfl (fun hc => ?_) (fun hc => ?_)
  · have F := F.1 hc
    refine x_iconst dX9_operated_8 rfl (i32_of rfl) ?_
    exact x_ret (some (0, 0)) rfl ⟨dX9_operated_9, Or.inl rfl⟩ F
  · have F := F.2 hc
    refine x_iload_n dX9_operated_4 rfl ?_
    refine x_if_ne 10 dX9_operated_5 rfl (fun hc => ?_) (fun hc => ?_)
    · have F := F.1 hc
      refine x_iload_n dX9_operated_10 rfl ?_
      refine x_bipush dX9_operated_11 kb_38 (i32_of rfl) ?_
      refine x_icmp_ne 31 dX9_operated_13 rfl (fun hc => ?_) (fun hc => ?_)
      · have F := F.1 hc
        exact F
      · have F := F.2 hc
        refine x_iload_n dX9_operated_16 rfl ?_
        refine x_bipush dX9_operated_17 kb_116 (i32_of rfl) ?_
        refine x_icmp_ne 31 dX9_operated_19 rfl (fun hc => ?_) (fun hc => ?_)
        · have F := F.1 hc
          exact F
        · have F := F.2 hc
          refine x_iload_n dX9_operated_22 rfl ?_
          refine x_bipush dX9_operated_23 kb_116 (i32_of rfl) ?_
          refine x_icmp_ne 31 dX9_operated_25 rfl (fun hc => ?_) (fun hc => ?_)
          · have F := F.1 hc
            exact F
          · have F := F.2 hc
            refine x_bipush dX9_operated_28 kb_116 (i32_of rfl) ?_
            exact x_ret (some (0, 116)) rfl ⟨dX9_operated_30, Or.inl rfl⟩ F
    · have F := F.2 hc
      refine x_iconst dX9_operated_8 rfl (i32_of rfl) ?_
      exact x_ret (some (0, 0)) rfl ⟨dX9_operated_9, Or.inl rfl⟩ F

set_option maxRecDepth 100000 in
set_option maxHeartbeats 4000000 in
theorem bX9_operated_31 {d mc ms : Nat} {X : XX} {v : VV} {Q : QQ} (o : Int) (a1 : Int) (a2 : Int) (a3 : Int) (a4 : Int) (hd : 1 ≤ d) (hW : SW X) (F : i32 a1 → i32 a2 → i32 a3 → i32 a4 → (((a1 = 38) → Ex mX9_operated d 51 [(2, o), (0, a1), (0, a2), (0, a3), (0, a4)] [] X v mc ms Q) ∧ ((¬ a1 = 38) → (((a2 = 116) → Ex mX9_operated d 51 [(2, o), (0, a1), (0, a2), (0, a3), (0, a4)] [] X v mc ms Q) ∧ ((¬ a2 = 116) → (((¬ a3 = 110) → Ex mX9_operated d 51 [(2, o), (0, a1), (0, a2), (0, a3), (0, a4)] [] X v mc ms Q) ∧ ((a3 = 110) → Q (some (0, a2)) X v))))))) : Ex mX9_operated d 31 [(2, o), (0, a1), (0, a2), (0, a3), (0, a4)] [] X v mc ms Q := by
  refine x_li32 (i := 1) rfl (fun ha1 => ?_)
  have F := F ha1
  refine x_li32 (i := 2) rfl (fun ha2 => ?_)
  have F := F ha2
  refine x_li32 (i := 3) rfl (fun ha3 => ?_)
  have F := F ha3
  refine x_li32 (i := 4) rfl (fun ha4 => ?_)
  have F := F ha4
  refine x_iload_n dX9_operated_31 rfl ?_
  refine x_bipush dX9_operated_32 kb_38 (i32_of rfl) ?_
  refine x_icmp_eq 51 dX9_operated_34 rfl (fun hc => ?_) (fun hc => ?_)
  · have F := F.1 hc
    exact F
  · have F := F.2 hc
    refine x_iload_n dX9_operated_37 rfl ?_
    refine x_bipush dX9_operated_38 kb_116 (i32_of rfl) ?_
    refine x_icmp_eq 51 dX9_operated_40 rfl (fun hc => ?_) (fun hc => ?_)
    · have F := F.1 hc
      exact F
    · have F := F.2 hc
      refine x_iload_n dX9_operated_43 rfl ?_
      refine x_bipush dX9_operated_44 kb_110 (i32_of rfl) ?_
      refine x_icmp_ne 51 dX9_operated_46 rfl (fun hc => ?_) (fun hc => ?_)
      · have F := F.1 hc
        exact F
      · have F := F.2 hc
        refine x_iload_n dX9_operated_49 rfl ?_
        exact x_ret (some (0, a2)) rfl ⟨dX9_operated_50, Or.inl rfl⟩ F

set_option maxRecDepth 100000 in
set_option maxHeartbeats 4000000 in
theorem bX9_operated_51 {d mc ms : Nat} {X : XX} {v : VV} {Q : QQ} (o : Int) (a1 : Int) (a2 : Int) (a3 : Int) (a4 : Int) (hd : 1 ≤ d) (hW : SW X) (F : i32 a1 → i32 a2 → i32 a3 → i32 a4 → (((¬ a1 = 45) → X.1.2 o = (9, 0) ∧ (0 ≤ o ∧ o < X.1.1) ∧ ∃ P2 : Option AV → VV → Prop, Con mX9_noteBad 0 0 0 [(2, o), (0, a4)] X v (fun o X1 v1 => X1 = X ∧ P2 o v1) ∧ ∀ (w4 : VV), P2 none w4 → Q (some (0, 0)) X w4) ∧ ((a1 = 45) → (((¬ a2 = 100) → X.1.2 o = (9, 0) ∧ (0 ≤ o ∧ o < X.1.1) ∧ ∃ P7 : Option AV → VV → Prop, Con mX9_noteBad 0 0 0 [(2, o), (0, a4)] X v (fun o X1 v1 => X1 = X ∧ P7 o v1) ∧ ∀ (w9 : VV), P7 none w9 → Q (some (0, 0)) X w9) ∧ ((a2 = 100) → (((¬ a3 = 100) → X.1.2 o = (9, 0) ∧ (0 ≤ o ∧ o < X.1.1) ∧ ∃ P12 : Option AV → VV → Prop, Con mX9_noteBad 0 0 0 [(2, o), (0, a4)] X v (fun o X1 v1 => X1 = X ∧ P12 o v1) ∧ ∀ (w14 : VV), P12 none w14 → Q (some (0, 0)) X w14) ∧ ((a3 = 100) → Q (some (0, 110)) X v))))))) : Ex mX9_operated d 51 [(2, o), (0, a1), (0, a2), (0, a3), (0, a4)] [] X v mc ms Q := by
  refine x_li32 (i := 1) rfl (fun ha1 => ?_)
  have F := F ha1
  refine x_li32 (i := 2) rfl (fun ha2 => ?_)
  have F := F ha2
  refine x_li32 (i := 3) rfl (fun ha3 => ?_)
  have F := F ha3
  refine x_li32 (i := 4) rfl (fun ha4 => ?_)
  have F := F ha4
  refine x_iload_n dX9_operated_51 rfl ?_
  refine x_bipush dX9_operated_52 kb_45 (i32_of rfl) ?_
  refine x_icmp_ne 72 dX9_operated_54 rfl (fun hc => ?_) (fun hc => ?_)
  · have F := F.1 hc
    refine x_aload_n dX9_operated_72 rfl ?_
    refine x_iload dX9_operated_73 rfl ?_
    obtain ⟨hs1, hr1, F⟩ := F
    obtain ⟨P2, hC, F⟩ := F
    refine x_inv dX9_operated_75 mlX9_63 hC hs1 (Nat.le_of_ble_eq_true rfl) hr1 rfl rfl (by omega) (Nat.zero_le _) (Nat.zero_le _) (Nat.le_of_ble_eq_true rfl) (fun o1 Y5 w4 ht hP => ?_)
    obtain rfl : o1 = none := ht
    obtain ⟨hX, hP⟩ := hP
    have hX := Eq.symm hX
    subst hX
    have F := F w4 hP
    refine x_iconst dX9_operated_78 rfl (i32_of rfl) ?_
    exact x_ret (some (0, 0)) rfl ⟨dX9_operated_79, Or.inl rfl⟩ F
  · have F := F.2 hc
    refine x_iload_n dX9_operated_57 rfl ?_
    refine x_bipush dX9_operated_58 kb_100 (i32_of rfl) ?_
    refine x_icmp_ne 72 dX9_operated_60 rfl (fun hc => ?_) (fun hc => ?_)
    · have F := F.1 hc
      refine x_aload_n dX9_operated_72 rfl ?_
      refine x_iload dX9_operated_73 rfl ?_
      obtain ⟨hs6, hr6, F⟩ := F
      obtain ⟨P7, hC, F⟩ := F
      refine x_inv dX9_operated_75 mlX9_63 hC hs6 (Nat.le_of_ble_eq_true rfl) hr6 rfl rfl (by omega) (Nat.zero_le _) (Nat.zero_le _) (Nat.le_of_ble_eq_true rfl) (fun o1 Y10 w9 ht hP => ?_)
      obtain rfl : o1 = none := ht
      obtain ⟨hX, hP⟩ := hP
      have hX := Eq.symm hX
      subst hX
      have F := F w9 hP
      refine x_iconst dX9_operated_78 rfl (i32_of rfl) ?_
      exact x_ret (some (0, 0)) rfl ⟨dX9_operated_79, Or.inl rfl⟩ F
    · have F := F.2 hc
      refine x_iload_n dX9_operated_63 rfl ?_
      refine x_bipush dX9_operated_64 kb_100 (i32_of rfl) ?_
      refine x_icmp_ne 72 dX9_operated_66 rfl (fun hc => ?_) (fun hc => ?_)
      · have F := F.1 hc
        refine x_aload_n dX9_operated_72 rfl ?_
        refine x_iload dX9_operated_73 rfl ?_
        obtain ⟨hs11, hr11, F⟩ := F
        obtain ⟨P12, hC, F⟩ := F
        refine x_inv dX9_operated_75 mlX9_63 hC hs11 (Nat.le_of_ble_eq_true rfl) hr11 rfl rfl (by omega) (Nat.zero_le _) (Nat.zero_le _) (Nat.le_of_ble_eq_true rfl) (fun o1 Y15 w14 ht hP => ?_)
        obtain rfl : o1 = none := ht
        obtain ⟨hX, hP⟩ := hP
        have hX := Eq.symm hX
        subst hX
        have F := F w14 hP
        refine x_iconst dX9_operated_78 rfl (i32_of rfl) ?_
        exact x_ret (some (0, 0)) rfl ⟨dX9_operated_79, Or.inl rfl⟩ F
      · have F := F.2 hc
        refine x_bipush dX9_operated_69 kb_110 (i32_of rfl) ?_
        exact x_ret (some (0, 110)) rfl ⟨dX9_operated_71, Or.inl rfl⟩ F

set_option maxRecDepth 100000 in
set_option maxHeartbeats 4000000 in
theorem bX9_noteUnlike_0 {d mc ms : Nat} {X : XX} {v : VV} {Q : QQ} (o : Int) (a1 : Int) (a2 : Int) (a3 : Int) (hd : 1 ≤ d) (hW : SW X) (F : i32 a1 → i32 a2 → i32 a3 → (((a1 = 0) → Q none X v) ∧ ((¬ a1 = 0) → (((a2 = 0) → Q none X v) ∧ ((¬ a2 = 0) → (((a1 = a2) → Q none X v) ∧ ((¬ a1 = a2) → X.1.2 o = (9, 0) ∧ (0 ≤ o ∧ o < X.1.1) ∧ ∃ P2 : Option AV → VV → Prop, Con mX9_noteBad 0 0 0 [(2, o), (0, a3)] X v (fun o X1 v1 => X1 = X ∧ P2 o v1) ∧ ∀ (w4 : VV), P2 none w4 → Q none X w4))))))) : Ex mX9_noteUnlike d 0 [(2, o), (0, a1), (0, a2), (0, a3)] [] X v mc ms Q := by
  refine x_li32 (i := 1) rfl (fun ha1 => ?_)
  have F := F ha1
  refine x_li32 (i := 2) rfl (fun ha2 => ?_)
  have F := F ha2
  refine x_li32 (i := 3) rfl (fun ha3 => ?_)
  have F := F ha3
  refine x_iload_n dX9_noteUnlike_0 rfl ?_
  refine x_if_eq 18 dX9_noteUnlike_1 rfl (fun hc => ?_) (fun hc => ?_)
  · have F := F.1 hc
    exact x_ret none rfl ⟨dX9_noteUnlike_18, rfl⟩ F
  · have F := F.2 hc
    refine x_iload_n dX9_noteUnlike_4 rfl ?_
    refine x_if_eq 18 dX9_noteUnlike_5 rfl (fun hc => ?_) (fun hc => ?_)
    · have F := F.1 hc
      exact x_ret none rfl ⟨dX9_noteUnlike_18, rfl⟩ F
    · have F := F.2 hc
      refine x_iload_n dX9_noteUnlike_8 rfl ?_
      refine x_iload_n dX9_noteUnlike_9 rfl ?_
      refine x_icmp_eq 18 dX9_noteUnlike_10 rfl (fun hc => ?_) (fun hc => ?_)
      · have F := F.1 hc
        exact x_ret none rfl ⟨dX9_noteUnlike_18, rfl⟩ F
      · have F := F.2 hc
        refine x_aload_n dX9_noteUnlike_13 rfl ?_
        refine x_iload_n dX9_noteUnlike_14 rfl ?_
        obtain ⟨hs1, hr1, F⟩ := F
        obtain ⟨P2, hC, F⟩ := F
        refine x_inv dX9_noteUnlike_15 mlX9_63 hC hs1 (Nat.le_of_ble_eq_true rfl) hr1 rfl rfl (by omega) (Nat.zero_le _) (Nat.zero_le _) (Nat.le_of_ble_eq_true rfl) (fun o1 Y5 w4 ht hP => ?_)
        obtain rfl : o1 = none := ht
        obtain ⟨hX, hP⟩ := hP
        have hX := Eq.symm hX
        subst hX
        have F := F w4 hP
        exact x_ret none rfl ⟨dX9_noteUnlike_18, rfl⟩ F

set_option maxRecDepth 100000 in
set_option maxHeartbeats 4000000 in
theorem bX9_noteBad_0 {d mc ms : Nat} {X : XX} {v : VV} {Q : QQ} (o : Int) (a1 : Int) (hd : 0 ≤ d) (hW : SW X) (F : i32 a1 → X.1.2 o = (9, 0) ∧ (0 ≤ o ∧ o < X.1.1) ∧ ((((v o 2) = (-1)) → Q none X (upd2 v o 2 a1)) ∧ ((¬ (v o 2) = (-1)) → ((((v o 2) ≤ a1) → Q none X v) ∧ ((a1 < (v o 2)) → Q none X (upd2 v o 2 a1)))))) : Ex mX9_noteBad d 0 [(2, o), (0, a1)] [] X v mc ms Q := by
  refine x_li32 (i := 1) rfl (fun ha1 => ?_)
  have F := F ha1
  refine x_aload_n dX9_noteBad_0 rfl ?_
  obtain ⟨hs1, hr1, F⟩ := F
  refine x_geti (e := (v o 2)) 0 flX9_19 dX9_noteBad_1 hs1 hr1 rfl rfl (Nat.le_of_ble_eq_true rfl) (tagn2 rfl) ?_
  refine x_iconst dX9_noteBad_4 rfl (i32_of rfl) ?_
  refine x_icmp_eq 16 dX9_noteBad_5 rfl (fun hc => ?_) (fun hc => ?_)
  · have F := F.1 hc
    refine x_aload_n dX9_noteBad_16 rfl ?_
    refine x_iload_n dX9_noteBad_17 rfl ?_
    refine x_puti 0 fwX9_19 dX9_noteBad_18 hs1 hr1 (fun h => Bool.noConfusion h) (Nat.le_of_ble_eq_true rfl) rfl (Or.inl ⟨rfl, Or.inl rfl⟩) ?_
    exact x_ret none rfl ⟨dX9_noteBad_21, rfl⟩ F
  · have F := F.2 hc
    refine x_iload_n dX9_noteBad_8 rfl ?_
    refine x_aload_n dX9_noteBad_9 rfl ?_
    refine x_geti (e := (v o 2)) 0 flX9_19 dX9_noteBad_10 hs1 hr1 rfl rfl (Nat.le_of_ble_eq_true rfl) (tagn2 rfl) ?_
    refine x_icmp_ge 21 dX9_noteBad_13 rfl (fun hc => ?_) (fun hc => ?_)
    · have F := F.1 hc
      exact x_ret none rfl ⟨dX9_noteBad_21, rfl⟩ F
    · have F := F.2 hc
      refine x_aload_n dX9_noteBad_16 rfl ?_
      refine x_iload_n dX9_noteBad_17 rfl ?_
      refine x_puti 0 fwX9_19 dX9_noteBad_18 hs1 hr1 (fun h => Bool.noConfusion h) (Nat.le_of_ble_eq_true rfl) rfl (Or.inl ⟨rfl, Or.inl rfl⟩) ?_
      exact x_ret none rfl ⟨dX9_noteBad_21, rfl⟩ F

set_option maxRecDepth 100000 in
set_option maxHeartbeats 4000000 in
theorem bX9_push_0 {d mc ms : Nat} {X : XX} {v : VV} {Q : QQ} (o : Int) (a1 : Int) (hd : 0 ≤ d) (hW : SW X) (F : i32 a1 → X.1.2 o = (9, 0) ∧ (0 ≤ o ∧ o < X.1.1) ∧ ((((v o 1) < 0) → Q none X v) ∧ ((0 ≤ (v o 1)) → ∃ n2 : Nat, X.1.2 (X.2 o 0) = (100, n2) ∧ (0 ≤ (X.2 o 0) ∧ (X.2 o 0) < X.1.1) ∧ ((((n2 : Int) ≤ (v o 1)) → Q none X v) ∧ (((v o 1) < (n2 : Int)) → (0 ≤ (v o 1) ∧ (v o 1) < n2) ∧ (i32 ((upd2 v (X.2 o 0) (v o 1) a1) o 1) → i32 (((upd2 v (X.2 o 0) (v o 1) a1) o 1) + 1)) ∧ Q none X (upd2 (upd2 v (X.2 o 0) (v o 1) a1) o 1 (((upd2 v (X.2 o 0) (v o 1) a1) o 1) + 1))))))) : Ex mX9_push d 0 [(2, o), (0, a1)] [] X v mc ms Q := by
  refine x_li32 (i := 1) rfl (fun ha1 => ?_)
  have F := F ha1
  refine x_aload_n dX9_push_0 rfl ?_
  obtain ⟨hs1, hr1, F⟩ := F
  refine x_geti (e := (v o 1)) 0 flX9_15 dX9_push_1 hs1 hr1 rfl rfl (Nat.le_of_ble_eq_true rfl) (tagn2 rfl) ?_
  refine x_if_lt 39 dX9_push_4 rfl (fun hc => ?_) (fun hc => ?_)
  · have F := F.1 hc
    exact x_ret none rfl ⟨dX9_push_39, rfl⟩ F
  · have F := F.2 hc
    refine x_aload_n dX9_push_7 rfl ?_
    refine x_geti (e := (v o 1)) 0 flX9_15 dX9_push_8 hs1 hr1 rfl rfl (Nat.le_of_ble_eq_true rfl) (tagn2 rfl) ?_
    refine x_aload_n dX9_push_11 rfl ?_
    refine x_getr (r' := (X.2 o 0)) flX9_9 dX9_push_12 hs1 hr1 rfl rfl (Nat.le_of_ble_eq_true rfl) ?_
    obtain ⟨n2, hs2, hr2, F⟩ := F
    refine x_alen dX9_push_15 hs2 (by decide) hr2 (fun hlen => ?_)
    refine x_icmp_ge 39 dX9_push_16 rfl (fun hc => ?_) (fun hc => ?_)
    · have F := F.1 hc
      exact x_ret none rfl ⟨dX9_push_39, rfl⟩ F
    · have F := F.2 hc
      refine x_aload_n dX9_push_19 rfl ?_
      refine x_getr (r' := (X.2 o 0)) flX9_9 dX9_push_20 hs1 hr1 rfl rfl (Nat.le_of_ble_eq_true rfl) ?_
      refine x_aload_n dX9_push_23 rfl ?_
      refine x_geti (e := (v o 1)) 0 flX9_15 dX9_push_24 hs1 hr1 rfl rfl (Nat.le_of_ble_eq_true rfl) (tagn2 rfl) ?_
      refine x_iload_n dX9_push_27 rfl ?_
      obtain ⟨hi, F⟩ := F
      refine x_iast dX9_push_28 hs2 hr2 hi ?_
      refine x_aload_n dX9_push_29 rfl ?_
      refine x_dup dX9_push_30 (tag1 rfl) ?_
      refine x_geti (e := ((upd2 v (X.2 o 0) (v o 1) a1) o 1)) 0 flX9_15 dX9_push_31 hs1 hr1 rfl rfl (Nat.le_of_ble_eq_true rfl) (tagn2 rfl) ?_
      refine x_iconst dX9_push_34 rfl (i32_of rfl) ?_
      refine x_si32 (i := 1) rfl (fun hk1 => ?_)
      obtain ⟨hz, F⟩ := F
      have hz := hz hk1
      refine x_iadd dX9_push_35 hz ?_
      refine x_puti 0 fwX9_15 dX9_push_36 hs1 hr1 (fun h => Bool.noConfusion h) (Nat.le_of_ble_eq_true rfl) rfl (Or.inl ⟨rfl, Or.inl rfl⟩) ?_
      exact x_ret none rfl ⟨dX9_push_39, rfl⟩ F

set_option maxRecDepth 100000 in
set_option maxHeartbeats 4000000 in
theorem bX9_pop_0 {d mc ms : Nat} {X : XX} {v : VV} {Q : QQ} (o : Int) (hd : 0 ≤ d) (hW : SW X) (F : X.1.2 o = (9, 0) ∧ (0 ≤ o ∧ o < X.1.1) ∧ ((((v o 1) ≤ 0) → Q (some (0, 0)) X v) ∧ ((0 < (v o 1)) → ∃ n2 : Nat, X.1.2 (X.2 o 0) = (100, n2) ∧ (0 ≤ (X.2 o 0) ∧ (X.2 o 0) < X.1.1) ∧ ((((v o 1) ≤ (n2 : Int)) → (i32 (v o 1) → i32 ((v o 1) - 1)) ∧ (0 ≤ ((v o 1) - 1) ∧ ((v o 1) - 1) < n2) ∧ Q (some (0, ((upd2 v o 1 ((v o 1) - 1)) (X.2 o 0) ((v o 1) - 1)))) X (upd2 v o 1 ((v o 1) - 1))) ∧ (((n2 : Int) < (v o 1)) → Q (some (0, 0)) X v))))) : Ex mX9_pop d 0 [(2, o)] [] X v mc ms Q := by
  refine x_aload_n dX9_pop_0 rfl ?_
  obtain ⟨hs1, hr1, F⟩ := F
  refine x_geti (e := (v o 1)) 0 flX9_15 dX9_pop_1 hs1 hr1 rfl rfl (Nat.le_of_ble_eq_true rfl) (tagn2 rfl) ?_
  refine x_if_le 19 dX9_pop_4 rfl (fun hc => ?_) (fun hc => ?_)
  · have F := F.1 hc
    refine x_iconst dX9_pop_19 rfl (i32_of rfl) ?_
    exact x_ret (some (0, 0)) rfl ⟨dX9_pop_20, Or.inl rfl⟩ F
  · have F := F.2 hc
    refine x_aload_n dX9_pop_7 rfl ?_
    refine x_geti (e := (v o 1)) 0 flX9_15 dX9_pop_8 hs1 hr1 rfl rfl (Nat.le_of_ble_eq_true rfl) (tagn2 rfl) ?_
    refine x_aload_n dX9_pop_11 rfl ?_
    refine x_getr (r' := (X.2 o 0)) flX9_9 dX9_pop_12 hs1 hr1 rfl rfl (Nat.le_of_ble_eq_true rfl) ?_
    obtain ⟨n2, hs2, hr2, F⟩ := F
    refine x_alen dX9_pop_15 hs2 (by decide) hr2 (fun hlen => ?_)
    refine x_icmp_le 21 dX9_pop_16 rfl (fun hc => ?_) (fun hc => ?_)
    · have F := F.1 hc
      refine x_aload_n dX9_pop_21 rfl ?_
      refine x_dup dX9_pop_22 (tag1 rfl) ?_
      refine x_geti (e := (v o 1)) 0 flX9_15 dX9_pop_23 hs1 hr1 rfl rfl (Nat.le_of_ble_eq_true rfl) (tagn2 rfl) ?_
      refine x_iconst dX9_pop_26 rfl (i32_of rfl) ?_
      refine x_si32 (i := 1) rfl (fun hk1 => ?_)
      obtain ⟨hz, F⟩ := F
      have hz := hz hk1
      refine x_isub dX9_pop_27 hz ?_
      refine x_puti 0 fwX9_15 dX9_pop_28 hs1 hr1 (fun h => Bool.noConfusion h) (Nat.le_of_ble_eq_true rfl) rfl (Or.inl ⟨rfl, Or.inl rfl⟩) ?_
      refine x_aload_n dX9_pop_31 rfl ?_
      refine x_getr (r' := (X.2 o 0)) flX9_9 dX9_pop_32 hs1 hr1 rfl rfl (Nat.le_of_ble_eq_true rfl) ?_
      refine x_aload_n dX9_pop_35 rfl ?_
      refine x_geti (e := ((v o 1) - 1)) 0 flX9_15 dX9_pop_36 hs1 hr1 (by simp [upd2]) rfl (Nat.le_of_ble_eq_true rfl) (tagn2 rfl) ?_
      obtain ⟨hi, F⟩ := F
      refine x_iald (e := ((upd2 v o 1 ((v o 1) - 1)) (X.2 o 0) ((v o 1) - 1))) dX9_pop_39 hs2 hr2 hi rfl ?_
      exact x_ret (some (0, ((upd2 v o 1 ((v o 1) - 1)) (X.2 o 0) ((v o 1) - 1)))) rfl ⟨dX9_pop_40, Or.inl rfl⟩ F
    · have F := F.2 hc
      refine x_iconst dX9_pop_19 rfl (i32_of rfl) ?_
      exact x_ret (some (0, 0)) rfl ⟨dX9_pop_20, Or.inl rfl⟩ F

set_option maxRecDepth 100000 in
set_option maxHeartbeats 4000000 in
theorem bX10_feed_0 {d mc ms : Nat} {X : XX} {v : VV} {Q : QQ} (a1 : Int) (a2 : Int) (a3 : Int) (a4 : Int) (a5 : Int) (hd : 2 ≤ d) (hW : SW X) (F : i32 a1 → i32 a2 → i32 a3 → i32 a4 → i32 a5 → ∃ P1 : Option AV → VV → Prop, Con mX6_size 0 0 0 [(2, 1)] X v (fun o X1 v1 => X1 = X ∧ P1 o v1) ∧ ∀ (r2 : Int) (w3 : VV), P1 (some (0, r2)) w3 → (i32 r2 → i32 (r2 + 20)) ∧ ((((r2 + 20) ≤ 400) → ∃ P5 : Option AV → VV → Prop, Con mX10_putBytes 1 0 0 [(2, 0), (0, a1)] X w3 (fun o X1 v1 => X1 = X ∧ P5 o v1) ∧ ∀ (w7 : VV), P5 none w7 → ∃ P9 : Option AV → VV → Prop, Con mX10_putBytes 1 0 0 [(2, 0), (0, a2)] X w7 (fun o X1 v1 => X1 = X ∧ P9 o v1) ∧ ∀ (w11 : VV), P9 none w11 → ∃ P13 : Option AV → VV → Prop, Con mX10_putBytes 1 0 0 [(2, 0), (0, a3)] X w11 (fun o X1 v1 => X1 = X ∧ P13 o v1) ∧ ∀ (w15 : VV), P13 none w15 → ∃ P17 : Option AV → VV → Prop, Con mX10_putBytes 1 0 0 [(2, 0), (0, a4)] X w15 (fun o X1 v1 => X1 = X ∧ P17 o v1) ∧ ∀ (w19 : VV), P17 none w19 → ∃ P21 : Option AV → VV → Prop, Con mX10_putBytes 1 0 0 [(2, 0), (0, a5)] X w19 (fun o X1 v1 => X1 = X ∧ P21 o v1) ∧ ∀ (w23 : VV), P21 none w23 → ∃ P25 : Option AV → VV → Prop, Con mX6_size 0 0 0 [(2, 1)] X w23 (fun o X1 v1 => X1 = X ∧ P25 o v1) ∧ ∀ (r26 : Int) (w27 : VV), P25 (some (0, r26)) w27 → Q (some (0, r26)) X w27) ∧ ((400 < (r2 + 20)) → Q (some (0, (-1))) X w3))) : Ex mX10_feed d 0 [(2, 0), (0, a1), (0, a2), (0, a3), (0, a4), (0, a5)] [] X v mc ms Q := by
  refine x_li32 (i := 1) rfl (fun ha1 => ?_)
  have F := F ha1
  refine x_li32 (i := 2) rfl (fun ha2 => ?_)
  have F := F ha2
  refine x_li32 (i := 3) rfl (fun ha3 => ?_)
  have F := F ha3
  refine x_li32 (i := 4) rfl (fun ha4 => ?_)
  have F := F ha4
  refine x_li32 (i := 5) rfl (fun ha5 => ?_)
  have F := F ha5
  refine x_aload_n dX10_feed_0 rfl ?_
  refine x_getr (r' := 1) flX10_14 dX10_feed_1 (sW0 hW) (gW0 hW) (rW0_0 hW) rfl (Nat.le_of_ble_eq_true rfl) ?_
  obtain ⟨P1, hC, F⟩ := F
  refine x_inv dX10_feed_4 mlX10_75 hC (sW1 hW) (Nat.le_of_ble_eq_true rfl) (gW1 hW) rfl rfl (by omega) (Nat.zero_le _) (Nat.zero_le _) (Nat.le_of_ble_eq_true rfl) (fun o1 Y4 w3 ht hP => ?_)
  obtain ⟨r2, rfl⟩ : ∃ i, o1 = some (0, i) := ht
  obtain ⟨hX, hP⟩ := hP
  have hX := Eq.symm hX
  subst hX
  have F := F r2 w3 hP
  refine x_bipush dX10_feed_7 kb_20 (i32_of rfl) ?_
  refine x_si32 (i := 1) rfl (fun hk1 => ?_)
  obtain ⟨hz, F⟩ := F
  have hz := hz hk1
  refine x_iadd dX10_feed_9 hz ?_
  refine x_sipush dX10_feed_10 ks_400 (i32_of rfl) ?_
  refine x_icmp_le 18 dX10_feed_13 rfl (fun hc => ?_) (fun hc => ?_)
  · have F := F.1 hc
    refine x_aload_n dX10_feed_18 rfl ?_
    refine x_iload_n dX10_feed_19 rfl ?_
    obtain ⟨P5, hC, F⟩ := F
    refine x_inv dX10_feed_20 mlX10_79 hC (sW0 hW) (Nat.le_of_ble_eq_true rfl) (gW0 hW) rfl rfl (by omega) (Nat.zero_le _) (Nat.zero_le _) (Nat.le_of_ble_eq_true rfl) (fun o1 Y8 w7 ht hP => ?_)
    obtain rfl : o1 = none := ht
    obtain ⟨hX, hP⟩ := hP
    have hX := Eq.symm hX
    subst hX
    have F := F w7 hP
    refine x_aload_n dX10_feed_23 rfl ?_
    refine x_iload_n dX10_feed_24 rfl ?_
    obtain ⟨P9, hC, F⟩ := F
    refine x_inv dX10_feed_25 mlX10_79 hC (sW0 hW) (Nat.le_of_ble_eq_true rfl) (gW0 hW) rfl rfl (by omega) (Nat.zero_le _) (Nat.zero_le _) (Nat.le_of_ble_eq_true rfl) (fun o1 Y12 w11 ht hP => ?_)
    obtain rfl : o1 = none := ht
    obtain ⟨hX, hP⟩ := hP
    have hX := Eq.symm hX
    subst hX
    have F := F w11 hP
    refine x_aload_n dX10_feed_28 rfl ?_
    refine x_iload_n dX10_feed_29 rfl ?_
    obtain ⟨P13, hC, F⟩ := F
    refine x_inv dX10_feed_30 mlX10_79 hC (sW0 hW) (Nat.le_of_ble_eq_true rfl) (gW0 hW) rfl rfl (by omega) (Nat.zero_le _) (Nat.zero_le _) (Nat.le_of_ble_eq_true rfl) (fun o1 Y16 w15 ht hP => ?_)
    obtain rfl : o1 = none := ht
    obtain ⟨hX, hP⟩ := hP
    have hX := Eq.symm hX
    subst hX
    have F := F w15 hP
    refine x_aload_n dX10_feed_33 rfl ?_
    refine x_iload dX10_feed_34 rfl ?_
    obtain ⟨P17, hC, F⟩ := F
    refine x_inv dX10_feed_36 mlX10_79 hC (sW0 hW) (Nat.le_of_ble_eq_true rfl) (gW0 hW) rfl rfl (by omega) (Nat.zero_le _) (Nat.zero_le _) (Nat.le_of_ble_eq_true rfl) (fun o1 Y20 w19 ht hP => ?_)
    obtain rfl : o1 = none := ht
    obtain ⟨hX, hP⟩ := hP
    have hX := Eq.symm hX
    subst hX
    have F := F w19 hP
    refine x_aload_n dX10_feed_39 rfl ?_
    refine x_iload dX10_feed_40 rfl ?_
    obtain ⟨P21, hC, F⟩ := F
    refine x_inv dX10_feed_42 mlX10_79 hC (sW0 hW) (Nat.le_of_ble_eq_true rfl) (gW0 hW) rfl rfl (by omega) (Nat.zero_le _) (Nat.zero_le _) (Nat.le_of_ble_eq_true rfl) (fun o1 Y24 w23 ht hP => ?_)
    obtain rfl : o1 = none := ht
    obtain ⟨hX, hP⟩ := hP
    have hX := Eq.symm hX
    subst hX
    have F := F w23 hP
    refine x_aload_n dX10_feed_45 rfl ?_
    refine x_getr (r' := 1) flX10_14 dX10_feed_46 (sW0 hW) (gW0 hW) (rW0_0 hW) rfl (Nat.le_of_ble_eq_true rfl) ?_
    obtain ⟨P25, hC, F⟩ := F
    refine x_inv dX10_feed_49 mlX10_75 hC (sW1 hW) (Nat.le_of_ble_eq_true rfl) (gW1 hW) rfl rfl (by omega) (Nat.zero_le _) (Nat.zero_le _) (Nat.le_of_ble_eq_true rfl) (fun o1 Y28 w27 ht hP => ?_)
    obtain ⟨r26, rfl⟩ : ∃ i, o1 = some (0, i) := ht
    obtain ⟨hX, hP⟩ := hP
    have hX := Eq.symm hX
    subst hX
    have F := F r26 w27 hP
    exact x_ret (some (0, r26)) rfl ⟨dX10_feed_52, Or.inl rfl⟩ F
  · have F := F.2 hc
    refine x_iconst dX10_feed_16 rfl (i32_of rfl) ?_
    exact x_ret (some (0, (-1))) rfl ⟨dX10_feed_17, Or.inl rfl⟩ F

set_option maxRecDepth 100000 in
set_option maxHeartbeats 4000000 in
theorem bX10_end_0 {d mc ms : Nat} {X : XX} {v : VV} {Q : QQ} (a1 : Int) (hd : 1 ≤ d) (hW : SW X) (F : i32 a1 → (((a1 < 0) → Q (some (0, 0)) X v) ∧ ((0 ≤ a1) → ∃ P1 : Option AV → VV → Prop, Con mX6_size 0 0 0 [(2, 1)] X v (fun o X1 v1 => X1 = X ∧ P1 o v1) ∧ ∀ (r2 : Int) (w3 : VV), P1 (some (0, r2)) w3 → (((a1 ≤ r2) → ∃ P5 : Option AV → VV → Prop, Con mX6_cutTo 0 0 0 [(2, 1), (0, a1)] X w3 (fun o X1 v1 => X1 = X ∧ P5 o v1) ∧ ∀ (w7 : VV), P5 none w7 → Q (some (0, 1)) X w7) ∧ ((r2 < a1) → Q (some (0, 0)) X w3))))) : Ex mX10_end d 0 [(2, 0), (0, a1)] [] X v mc ms Q := by
  refine x_li32 (i := 1) rfl (fun ha1 => ?_)
  have F := F ha1
  refine x_iload_n dX10_end_0 rfl ?_
  refine x_if_lt 15 dX10_end_1 rfl (fun hc => ?_) (fun hc => ?_)
  · have F := F.1 hc
    refine x_iconst dX10_end_15 rfl (i32_of rfl) ?_
    exact x_ret (some (0, 0)) rfl ⟨dX10_end_16, Or.inr ⟨rfl, Or.inl rfl⟩⟩ F
  · have F := F.2 hc
    refine x_iload_n dX10_end_4 rfl ?_
    refine x_aload_n dX10_end_5 rfl ?_
    refine x_getr (r' := 1) flX10_14 dX10_end_6 (sW0 hW) (gW0 hW) (rW0_0 hW) rfl (Nat.le_of_ble_eq_true rfl) ?_
    obtain ⟨P1, hC, F⟩ := F
    refine x_inv dX10_end_9 mlX10_75 hC (sW1 hW) (Nat.le_of_ble_eq_true rfl) (gW1 hW) rfl rfl (by omega) (Nat.zero_le _) (Nat.zero_le _) (Nat.le_of_ble_eq_true rfl) (fun o1 Y4 w3 ht hP => ?_)
    obtain ⟨r2, rfl⟩ : ∃ i, o1 = some (0, i) := ht
    obtain ⟨hX, hP⟩ := hP
    have hX := Eq.symm hX
    subst hX
    have F := F r2 w3 hP
    refine x_icmp_le 17 dX10_end_12 rfl (fun hc => ?_) (fun hc => ?_)
    · have F := F.1 hc
      refine x_aload_n dX10_end_17 rfl ?_
      refine x_getr (r' := 1) flX10_14 dX10_end_18 (sW0 hW) (gW0 hW) (rW0_0 hW) rfl (Nat.le_of_ble_eq_true rfl) ?_
      refine x_iload_n dX10_end_21 rfl ?_
      obtain ⟨P5, hC, F⟩ := F
      refine x_inv dX10_end_22 mlX10_82 hC (sW1 hW) (Nat.le_of_ble_eq_true rfl) (gW1 hW) rfl rfl (by omega) (Nat.zero_le _) (Nat.zero_le _) (Nat.le_of_ble_eq_true rfl) (fun o1 Y8 w7 ht hP => ?_)
      obtain rfl : o1 = none := ht
      obtain ⟨hX, hP⟩ := hP
      have hX := Eq.symm hX
      subst hX
      have F := F w7 hP
      refine x_iconst dX10_end_25 rfl (i32_of rfl) ?_
      exact x_ret (some (0, 1)) rfl ⟨dX10_end_26, Or.inr ⟨rfl, Or.inr rfl⟩⟩ F
    · have F := F.2 hc
      refine x_iconst dX10_end_15 rfl (i32_of rfl) ?_
      exact x_ret (some (0, 0)) rfl ⟨dX10_end_16, Or.inr ⟨rfl, Or.inl rfl⟩⟩ F

set_option maxRecDepth 100000 in
set_option maxHeartbeats 4000000 in
theorem bX10_act_0 {d mc ms : Nat} {X : XX} {v : VV} {Q : QQ} (hd : 13 ≤ d) (hW : SW X) (F : ∃ P1 : Option AV → VV → Prop, Con mX8_readAll 10 0 0 [(2, 5), (2, 1)] X v (fun o X1 v1 => X1 = X ∧ P1 o v1) ∧ ∀ (w3 : VV), P1 none w3 → ∃ P5 : Option AV → VV → Prop, Con mX6_cutTo 0 0 0 [(2, 1), (0, 0)] X w3 (fun o X1 v1 => X1 = X ∧ P5 o v1) ∧ ∀ (w7 : VV), P5 none w7 → ∃ P9 : Option AV → VV → Prop, Con mX4_readStatement 12 0 0 [(2, 3)] X w7 (fun o X1 v1 => X1 = X ∧ P9 o v1) ∧ ∀ (r10 : Int) (w11 : VV), P9 (some (0, r10)) w11 → (((¬ r10 = 0) → ∃ P13 : Option AV → VV → Prop, Con mX1_check 5 0 0 [(2, 32), (2, 4), (2, 37), (2, 38)] X w11 (fun o X1 v1 => X1 = X ∧ P13 o v1) ∧ ∀ (w15 : VV), P13 none w15 → ((((w15 32 1) = 0) → ((((w15 0 11) < 16) → ∃ c21 s22 : Nat, c21 ≤ mc ∧ s22 ≤ ms ∧ ∃ P17 : QQ, Con mX10_addTable 7 c21 s22 [(2, 0), (2, 4)] X (upd2 (upd2 w15 0 14 0) 0 15 (-1)) P17 ∧ ∀ (r18 : Int) (Y20 : XX) (w19 : VV), P17 (some (0, r18)) Y20 w19 → SW Y20 ∧ Q (some (0, r18)) Y20 w19) ∧ ((16 ≤ (w15 0 11)) → ∃ P24 : Option AV → VV → Prop, Con mX10_refuse 0 0 0 [(2, 0), (0, 5), (0, 0)] X w15 (fun o X1 v1 => X1 = X ∧ P24 o v1) ∧ ∀ (r25 : Int) (w26 : VV), P24 (some (0, r25)) w26 → Q (some (0, r25)) X w26))) ∧ ((¬ (w15 32 1) = 0) → ∃ P28 : Option AV → VV → Prop, Con mX10_refuse 0 0 0 [(2, 0), (0, (w15 32 1)), (0, (w15 32 2))] X w15 (fun o X1 v1 => X1 = X ∧ P28 o v1) ∧ ∀ (r29 : Int) (w30 : VV), P28 (some (0, r29)) w30 → Q (some (0, r29)) X w30))) ∧ ((r10 = 0) → ∃ P32 : Option AV → VV → Prop, Con mX4_stopPlace 1 0 0 [(2, 3)] X w11 (fun o X1 v1 => X1 = X ∧ P32 o v1) ∧ ∀ (r33 : Int) (w34 : VV), P32 (some (0, r33)) w34 → ∃ P36 : Option AV → VV → Prop, Con mX10_refuse 0 0 0 [(2, 0), (0, 1), (0, r33)] X w34 (fun o X1 v1 => X1 = X ∧ P36 o v1) ∧ ∀ (r37 : Int) (w38 : VV), P36 (some (0, r37)) w38 → Q (some (0, r37)) X w38))) : Ex mX10_act d 0 [(2, 0), (3, 0)] [] X v mc ms Q := by
  refine x_aload_n dX10_act_0 rfl ?_
  refine x_getr (r' := 3) flX10_21 dX10_act_1 (sW0 hW) (gW0 hW) (rW0_1 hW) rfl (Nat.le_of_ble_eq_true rfl) ?_
  refine x_getr (r' := 4) flX10_85 dX10_act_4 (sW3 hW) (gW3 hW) (rW3_0 hW) rfl (Nat.le_of_ble_eq_true rfl) ?_
  refine x_astore_n [(2, 0), (2, 4)] dX10_act_7 rfl (Nat.le_of_ble_eq_true rfl) ?_
  refine x_aload_n dX10_act_8 rfl ?_
  refine x_getr (r' := 5) flX10_89 dX10_act_9 (sW4 hW) (gW4 hW) (rW4_0 hW) rfl (Nat.le_of_ble_eq_true rfl) ?_
  refine x_aload_n dX10_act_12 rfl ?_
  refine x_getr (r' := 1) flX10_14 dX10_act_13 (sW0 hW) (gW0 hW) (rW0_0 hW) rfl (Nat.le_of_ble_eq_true rfl) ?_
  obtain ⟨P1, hC, F⟩ := F
  refine x_inv dX10_act_16 mlX10_95 hC (sW5 hW) (Nat.le_of_ble_eq_true rfl) (gW5 hW) rfl rfl (by omega) (Nat.zero_le _) (Nat.zero_le _) (Nat.le_of_ble_eq_true rfl) (fun o1 Y4 w3 ht hP => ?_)
  obtain rfl : o1 = none := ht
  obtain ⟨hX, hP⟩ := hP
  have hX := Eq.symm hX
  subst hX
  have F := F w3 hP
  refine x_aload_n dX10_act_19 rfl ?_
  refine x_getr (r' := 1) flX10_14 dX10_act_20 (sW0 hW) (gW0 hW) (rW0_0 hW) rfl (Nat.le_of_ble_eq_true rfl) ?_
  refine x_iconst dX10_act_23 rfl (i32_of rfl) ?_
  obtain ⟨P5, hC, F⟩ := F
  refine x_inv dX10_act_24 mlX10_82 hC (sW1 hW) (Nat.le_of_ble_eq_true rfl) (gW1 hW) rfl rfl (by omega) (Nat.zero_le _) (Nat.zero_le _) (Nat.le_of_ble_eq_true rfl) (fun o1 Y8 w7 ht hP => ?_)
  obtain rfl : o1 = none := ht
  obtain ⟨hX, hP⟩ := hP
  have hX := Eq.symm hX
  subst hX
  have F := F w7 hP
  refine x_aload_n dX10_act_27 rfl ?_
  refine x_getr (r' := 3) flX10_21 dX10_act_28 (sW0 hW) (gW0 hW) (rW0_1 hW) rfl (Nat.le_of_ble_eq_true rfl) ?_
  obtain ⟨P9, hC, F⟩ := F
  refine x_inv dX10_act_31 mlX10_101 hC (sW3 hW) (Nat.le_of_ble_eq_true rfl) (gW3 hW) rfl rfl (by omega) (Nat.zero_le _) (Nat.zero_le _) (Nat.le_of_ble_eq_true rfl) (fun o1 Y12 w11 ht hP => ?_)
  obtain ⟨r10, rfl⟩ : ∃ i, o1 = some (0, i) := ht
  obtain ⟨hX, hP⟩ := hP
  have hX := Eq.symm hX
  subst hX
  have F := F r10 w11 hP
  refine x_if_ne 50 dX10_act_34 rfl (fun hc => ?_) (fun hc => ?_)
  · have F := F.1 hc
    refine x_aload_n dX10_act_50 rfl ?_
    refine x_getr (r' := 32) flX10_28 dX10_act_51 (sW0 hW) (gW0 hW) (rW0_2 hW) rfl (Nat.le_of_ble_eq_true rfl) ?_
    refine x_aload_n dX10_act_54 rfl ?_
    refine x_aload_n dX10_act_55 rfl ?_
    refine x_getr (r' := 37) flX10_41 dX10_act_56 (sW0 hW) (gW0 hW) (rW0_4 hW) rfl (Nat.le_of_ble_eq_true rfl) ?_
    refine x_aload_n dX10_act_59 rfl ?_
    refine x_getr (r' := 38) flX10_45 dX10_act_60 (sW0 hW) (gW0 hW) (rW0_5 hW) rfl (Nat.le_of_ble_eq_true rfl) ?_
    obtain ⟨P13, hC, F⟩ := F
    refine x_inv dX10_act_63 mlX10_112 hC (sW32 hW) (Nat.le_of_ble_eq_true rfl) (gW32 hW) rfl rfl (by omega) (Nat.zero_le _) (Nat.zero_le _) (Nat.le_of_ble_eq_true rfl) (fun o1 Y16 w15 ht hP => ?_)
    obtain rfl : o1 = none := ht
    obtain ⟨hX, hP⟩ := hP
    have hX := Eq.symm hX
    subst hX
    have F := F w15 hP
    refine x_aload_n dX10_act_66 rfl ?_
    refine x_getr (r' := 32) flX10_28 dX10_act_67 (sW0 hW) (gW0 hW) (rW0_2 hW) rfl (Nat.le_of_ble_eq_true rfl) ?_
    refine x_geti (e := (w15 32 1)) 0 flX10_116 dX10_act_70 (sW32 hW) (gW32 hW) rfl rfl (Nat.le_of_ble_eq_true rfl) (tagn2 rfl) ?_
    refine x_if_eq 95 dX10_act_73 rfl (fun hc => ?_) (fun hc => ?_)
    · have F := F.1 hc
      refine x_aload_n dX10_act_95 rfl ?_
      refine x_geti (e := (w15 0 11)) 0 flX10_122 dX10_act_96 (sW0 hW) (gW0 hW) rfl rfl (Nat.le_of_ble_eq_true rfl) (tagn2 rfl) ?_
      refine x_bipush dX10_act_99 kb_16 (i32_of rfl) ?_
      refine x_icmp_lt 111 dX10_act_101 rfl (fun hc => ?_) (fun hc => ?_)
      · have F := F.1 hc
        refine x_aload_n dX10_act_111 rfl ?_
        refine x_iconst dX10_act_112 rfl (i32_of rfl) ?_
        refine x_puti 0 fwX10_125 dX10_act_113 (sW0 hW) (gW0 hW) (fun h => Bool.noConfusion h) (Nat.le_of_ble_eq_true rfl) rfl (Or.inl ⟨rfl, Or.inl rfl⟩) ?_
        refine x_aload_n dX10_act_116 rfl ?_
        refine x_iconst dX10_act_117 rfl (i32_of rfl) ?_
        refine x_puti 0 fwX10_71 dX10_act_118 (sW0 hW) (gW0 hW) (fun h => Bool.noConfusion h) (Nat.le_of_ble_eq_true rfl) rfl (Or.inl ⟨rfl, Or.inl rfl⟩) ?_
        refine x_aload_n dX10_act_121 rfl ?_
        refine x_aload_n dX10_act_122 rfl ?_
        obtain ⟨c21, s22, hc1, hs1_, F⟩ := F
        obtain ⟨P17, hC, F⟩ := F
        refine x_inv dX10_act_123 mlX10_128 hC (sW0 hW) (Nat.le_of_ble_eq_true rfl) (gW0 hW) rfl rfl (by omega) hc1 hs1_ (Nat.le_of_ble_eq_true rfl) (fun o1 Y20 w19 ht hP => ?_)
        obtain ⟨r18, rfl⟩ : ∃ i, o1 = some (0, i) := ht
        obtain ⟨hW23, F⟩ := F r18 Y20 w19 hP
        exact x_ret (some (0, r18)) rfl ⟨dX10_act_126, Or.inl rfl⟩ F
      · have F := F.2 hc
        refine x_aload_n dX10_act_104 rfl ?_
        refine x_iconst dX10_act_105 rfl (i32_of rfl) ?_
        refine x_iconst dX10_act_106 rfl (i32_of rfl) ?_
        obtain ⟨P24, hC, F⟩ := F
        refine x_inv dX10_act_107 mlX10_108 hC (sW0 hW) (Nat.le_of_ble_eq_true rfl) (gW0 hW) rfl rfl (by omega) (Nat.zero_le _) (Nat.zero_le _) (Nat.le_of_ble_eq_true rfl) (fun o1 Y27 w26 ht hP => ?_)
        obtain ⟨r25, rfl⟩ : ∃ i, o1 = some (0, i) := ht
        obtain ⟨hX, hP⟩ := hP
        have hX := Eq.symm hX
        subst hX
        have F := F r25 w26 hP
        exact x_ret (some (0, r25)) rfl ⟨dX10_act_110, Or.inl rfl⟩ F
    · have F := F.2 hc
      refine x_aload_n dX10_act_76 rfl ?_
      refine x_aload_n dX10_act_77 rfl ?_
      refine x_getr (r' := 32) flX10_28 dX10_act_78 (sW0 hW) (gW0 hW) (rW0_2 hW) rfl (Nat.le_of_ble_eq_true rfl) ?_
      refine x_geti (e := (w15 32 1)) 0 flX10_116 dX10_act_81 (sW32 hW) (gW32 hW) rfl rfl (Nat.le_of_ble_eq_true rfl) (tagn2 rfl) ?_
      refine x_aload_n dX10_act_84 rfl ?_
      refine x_getr (r' := 32) flX10_28 dX10_act_85 (sW0 hW) (gW0 hW) (rW0_2 hW) rfl (Nat.le_of_ble_eq_true rfl) ?_
      refine x_geti (e := (w15 32 2)) 0 flX10_119 dX10_act_88 (sW32 hW) (gW32 hW) rfl rfl (Nat.le_of_ble_eq_true rfl) (tagn2 rfl) ?_
      obtain ⟨P28, hC, F⟩ := F
      refine x_inv dX10_act_91 mlX10_108 hC (sW0 hW) (Nat.le_of_ble_eq_true rfl) (gW0 hW) rfl rfl (by omega) (Nat.zero_le _) (Nat.zero_le _) (Nat.le_of_ble_eq_true rfl) (fun o1 Y31 w30 ht hP => ?_)
      obtain ⟨r29, rfl⟩ : ∃ i, o1 = some (0, i) := ht
      obtain ⟨hX, hP⟩ := hP
      have hX := Eq.symm hX
      subst hX
      have F := F r29 w30 hP
      exact x_ret (some (0, r29)) rfl ⟨dX10_act_94, Or.inl rfl⟩ F
  · have F := F.2 hc
    refine x_aload_n dX10_act_37 rfl ?_
    refine x_iconst dX10_act_38 rfl (i32_of rfl) ?_
    refine x_aload_n dX10_act_39 rfl ?_
    refine x_getr (r' := 3) flX10_21 dX10_act_40 (sW0 hW) (gW0 hW) (rW0_1 hW) rfl (Nat.le_of_ble_eq_true rfl) ?_
    obtain ⟨P32, hC, F⟩ := F
    refine x_inv dX10_act_43 mlX10_105 hC (sW3 hW) (Nat.le_of_ble_eq_true rfl) (gW3 hW) rfl rfl (by omega) (Nat.zero_le _) (Nat.zero_le _) (Nat.le_of_ble_eq_true rfl) (fun o1 Y35 w34 ht hP => ?_)
    obtain ⟨r33, rfl⟩ : ∃ i, o1 = some (0, i) := ht
    obtain ⟨hX, hP⟩ := hP
    have hX := Eq.symm hX
    subst hX
    have F := F r33 w34 hP
    obtain ⟨P36, hC, F⟩ := F
    refine x_inv dX10_act_46 mlX10_108 hC (sW0 hW) (Nat.le_of_ble_eq_true rfl) (gW0 hW) rfl rfl (by omega) (Nat.zero_le _) (Nat.zero_le _) (Nat.le_of_ble_eq_true rfl) (fun o1 Y39 w38 ht hP => ?_)
    obtain ⟨r37, rfl⟩ : ∃ i, o1 = some (0, i) := ht
    obtain ⟨hX, hP⟩ := hP
    have hX := Eq.symm hX
    subst hX
    have F := F r37 w38 hP
    exact x_ret (some (0, r37)) rfl ⟨dX10_act_49, Or.inl rfl⟩ F

set_option maxRecDepth 100000 in
set_option maxHeartbeats 4000000 in
theorem bX10_fault_0 {d mc ms : Nat} {X : XX} {v : VV} {Q : QQ} (a1 : Int) (hd : 0 ≤ d) (hW : SW X) (F : i32 a1 → (((¬ a1 = 0) → (((¬ a1 = 1) → Q (some (0, (-1))) X v) ∧ ((a1 = 1) → Q (some (0, (v 0 15))) X v))) ∧ ((a1 = 0) → Q (some (0, (v 0 14))) X v))) : Ex mX10_fault d 0 [(2, 0), (0, a1)] [] X v mc ms Q := by
  refine x_li32 (i := 1) rfl (fun ha1 => ?_)
  have F := F ha1
  refine x_iload_n dX10_fault_0 rfl ?_
  refine x_if_ne 9 dX10_fault_1 rfl (fun hc => ?_) (fun hc => ?_)
  · have F := F.1 hc
    refine x_iload_n dX10_fault_9 rfl ?_
    refine x_iconst dX10_fault_10 rfl (i32_of rfl) ?_
    refine x_icmp_ne 21 dX10_fault_11 rfl (fun hc => ?_) (fun hc => ?_)
    · have F := F.1 hc
      refine x_iconst dX10_fault_21 rfl (i32_of rfl) ?_
      exact x_ret (some (0, (-1))) rfl ⟨dX10_fault_22, Or.inl rfl⟩ F
    · have F := F.2 hc
      refine x_aload_n dX10_fault_14 rfl ?_
      refine x_geti (e := (v 0 15)) 0 flX10_71 dX10_fault_15 (sW0 hW) (gW0 hW) rfl rfl (Nat.le_of_ble_eq_true rfl) (tagn2 rfl) ?_
      refine x_goto 22 dX10_fault_18 rfl ?_
      exact x_ret (some (0, (v 0 15))) rfl ⟨dX10_fault_22, Or.inl rfl⟩ F
  · have F := F.2 hc
    refine x_aload_n dX10_fault_4 rfl ?_
    refine x_geti (e := (v 0 14)) 0 flX10_125 dX10_fault_5 (sW0 hW) (gW0 hW) rfl rfl (Nat.le_of_ble_eq_true rfl) (tagn2 rfl) ?_
    exact x_ret (some (0, (v 0 14))) rfl ⟨dX10_fault_8, Or.inl rfl⟩ F

set_option maxRecDepth 100000 in
set_option maxHeartbeats 4000000 in
theorem bX10_named_0 {d mc ms : Nat} {X : XX} {v : VV} {Q : QQ} (hd : 11 ≤ d) (hW : SW X) (F : ∃ P1 : Option AV → VV → Prop, Con mX8_readAll 10 0 0 [(2, 5), (2, 1)] X v (fun o X1 v1 => X1 = X ∧ P1 o v1) ∧ ∀ (w3 : VV), P1 none w3 → ∃ P5 : Option AV → VV → Prop, Con mX6_cutTo 0 0 0 [(2, 1), (0, 0)] X w3 (fun o X1 v1 => X1 = X ∧ P5 o v1) ∧ ∀ (w7 : VV), P5 none w7 → ∃ P9 : Option AV → VV → Prop, Con mX8_isOneName 1 0 0 [(2, 5)] X w7 (fun o X1 v1 => X1 = X ∧ P9 o v1) ∧ ∀ (r10 : Int) (w11 : VV), P9 (some (0, r10)) w11 → (((¬ r10 = 0) → ∃ P13 : Option AV → VV → Prop, Con mX8_nameOf 0 0 0 [(2, 5), (0, 0)] X w11 (fun o X1 v1 => X1 = X ∧ P13 o v1) ∧ ∀ (r14 : Int) (w15 : VV), P13 (some (1, r14)) w15 → ∃ P17 : Option AV → VV → Prop, Con mX10_indexOfName 0 0 0 [(2, 37), (1, r14)] X w15 (fun o X1 v1 => X1 = X ∧ P17 o v1) ∧ ∀ (r18 : Int) (w19 : VV), P17 (some (0, r18)) w19 → (((¬ r18 = (-1)) → Q (some (0, r18)) X w19) ∧ ((r18 = (-1)) → Q (some (0, (-2))) X w19))) ∧ ((r10 = 0) → Q (some (0, (-1))) X w11))) : Ex mX10_named d 0 [(2, 0), (3, 0), (3, 0)] [] X v mc ms Q := by
  refine x_aload_n dX10_named_0 rfl ?_
  refine x_getr (r' := 3) flX10_21 dX10_named_1 (sW0 hW) (gW0 hW) (rW0_1 hW) rfl (Nat.le_of_ble_eq_true rfl) ?_
  refine x_getr (r' := 4) flX10_85 dX10_named_4 (sW3 hW) (gW3 hW) (rW3_0 hW) rfl (Nat.le_of_ble_eq_true rfl) ?_
  refine x_getr (r' := 5) flX10_89 dX10_named_7 (sW4 hW) (gW4 hW) (rW4_0 hW) rfl (Nat.le_of_ble_eq_true rfl) ?_
  refine x_astore_n [(2, 0), (2, 5), (3, 0)] dX10_named_10 rfl (Nat.le_of_ble_eq_true rfl) ?_
  refine x_aload_n dX10_named_11 rfl ?_
  refine x_aload_n dX10_named_12 rfl ?_
  refine x_getr (r' := 1) flX10_14 dX10_named_13 (sW0 hW) (gW0 hW) (rW0_0 hW) rfl (Nat.le_of_ble_eq_true rfl) ?_
  obtain ⟨P1, hC, F⟩ := F
  refine x_inv dX10_named_16 mlX10_95 hC (sW5 hW) (Nat.le_of_ble_eq_true rfl) (gW5 hW) rfl rfl (by omega) (Nat.zero_le _) (Nat.zero_le _) (Nat.le_of_ble_eq_true rfl) (fun o1 Y4 w3 ht hP => ?_)
  obtain rfl : o1 = none := ht
  obtain ⟨hX, hP⟩ := hP
  have hX := Eq.symm hX
  subst hX
  have F := F w3 hP
  refine x_aload_n dX10_named_19 rfl ?_
  refine x_getr (r' := 1) flX10_14 dX10_named_20 (sW0 hW) (gW0 hW) (rW0_0 hW) rfl (Nat.le_of_ble_eq_true rfl) ?_
  refine x_iconst dX10_named_23 rfl (i32_of rfl) ?_
  obtain ⟨P5, hC, F⟩ := F
  refine x_inv dX10_named_24 mlX10_82 hC (sW1 hW) (Nat.le_of_ble_eq_true rfl) (gW1 hW) rfl rfl (by omega) (Nat.zero_le _) (Nat.zero_le _) (Nat.le_of_ble_eq_true rfl) (fun o1 Y8 w7 ht hP => ?_)
  obtain rfl : o1 = none := ht
  obtain ⟨hX, hP⟩ := hP
  have hX := Eq.symm hX
  subst hX
  have F := F w7 hP
  refine x_aload_n dX10_named_27 rfl ?_
  obtain ⟨P9, hC, F⟩ := F
  refine x_inv dX10_named_28 mlX10_132 hC (sW5 hW) (Nat.le_of_ble_eq_true rfl) (gW5 hW) rfl rfl (by omega) (Nat.zero_le _) (Nat.zero_le _) (Nat.le_of_ble_eq_true rfl) (fun o1 Y12 w11 ht hP => ?_)
  obtain ⟨r10, rfl⟩ : ∃ i, o1 = some (0, i) := ht
  obtain ⟨hX, hP⟩ := hP
  have hX := Eq.symm hX
  subst hX
  have F := F r10 w11 hP
  refine x_if_ne 36 dX10_named_31 rfl (fun hc => ?_) (fun hc => ?_)
  · have F := F.1 hc
    refine x_aload_n dX10_named_36 rfl ?_
    refine x_getr (r' := 37) flX10_41 dX10_named_37 (sW0 hW) (gW0 hW) (rW0_4 hW) rfl (Nat.le_of_ble_eq_true rfl) ?_
    refine x_aload_n dX10_named_40 rfl ?_
    refine x_iconst dX10_named_41 rfl (i32_of rfl) ?_
    obtain ⟨P13, hC, F⟩ := F
    refine x_inv dX10_named_42 mlX10_135 hC (sW5 hW) (Nat.le_of_ble_eq_true rfl) (gW5 hW) rfl rfl (by omega) (Nat.zero_le _) (Nat.zero_le _) (Nat.le_of_ble_eq_true rfl) (fun o1 Y16 w15 ht hP => ?_)
    obtain ⟨r14, rfl⟩ : ∃ i, o1 = some (1, i) := ht
    obtain ⟨hX, hP⟩ := hP
    have hX := Eq.symm hX
    subst hX
    have F := F r14 w15 hP
    obtain ⟨P17, hC, F⟩ := F
    refine x_static dX10_named_45 mlX10_139 hC rfl rfl (by omega) (Nat.zero_le _) (Nat.zero_le _) (Nat.le_of_ble_eq_true rfl) (fun o1 Y20 w19 ht hP => ?_)
    obtain ⟨r18, rfl⟩ : ∃ i, o1 = some (0, i) := ht
    obtain ⟨hX, hP⟩ := hP
    have hX := Eq.symm hX
    subst hX
    have F := F r18 w19 hP
    refine x_istore_n [(2, 0), (2, 5), (0, r18)] dX10_named_48 rfl (Nat.le_of_ble_eq_true rfl) ?_
    refine x_iload_n dX10_named_49 rfl ?_
    refine x_iconst dX10_named_50 rfl (i32_of rfl) ?_
    refine x_icmp_ne 59 dX10_named_51 rfl (fun hc => ?_) (fun hc => ?_)
    · have F := F.1 hc
      refine x_iload_n dX10_named_59 rfl ?_
      exact x_ret (some (0, r18)) rfl ⟨dX10_named_60, Or.inl rfl⟩ F
    · have F := F.2 hc
      refine x_bipush dX10_named_54 kb_m2 (i32_of rfl) ?_
      refine x_goto 60 dX10_named_56 rfl ?_
      exact x_ret (some (0, (-2))) rfl ⟨dX10_named_60, Or.inl rfl⟩ F
  · have F := F.2 hc
    refine x_iconst dX10_named_34 rfl (i32_of rfl) ?_
    exact x_ret (some (0, (-1))) rfl ⟨dX10_named_35, Or.inl rfl⟩ F

set_option maxRecDepth 100000 in
set_option maxHeartbeats 4000000 in
theorem bX10_table_0 {d mc ms : Nat} {X : XX} {v : VV} {Q : QQ} (a1 : Int) (a2 : Int) (hd : 2 ≤ d) (hW : SW X) (F : i32 a1 → i32 a2 → ∃ P1 : Option AV → VV → Prop, Con mX10_tableAt 0 0 0 [(2, 0), (0, a1)] X v (fun o X1 v1 => X1 = X ∧ P1 o v1) ∧ ∀ (r2 : Int) (w3 : VV), P1 (some (2, r2)) w3 → (((¬ r2 = -1) → (((a2 = 0) → X.1.2 r2 = (7, 0) ∧ (0 ≤ r2 ∧ r2 < X.1.1) ∧ Q (some (0, (w3 r2 5))) X w3) ∧ ((a2 = 1) → X.1.2 r2 = (7, 0) ∧ (0 ≤ r2 ∧ r2 < X.1.1) ∧ ∃ P7 : Option AV → VV → Prop, Con mX7_columnCount 0 0 0 [(2, r2)] X w3 (fun o X1 v1 => X1 = X ∧ P7 o v1) ∧ ∀ (r8 : Int) (w9 : VV), P7 (some (0, r8)) w9 → Q (some (0, r8)) X w9) ∧ ((a2 = 2) → X.1.2 r2 = (7, 0) ∧ (0 ≤ r2 ∧ r2 < X.1.1) ∧ X.1.2 (X.2 r2 2) = (6, 0) ∧ (0 ≤ (X.2 r2 2) ∧ (X.2 r2 2) < X.1.1) ∧ ∃ P13 : Option AV → VV → Prop, Con mX6_size 0 0 0 [(2, (X.2 r2 2))] X w3 (fun o X1 v1 => X1 = X ∧ P13 o v1) ∧ ∀ (r14 : Int) (w15 : VV), P13 (some (0, r14)) w15 → Q (some (0, r14)) X w15) ∧ ((a2 = 3) → Ex mX10_table d 86 [(2, 0), (0, a1), (0, a2), (2, r2)] [] X w3 mc ms Q) ∧ ((a2 = 4) → Ex mX10_table d 86 [(2, 0), (0, a1), (0, a2), (2, r2)] [] X w3 mc ms Q) ∧ ((a2 = 5) → Ex mX10_table d 86 [(2, 0), (0, a1), (0, a2), (2, r2)] [] X w3 mc ms Q) ∧ ((a2 = 6) → X.1.2 r2 = (7, 0) ∧ (0 ≤ r2 ∧ r2 < X.1.1) ∧ Q (some (0, (w3 r2 6))) X w3) ∧ ((a2 = 7) → X.1.2 r2 = (7, 0) ∧ (0 ≤ r2 ∧ r2 < X.1.1) ∧ Q (some (0, (w3 r2 7))) X w3) ∧ ((a2 = 8) → ∃ P19 : Option AV → VV → Prop, Con mX10_ownerOf 1 0 0 [(2, 0), (0, a1)] X w3 (fun o X1 v1 => X1 = X ∧ P19 o v1) ∧ ∀ (r20 : Int) (w21 : VV), P19 (some (0, r20)) w21 → Q (some (0, r20)) X w21) ∧ ((a2 = 9) → X.1.2 r2 = (7, 0) ∧ (0 ≤ r2 ∧ r2 < X.1.1) ∧ Q (some (0, (w3 r2 9))) X w3) ∧ ((a2 < 0 ∨ 9 < a2) → Q (some (0, (-1))) X w3))) ∧ ((r2 = -1) → Q (some (0, (-1))) X w3))) : Ex mX10_table d 0 [(2, 0), (0, a1), (0, a2), (3, 0)] [] X v mc ms Q := by
  refine x_li32 (i := 1) rfl (fun ha1 => ?_)
  have F := F ha1
  refine x_li32 (i := 2) rfl (fun ha2 => ?_)
  have F := F ha2
  refine x_aload_n dX10_table_0 rfl ?_
  refine x_iload_n dX10_table_1 rfl ?_
  obtain ⟨P1, hC, F⟩ := F
  refine x_inv dX10_table_2 mlX10_143 hC (sW0 hW) (Nat.le_of_ble_eq_true rfl) (gW0 hW) rfl rfl (by omega) (Nat.zero_le _) (Nat.zero_le _) (Nat.le_of_ble_eq_true rfl) (fun o1 Y4 w3 ht hP => ?_)
  obtain ⟨r2, rfl⟩ : ∃ i, o1 = some (2, i) := ht
  obtain ⟨hX, hP⟩ := hP
  have hX := Eq.symm hX
  subst hX
  have F := F r2 w3 hP
  refine x_astore_n [(2, 0), (0, a1), (0, a2), (2, r2)] dX10_table_5 rfl (Nat.le_of_ble_eq_true rfl) ?_
  refine x_aload_n dX10_table_6 rfl ?_
  refine x_ifnonnull 12 dX10_table_7 rfl (fun hc => ?_) (fun hc => ?_)
  · have F := F.1 hc
    refine x_iload_n dX10_table_12 rfl ?_
    rcases (show a2 = 0 ∨ a2 = 1 ∨ a2 = 2 ∨ a2 = 3 ∨ a2 = 4 ∨ a2 = 5 ∨ a2 = 6 ∨ a2 = 7 ∨ a2 = 8 ∨ a2 = 9 ∨ (a2 < 0 ∨ 9 < a2) by omega) with hc | hc | hc | hc | hc | hc | hc | hc | hc | hc | hc
    · have F := F.1 hc
      refine x_tableAt 68 dX10_table_13 (by omega) (by omega) (off := 55) (by rw [hc]; rfl) rfl ?_
      refine x_aload_n dX10_table_68 rfl ?_
      obtain ⟨hs5, hr5, F⟩ := F
      refine x_geti (e := (w3 r2 5)) 0 flX10_147 dX10_table_69 hs5 hr5 rfl rfl (Nat.le_of_ble_eq_true rfl) (tagn2 rfl) ?_
      exact x_ret (some (0, (w3 r2 5))) rfl ⟨dX10_table_72, Or.inl rfl⟩ F
    · have F := F.2.1 hc
      refine x_tableAt 73 dX10_table_13 (by omega) (by omega) (off := 60) (by rw [hc]; rfl) rfl ?_
      refine x_aload_n dX10_table_73 rfl ?_
      obtain ⟨hs6, hr6, F⟩ := F
      obtain ⟨P7, hC, F⟩ := F
      refine x_inv dX10_table_74 mlX10_150 hC hs6 (Nat.le_of_ble_eq_true rfl) hr6 rfl rfl (by omega) (Nat.zero_le _) (Nat.zero_le _) (Nat.le_of_ble_eq_true rfl) (fun o1 Y10 w9 ht hP => ?_)
      obtain ⟨r8, rfl⟩ : ∃ i, o1 = some (0, i) := ht
      obtain ⟨hX, hP⟩ := hP
      have hX := Eq.symm hX
      subst hX
      have F := F r8 w9 hP
      exact x_ret (some (0, r8)) rfl ⟨dX10_table_77, Or.inl rfl⟩ F
    · have F := F.2.2.1 hc
      refine x_tableAt 78 dX10_table_13 (by omega) (by omega) (off := 65) (by rw [hc]; rfl) rfl ?_
      refine x_aload_n dX10_table_78 rfl ?_
      obtain ⟨hs11, hr11, F⟩ := F
      refine x_getr (r' := (X.2 r2 2)) flX10_153 dX10_table_79 hs11 hr11 rfl rfl (Nat.le_of_ble_eq_true rfl) ?_
      obtain ⟨hs12, hr12, F⟩ := F
      obtain ⟨P13, hC, F⟩ := F
      refine x_inv dX10_table_82 mlX10_75 hC hs12 (Nat.le_of_ble_eq_true rfl) hr12 rfl rfl (by omega) (Nat.zero_le _) (Nat.zero_le _) (Nat.le_of_ble_eq_true rfl) (fun o1 Y16 w15 ht hP => ?_)
      obtain ⟨r14, rfl⟩ : ∃ i, o1 = some (0, i) := ht
      obtain ⟨hX, hP⟩ := hP
      have hX := Eq.symm hX
      subst hX
      have F := F r14 w15 hP
      exact x_ret (some (0, r14)) rfl ⟨dX10_table_85, Or.inl rfl⟩ F
    · have F := F.2.2.2.1 hc
      refine x_tableAt 86 dX10_table_13 (by omega) (by omega) (off := 73) (by rw [hc]; rfl) rfl ?_
      exact F
    · have F := F.2.2.2.2.1 hc
      refine x_tableAt 86 dX10_table_13 (by omega) (by omega) (off := 73) (by rw [hc]; rfl) rfl ?_
      exact F
    · have F := F.2.2.2.2.2.1 hc
      refine x_tableAt 86 dX10_table_13 (by omega) (by omega) (off := 73) (by rw [hc]; rfl) rfl ?_
      exact F
    · have F := F.2.2.2.2.2.2.1 hc
      refine x_tableAt 97 dX10_table_13 (by omega) (by omega) (off := 84) (by rw [hc]; rfl) rfl ?_
      refine x_aload_n dX10_table_97 rfl ?_
      obtain ⟨hs17, hr17, F⟩ := F
      refine x_geti (e := (w3 r2 6)) 0 flX10_160 dX10_table_98 hs17 hr17 rfl rfl (Nat.le_of_ble_eq_true rfl) (tagn2 rfl) ?_
      exact x_ret (some (0, (w3 r2 6))) rfl ⟨dX10_table_101, Or.inl rfl⟩ F
    · have F := F.2.2.2.2.2.2.2.1 hc
      refine x_tableAt 102 dX10_table_13 (by omega) (by omega) (off := 89) (by rw [hc]; rfl) rfl ?_
      refine x_aload_n dX10_table_102 rfl ?_
      obtain ⟨hs18, hr18, F⟩ := F
      refine x_geti (e := (w3 r2 7)) 0 flX10_163 dX10_table_103 hs18 hr18 rfl rfl (Nat.le_of_ble_eq_true rfl) (tagn2 rfl) ?_
      exact x_ret (some (0, (w3 r2 7))) rfl ⟨dX10_table_106, Or.inl rfl⟩ F
    · have F := F.2.2.2.2.2.2.2.2.1 hc
      refine x_tableAt 107 dX10_table_13 (by omega) (by omega) (off := 94) (by rw [hc]; rfl) rfl ?_
      refine x_aload_n dX10_table_107 rfl ?_
      refine x_iload_n dX10_table_108 rfl ?_
      obtain ⟨P19, hC, F⟩ := F
      refine x_inv dX10_table_109 mlX10_166 hC (sW0 hW) (Nat.le_of_ble_eq_true rfl) (gW0 hW) rfl rfl (by omega) (Nat.zero_le _) (Nat.zero_le _) (Nat.le_of_ble_eq_true rfl) (fun o1 Y22 w21 ht hP => ?_)
      obtain ⟨r20, rfl⟩ : ∃ i, o1 = some (0, i) := ht
      obtain ⟨hX, hP⟩ := hP
      have hX := Eq.symm hX
      subst hX
      have F := F r20 w21 hP
      exact x_ret (some (0, r20)) rfl ⟨dX10_table_112, Or.inl rfl⟩ F
    · have F := F.2.2.2.2.2.2.2.2.2.1 hc
      refine x_tableAt 113 dX10_table_13 (by omega) (by omega) (off := 100) (by rw [hc]; rfl) rfl ?_
      refine x_aload_n dX10_table_113 rfl ?_
      obtain ⟨hs23, hr23, F⟩ := F
      refine x_geti (e := (w3 r2 9)) 0 flX10_169 dX10_table_114 hs23 hr23 rfl rfl (Nat.le_of_ble_eq_true rfl) (tagn2 rfl) ?_
      exact x_ret (some (0, (w3 r2 9))) rfl ⟨dX10_table_117, Or.inl rfl⟩ F
    · have F := F.2.2.2.2.2.2.2.2.2.2 hc
      refine x_tableOut 118 dX10_table_13 hc rfl ?_
      refine x_iconst dX10_table_118 rfl (i32_of rfl) ?_
      exact x_ret (some (0, (-1))) rfl ⟨dX10_table_119, Or.inl rfl⟩ F
  · have F := F.2 hc
    refine x_iconst dX10_table_10 rfl (i32_of rfl) ?_
    exact x_ret (some (0, (-1))) rfl ⟨dX10_table_11, Or.inl rfl⟩ F

set_option maxRecDepth 100000 in
set_option maxHeartbeats 4000000 in
theorem bX10_table_86 {d mc ms : Nat} {X : XX} {v : VV} {Q : QQ} (a1 : Int) (a2 : Int) (x3 : Int) (hd : 2 ≤ d) (hW : SW X) (F : i32 a1 → i32 a2 → X.1.2 x3 = (7, 0) ∧ (0 ≤ x3 ∧ x3 < X.1.1) ∧ i32 (a2 - 3) ∧ X.1.2 (X.2 x3 2) = (6, 0) ∧ (0 ≤ (X.2 x3 2) ∧ (X.2 x3 2) < X.1.1) ∧ ∃ P26 : Option AV → VV → Prop, Con mX6_get 0 0 0 [(2, (X.2 x3 2)), (0, (a2 - 3))] X v (fun o X1 v1 => X1 = X ∧ P26 o v1) ∧ ∀ (r27 : Int) (w28 : VV), P26 (some (0, r27)) w28 → Q (some (0, r27)) X w28) : Ex mX10_table d 86 [(2, 0), (0, a1), (0, a2), (2, x3)] [] X v mc ms Q := by
  refine x_li32 (i := 1) rfl (fun ha1 => ?_)
  have F := F ha1
  refine x_li32 (i := 2) rfl (fun ha2 => ?_)
  have F := F ha2
  refine x_aload_n dX10_table_86 rfl ?_
  obtain ⟨hs24, hr24, F⟩ := F
  refine x_getr (r' := (X.2 x3 2)) flX10_153 dX10_table_87 hs24 hr24 rfl rfl (Nat.le_of_ble_eq_true rfl) ?_
  refine x_iload_n dX10_table_90 rfl ?_
  refine x_iconst dX10_table_91 rfl (i32_of rfl) ?_
  obtain ⟨hz, F⟩ := F
  refine x_isub dX10_table_92 hz ?_
  obtain ⟨hs25, hr25, F⟩ := F
  obtain ⟨P26, hC, F⟩ := F
  refine x_inv dX10_table_93 mlX10_156 hC hs25 (Nat.le_of_ble_eq_true rfl) hr25 rfl rfl (by omega) (Nat.zero_le _) (Nat.zero_le _) (Nat.le_of_ble_eq_true rfl) (fun o1 Y29 w28 ht hP => ?_)
  obtain ⟨r27, rfl⟩ : ∃ i, o1 = some (0, i) := ht
  obtain ⟨hX, hP⟩ := hP
  have hX := Eq.symm hX
  subst hX
  have F := F r27 w28 hP
  exact x_ret (some (0, r27)) rfl ⟨dX10_table_96, Or.inl rfl⟩ F

set_option maxRecDepth 100000 in
set_option maxHeartbeats 4000000 in
theorem bX10_type_0 {d mc ms : Nat} {X : XX} {v : VV} {Q : QQ} (a1 : Int) (a2 : Int) (hd : 2 ≤ d) (hW : SW X) (F : i32 a1 → i32 a2 → ∃ P1 : Option AV → VV → Prop, Con mX10_hasColumn 1 0 0 [(2, 0), (0, a1), (0, a2)] X v (fun o X1 v1 => X1 = X ∧ P1 o v1) ∧ ∀ (r2 : Int) (w3 : VV), P1 (some (0, r2)) w3 → (((r2 = 0) → Q (some (0, (-1))) X w3) ∧ ((¬ r2 = 0) → i32 (a1 * 8) ∧ (i32 (a1 * 8) → i32 ((a1 * 8) + a2)) ∧ (0 ≤ ((a1 * 8) + a2) ∧ ((a1 * 8) + a2) < 128) ∧ Q (some (0, (w3 38 ((a1 * 8) + a2)))) X w3))) : Ex mX10_type d 0 [(2, 0), (0, a1), (0, a2)] [] X v mc ms Q := by
  refine x_li32 (i := 1) rfl (fun ha1 => ?_)
  have F := F ha1
  refine x_li32 (i := 2) rfl (fun ha2 => ?_)
  have F := F ha2
  refine x_aload_n dX10_type_0 rfl ?_
  refine x_iload_n dX10_type_1 rfl ?_
  refine x_iload_n dX10_type_2 rfl ?_
  obtain ⟨P1, hC, F⟩ := F
  refine x_inv dX10_type_3 mlX10_172 hC (sW0 hW) (Nat.le_of_ble_eq_true rfl) (gW0 hW) rfl rfl (by omega) (Nat.zero_le _) (Nat.zero_le _) (Nat.le_of_ble_eq_true rfl) (fun o1 Y4 w3 ht hP => ?_)
  obtain ⟨r2, rfl⟩ : ∃ i, o1 = some (0, i) := ht
  obtain ⟨hX, hP⟩ := hP
  have hX := Eq.symm hX
  subst hX
  have F := F r2 w3 hP
  refine x_if_eq 23 dX10_type_6 rfl (fun hc => ?_) (fun hc => ?_)
  · have F := F.1 hc
    refine x_iconst dX10_type_23 rfl (i32_of rfl) ?_
    exact x_ret (some (0, (-1))) rfl ⟨dX10_type_24, Or.inl rfl⟩ F
  · have F := F.2 hc
    refine x_aload_n dX10_type_9 rfl ?_
    refine x_getr (r' := 38) flX10_45 dX10_type_10 (sW0 hW) (gW0 hW) (rW0_5 hW) rfl (Nat.le_of_ble_eq_true rfl) ?_
    refine x_iload_n dX10_type_13 rfl ?_
    refine x_bipush dX10_type_14 kb_8 (i32_of rfl) ?_
    obtain ⟨hz, F⟩ := F
    refine x_imul dX10_type_16 hz ?_
    refine x_iload_n dX10_type_17 rfl ?_
    refine x_si32 (i := 1) rfl (fun hk1 => ?_)
    obtain ⟨hz, F⟩ := F
    have hz := hz hk1
    refine x_iadd dX10_type_18 hz ?_
    obtain ⟨hi, F⟩ := F
    refine x_iald (e := (w3 38 ((a1 * 8) + a2))) dX10_type_19 (sW38 hW) (gW38 hW) hi rfl ?_
    refine x_goto 24 dX10_type_20 rfl ?_
    exact x_ret (some (0, (w3 38 ((a1 * 8) + a2)))) rfl ⟨dX10_type_24, Or.inl rfl⟩ F

set_option maxRecDepth 100000 in
set_option maxHeartbeats 4000000 in
theorem bX10_from_0 {d mc ms : Nat} {X : XX} {v : VV} {Q : QQ} (a1 : Int) (a2 : Int) (a3 : Int) (hd : 3 ≤ d) (hW : SW X) (F : i32 a1 → i32 a2 → i32 a3 → ∃ P1 : Option AV → VV → Prop, Con mX10_tableAt 0 0 0 [(2, 0), (0, a1)] X v (fun o X1 v1 => X1 = X ∧ P1 o v1) ∧ ∀ (r2 : Int) (w3 : VV), P1 (some (2, r2)) w3 → (((r2 = -1) → Q (some (0, (-1))) X w3) ∧ ((¬ r2 = -1) → ∃ P5 : Option AV → VV → Prop, Con mX10_hasColumn 1 0 0 [(2, 0), (0, a1), (0, a2)] X w3 (fun o X1 v1 => X1 = X ∧ P5 o v1) ∧ ∀ (r6 : Int) (w7 : VV), P5 (some (0, r6)) w7 → (((r6 = 0) → Q (some (0, (-1))) X w7) ∧ ((¬ r6 = 0) → (((a3 < 0) → Q (some (0, (-1))) X w7) ∧ ((0 ≤ a3) → (((a3 ≤ 2) → ∃ P9 : Option AV → VV → Prop, Con mX2_clear 0 0 0 [(2, 41)] X w7 (fun o X1 v1 => X1 = X ∧ P9 o v1) ∧ ∀ (w11 : VV), P9 none w11 → X.1.2 r2 = (7, 0) ∧ (0 ≤ r2 ∧ r2 < X.1.1) ∧ X.1.2 (X.2 r2 3) = (5, 0) ∧ (0 ≤ (X.2 r2 3) ∧ (X.2 r2 3) < X.1.1) ∧ ∃ P15 : Option AV → VV → Prop, Con mX5_markUsed 1 0 0 [(2, (X.2 r2 3)), (0, a2), (2, 41)] X w11 (fun o X1 v1 => X1 = X ∧ P15 o v1) ∧ ∀ (w17 : VV), P15 none w17 → (((a3 = 0) → Ex mX10_from d 61 [(2, 0), (0, a1), (0, a2), (0, a3), (2, r2)] [] X w17 mc ms Q) ∧ ((¬ a3 = 0) → ∃ P19 : Option AV → VV → Prop, Con mX10_markEarlierSteps 2 0 0 [(2, 0), (0, a1)] X w17 (fun o X1 v1 => X1 = X ∧ P19 o v1) ∧ ∀ (w21 : VV), P19 none w21 → Ex mX10_from d 61 [(2, 0), (0, a1), (0, a2), (0, a3), (2, r2)] [] X w21 mc ms Q))) ∧ ((2 < a3) → Q (some (0, (-1))) X w7))))))))) : Ex mX10_from d 0 [(2, 0), (0, a1), (0, a2), (0, a3), (3, 0)] [] X v mc ms Q := by
  refine x_li32 (i := 1) rfl (fun ha1 => ?_)
  have F := F ha1
  refine x_li32 (i := 2) rfl (fun ha2 => ?_)
  have F := F ha2
  refine x_li32 (i := 3) rfl (fun ha3 => ?_)
  have F := F ha3
  refine x_aload_n dX10_from_0 rfl ?_
  refine x_iload_n dX10_from_1 rfl ?_
  obtain ⟨P1, hC, F⟩ := F
  refine x_inv dX10_from_2 mlX10_143 hC (sW0 hW) (Nat.le_of_ble_eq_true rfl) (gW0 hW) rfl rfl (by omega) (Nat.zero_le _) (Nat.zero_le _) (Nat.le_of_ble_eq_true rfl) (fun o1 Y4 w3 ht hP => ?_)
  obtain ⟨r2, rfl⟩ : ∃ i, o1 = some (2, i) := ht
  obtain ⟨hX, hP⟩ := hP
  have hX := Eq.symm hX
  subst hX
  have F := F r2 w3 hP
  refine x_astore [(2, 0), (0, a1), (0, a2), (0, a3), (2, r2)] dX10_from_5 rfl (Nat.le_of_ble_eq_true rfl) ?_
  refine x_aload dX10_from_7 rfl ?_
  refine x_ifnull 30 dX10_from_9 rfl (fun hc => ?_) (fun hc => ?_)
  · have F := F.1 hc
    refine x_iconst dX10_from_30 rfl (i32_of rfl) ?_
    exact x_ret (some (0, (-1))) rfl ⟨dX10_from_31, Or.inl rfl⟩ F
  · have F := F.2 hc
    refine x_aload_n dX10_from_12 rfl ?_
    refine x_iload_n dX10_from_13 rfl ?_
    refine x_iload_n dX10_from_14 rfl ?_
    obtain ⟨P5, hC, F⟩ := F
    refine x_inv dX10_from_15 mlX10_172 hC (sW0 hW) (Nat.le_of_ble_eq_true rfl) (gW0 hW) rfl rfl (by omega) (Nat.zero_le _) (Nat.zero_le _) (Nat.le_of_ble_eq_true rfl) (fun o1 Y8 w7 ht hP => ?_)
    obtain ⟨r6, rfl⟩ : ∃ i, o1 = some (0, i) := ht
    obtain ⟨hX, hP⟩ := hP
    have hX := Eq.symm hX
    subst hX
    have F := F r6 w7 hP
    refine x_if_eq 30 dX10_from_18 rfl (fun hc => ?_) (fun hc => ?_)
    · have F := F.1 hc
      refine x_iconst dX10_from_30 rfl (i32_of rfl) ?_
      exact x_ret (some (0, (-1))) rfl ⟨dX10_from_31, Or.inl rfl⟩ F
    · have F := F.2 hc
      refine x_iload_n dX10_from_21 rfl ?_
      refine x_if_lt 30 dX10_from_22 rfl (fun hc => ?_) (fun hc => ?_)
      · have F := F.1 hc
        refine x_iconst dX10_from_30 rfl (i32_of rfl) ?_
        exact x_ret (some (0, (-1))) rfl ⟨dX10_from_31, Or.inl rfl⟩ F
      · have F := F.2 hc
        refine x_iload_n dX10_from_25 rfl ?_
        refine x_iconst dX10_from_26 rfl (i32_of rfl) ?_
        refine x_icmp_le 32 dX10_from_27 rfl (fun hc => ?_) (fun hc => ?_)
        · have F := F.1 hc
          refine x_aload_n dX10_from_32 rfl ?_
          refine x_getr (r' := 41) flX10_61 dX10_from_33 (sW0 hW) (gW0 hW) (rW0_8 hW) rfl (Nat.le_of_ble_eq_true rfl) ?_
          obtain ⟨P9, hC, F⟩ := F
          refine x_inv dX10_from_36 mlX10_176 hC (sW41 hW) (Nat.le_of_ble_eq_true rfl) (gW41 hW) rfl rfl (by omega) (Nat.zero_le _) (Nat.zero_le _) (Nat.le_of_ble_eq_true rfl) (fun o1 Y12 w11 ht hP => ?_)
          obtain rfl : o1 = none := ht
          obtain ⟨hX, hP⟩ := hP
          have hX := Eq.symm hX
          subst hX
          have F := F w11 hP
          refine x_aload dX10_from_39 rfl ?_
          obtain ⟨hs13, hr13, F⟩ := F
          refine x_getr (r' := (X.2 r2 3)) flX10_179 dX10_from_41 hs13 hr13 rfl rfl (Nat.le_of_ble_eq_true rfl) ?_
          refine x_iload_n dX10_from_44 rfl ?_
          refine x_aload_n dX10_from_45 rfl ?_
          refine x_getr (r' := 41) flX10_61 dX10_from_46 (sW0 hW) (gW0 hW) (rW0_8 hW) rfl (Nat.le_of_ble_eq_true rfl) ?_
          obtain ⟨hs14, hr14, F⟩ := F
          obtain ⟨P15, hC, F⟩ := F
          refine x_inv dX10_from_49 mlX10_183 hC hs14 (Nat.le_of_ble_eq_true rfl) hr14 rfl rfl (by omega) (Nat.zero_le _) (Nat.zero_le _) (Nat.le_of_ble_eq_true rfl) (fun o1 Y18 w17 ht hP => ?_)
          obtain rfl : o1 = none := ht
          obtain ⟨hX, hP⟩ := hP
          have hX := Eq.symm hX
          subst hX
          have F := F w17 hP
          refine x_iload_n dX10_from_52 rfl ?_
          refine x_if_eq 61 dX10_from_53 rfl (fun hc => ?_) (fun hc => ?_)
          · have F := F.1 hc
            exact F
          · have F := F.2 hc
            refine x_aload_n dX10_from_56 rfl ?_
            refine x_iload_n dX10_from_57 rfl ?_
            obtain ⟨P19, hC, F⟩ := F
            refine x_inv dX10_from_58 mlX10_189 hC (sW0 hW) (Nat.le_of_ble_eq_true rfl) (gW0 hW) rfl rfl (by omega) (Nat.zero_le _) (Nat.zero_le _) (Nat.le_of_ble_eq_true rfl) (fun o1 Y22 w21 ht hP => ?_)
            obtain rfl : o1 = none := ht
            obtain ⟨hX, hP⟩ := hP
            have hX := Eq.symm hX
            subst hX
            have F := F w21 hP
            exact F
        · have F := F.2 hc
          refine x_iconst dX10_from_30 rfl (i32_of rfl) ?_
          exact x_ret (some (0, (-1))) rfl ⟨dX10_from_31, Or.inl rfl⟩ F

set_option maxRecDepth 100000 in
set_option maxHeartbeats 4000000 in
theorem bX10_from_61 {d mc ms : Nat} {X : XX} {v : VV} {Q : QQ} (a1 : Int) (a2 : Int) (a3 : Int) (x4 : Int) (hd : 3 ≤ d) (hW : SW X) (F : i32 a1 → i32 a2 → i32 a3 → (((¬ a3 = 2) → ∃ P23 : Option AV → VV → Prop, Con mX10_findMarked 2 0 0 [(2, 0), (0, 0)] X v (fun o X1 v1 => X1 = X ∧ P23 o v1) ∧ ∀ (r24 : Int) (w25 : VV), P23 (some (0, r24)) w25 → Q (some (0, r24)) X w25) ∧ ((a3 = 2) → ∃ P27 : Option AV → VV → Prop, Con mX10_findMarked 2 0 0 [(2, 0), (0, 1)] X v (fun o X1 v1 => X1 = X ∧ P27 o v1) ∧ ∀ (r28 : Int) (w29 : VV), P27 (some (0, r28)) w29 → Q (some (0, r28)) X w29))) : Ex mX10_from d 61 [(2, 0), (0, a1), (0, a2), (0, a3), (2, x4)] [] X v mc ms Q := by
  refine x_li32 (i := 1) rfl (fun ha1 => ?_)
  have F := F ha1
  refine x_li32 (i := 2) rfl (fun ha2 => ?_)
  have F := F ha2
  refine x_li32 (i := 3) rfl (fun ha3 => ?_)
  have F := F ha3
  refine x_aload_n dX10_from_61 rfl ?_
  refine x_iload_n dX10_from_62 rfl ?_
  refine x_iconst dX10_from_63 rfl (i32_of rfl) ?_
  refine x_icmp_ne 71 dX10_from_64 rfl (fun hc => ?_) (fun hc => ?_)
  · have F := F.1 hc
    refine x_iconst dX10_from_71 rfl (i32_of rfl) ?_
    obtain ⟨P23, hC, F⟩ := F
    refine x_inv dX10_from_72 mlX10_192 hC (sW0 hW) (Nat.le_of_ble_eq_true rfl) (gW0 hW) rfl rfl (by omega) (Nat.zero_le _) (Nat.zero_le _) (Nat.le_of_ble_eq_true rfl) (fun o1 Y26 w25 ht hP => ?_)
    obtain ⟨r24, rfl⟩ : ∃ i, o1 = some (0, i) := ht
    obtain ⟨hX, hP⟩ := hP
    have hX := Eq.symm hX
    subst hX
    have F := F r24 w25 hP
    exact x_ret (some (0, r24)) rfl ⟨dX10_from_75, Or.inl rfl⟩ F
  · have F := F.2 hc
    refine x_iconst dX10_from_67 rfl (i32_of rfl) ?_
    refine x_goto 72 dX10_from_68 rfl ?_
    obtain ⟨P27, hC, F⟩ := F
    refine x_inv dX10_from_72 mlX10_192 hC (sW0 hW) (Nat.le_of_ble_eq_true rfl) (gW0 hW) rfl rfl (by omega) (Nat.zero_le _) (Nat.zero_le _) (Nat.le_of_ble_eq_true rfl) (fun o1 Y30 w29 ht hP => ?_)
    obtain ⟨r28, rfl⟩ : ∃ i, o1 = some (0, i) := ht
    obtain ⟨hX, hP⟩ := hP
    have hX := Eq.symm hX
    subst hX
    have F := F r28 w29 hP
    exact x_ret (some (0, r28)) rfl ⟨dX10_from_75, Or.inl rfl⟩ F

set_option maxRecDepth 100000 in
set_option maxHeartbeats 4000000 in
theorem bX10_touch_0 {d mc ms : Nat} {X : XX} {v : VV} {Q : QQ} (a1 : Int) (a2 : Int) (hd : 4 ≤ d) (hW : SW X) (F : i32 a1 → i32 a2 → ∃ P1 : Option AV → VV → Prop, Con mX10_hasColumn 1 0 0 [(2, 0), (0, a1), (0, a2)] X v (fun o X1 v1 => X1 = X ∧ P1 o v1) ∧ ∀ (r2 : Int) (w3 : VV), P1 (some (0, r2)) w3 → (((¬ r2 = 0) → ∃ P5 : Option AV → VV → Prop, Con mX10_markTouched 3 0 0 [(2, 0), (0, a1), (0, a2)] X w3 (fun o X1 v1 => X1 = X ∧ P5 o v1) ∧ ∀ (w7 : VV), P5 none w7 → i32 (a1 * 8) ∧ (i32 (a1 * 8) → i32 ((a1 * 8) + a2)) ∧ ∃ P9 : Option AV → VV → Prop, Con mX2_remove 0 0 0 [(2, 41), (0, ((a1 * 8) + a2))] X w7 (fun o X1 v1 => X1 = X ∧ P9 o v1) ∧ ∀ (w11 : VV), P9 none w11 → ∃ P13 : Option AV → VV → Prop, Con mX10_findMarked 2 0 0 [(2, 0), (0, 0)] X w11 (fun o X1 v1 => X1 = X ∧ P13 o v1) ∧ ∀ (r14 : Int) (w15 : VV), P13 (some (0, r14)) w15 → Q (some (0, r14)) X w15) ∧ ((r2 = 0) → Q (some (0, (-1))) X w3))) : Ex mX10_touch d 0 [(2, 0), (0, a1), (0, a2)] [] X v mc ms Q := by
  refine x_li32 (i := 1) rfl (fun ha1 => ?_)
  have F := F ha1
  refine x_li32 (i := 2) rfl (fun ha2 => ?_)
  have F := F ha2
  refine x_aload_n dX10_touch_0 rfl ?_
  refine x_iload_n dX10_touch_1 rfl ?_
  refine x_iload_n dX10_touch_2 rfl ?_
  obtain ⟨P1, hC, F⟩ := F
  refine x_inv dX10_touch_3 mlX10_172 hC (sW0 hW) (Nat.le_of_ble_eq_true rfl) (gW0 hW) rfl rfl (by omega) (Nat.zero_le _) (Nat.zero_le _) (Nat.le_of_ble_eq_true rfl) (fun o1 Y4 w3 ht hP => ?_)
  obtain ⟨r2, rfl⟩ : ∃ i, o1 = some (0, i) := ht
  obtain ⟨hX, hP⟩ := hP
  have hX := Eq.symm hX
  subst hX
  have F := F r2 w3 hP
  refine x_if_ne 11 dX10_touch_6 rfl (fun hc => ?_) (fun hc => ?_)
  · have F := F.1 hc
    refine x_aload_n dX10_touch_11 rfl ?_
    refine x_iload_n dX10_touch_12 rfl ?_
    refine x_iload_n dX10_touch_13 rfl ?_
    obtain ⟨P5, hC, F⟩ := F
    refine x_inv dX10_touch_14 mlX10_196 hC (sW0 hW) (Nat.le_of_ble_eq_true rfl) (gW0 hW) rfl rfl (by omega) (Nat.zero_le _) (Nat.zero_le _) (Nat.le_of_ble_eq_true rfl) (fun o1 Y8 w7 ht hP => ?_)
    obtain rfl : o1 = none := ht
    obtain ⟨hX, hP⟩ := hP
    have hX := Eq.symm hX
    subst hX
    have F := F w7 hP
    refine x_aload_n dX10_touch_17 rfl ?_
    refine x_getr (r' := 41) flX10_61 dX10_touch_18 (sW0 hW) (gW0 hW) (rW0_8 hW) rfl (Nat.le_of_ble_eq_true rfl) ?_
    refine x_iload_n dX10_touch_21 rfl ?_
    refine x_bipush dX10_touch_22 kb_8 (i32_of rfl) ?_
    obtain ⟨hz, F⟩ := F
    refine x_imul dX10_touch_24 hz ?_
    refine x_iload_n dX10_touch_25 rfl ?_
    refine x_si32 (i := 1) rfl (fun hk1 => ?_)
    obtain ⟨hz, F⟩ := F
    have hz := hz hk1
    refine x_iadd dX10_touch_26 hz ?_
    obtain ⟨P9, hC, F⟩ := F
    refine x_inv dX10_touch_27 mlX10_200 hC (sW41 hW) (Nat.le_of_ble_eq_true rfl) (gW41 hW) rfl rfl (by omega) (Nat.zero_le _) (Nat.zero_le _) (Nat.le_of_ble_eq_true rfl) (fun o1 Y12 w11 ht hP => ?_)
    obtain rfl : o1 = none := ht
    obtain ⟨hX, hP⟩ := hP
    have hX := Eq.symm hX
    subst hX
    have F := F w11 hP
    refine x_aload_n dX10_touch_30 rfl ?_
    refine x_iconst dX10_touch_31 rfl (i32_of rfl) ?_
    obtain ⟨P13, hC, F⟩ := F
    refine x_inv dX10_touch_32 mlX10_192 hC (sW0 hW) (Nat.le_of_ble_eq_true rfl) (gW0 hW) rfl rfl (by omega) (Nat.zero_le _) (Nat.zero_le _) (Nat.le_of_ble_eq_true rfl) (fun o1 Y16 w15 ht hP => ?_)
    obtain ⟨r14, rfl⟩ : ∃ i, o1 = some (0, i) := ht
    obtain ⟨hX, hP⟩ := hP
    have hX := Eq.symm hX
    subst hX
    have F := F r14 w15 hP
    exact x_ret (some (0, r14)) rfl ⟨dX10_touch_35, Or.inl rfl⟩ F
  · have F := F.2 hc
    refine x_iconst dX10_touch_9 rfl (i32_of rfl) ?_
    exact x_ret (some (0, (-1))) rfl ⟨dX10_touch_10, Or.inl rfl⟩ F
