set_option maxRecDepth 100000 in
set_option maxHeartbeats 4000000 in
theorem bX5_markUsed_0 {d mc ms : Nat} {X : XX} {v : VV} {Q : QQ} (o : Int) (a1 : Int) (a2 : Int) (hd : 1 ≤ d) (hW : SW X) (F : i32 a1 → X.1.2 o = (5, 0) ∧ (0 ≤ o ∧ o < X.1.1) ∧ ∃ P2 : Option AV → VV → Prop, Con mX5_stopOf 0 0 0 [(2, o), (0, a1)] X v (fun o X1 v1 => X1 = X ∧ P2 o v1) ∧ ∀ (r3 : Int) (w4 : VV), P2 (some (0, r3)) w4 → ∃ P6 : Option AV → VV → Prop, Con mX5_startOf 0 0 0 [(2, o), (0, a1)] X w4 (fun o X1 v1 => X1 = X ∧ P6 o v1) ∧ ∀ (r7 : Int) (w8 : VV), P6 (some (0, r7)) w8 → Ex mX5_markUsed d 13 [(2, o), (0, a1), (2, a2), (0, r3), (0, r7)] [] X w8 mc ms Q) : Ex mX5_markUsed d 0 [(2, o), (0, a1), (2, a2), (3, 0), (3, 0)] [] X v mc ms Q := by
  refine x_li32 (i := 1) rfl (fun ha1 => ?_)
  have F := F ha1
  refine x_aload_n dX5_markUsed_0 rfl ?_
  refine x_iload_n dX5_markUsed_1 rfl ?_
  obtain ⟨hs1, hr1, F⟩ := F
  obtain ⟨P2, hC, F⟩ := F
  refine x_inv dX5_markUsed_2 mlX5_44 hC hs1 (Nat.le_of_ble_eq_true rfl) hr1 rfl rfl (by omega) (Nat.zero_le _) (Nat.zero_le _) (Nat.le_of_ble_eq_true rfl) (fun o1 Y5 w4 ht hP => ?_)
  obtain ⟨r3, rfl⟩ : ∃ i, o1 = some (0, i) := ht
  obtain ⟨hX, hP⟩ := hP
  have hX := Eq.symm hX
  subst hX
  have F := F r3 w4 hP
  refine x_istore_n [(2, o), (0, a1), (2, a2), (0, r3), (3, 0)] dX5_markUsed_5 rfl (Nat.le_of_ble_eq_true rfl) ?_
  refine x_aload_n dX5_markUsed_6 rfl ?_
  refine x_iload_n dX5_markUsed_7 rfl ?_
  obtain ⟨P6, hC, F⟩ := F
  refine x_inv dX5_markUsed_8 mlX5_48 hC hs1 (Nat.le_of_ble_eq_true rfl) hr1 rfl rfl (by omega) (Nat.zero_le _) (Nat.zero_le _) (Nat.le_of_ble_eq_true rfl) (fun o1 Y9 w8 ht hP => ?_)
  obtain ⟨r7, rfl⟩ : ∃ i, o1 = some (0, i) := ht
  obtain ⟨hX, hP⟩ := hP
  have hX := Eq.symm hX
  subst hX
  have F := F r7 w8 hP
  refine x_istore [(2, o), (0, a1), (2, a2), (0, r3), (0, r7)] dX5_markUsed_11 rfl (Nat.le_of_ble_eq_true rfl) ?_
  exact F

set_option maxRecDepth 100000 in
set_option maxHeartbeats 4000000 in
theorem bX5_markUsed_13 {d mc ms : Nat} {X : XX} {v : VV} {Q : QQ} (o : Int) (a1 : Int) (a2 : Int) (x3 : Int) (x4 : Int) (hd : 1 ≤ d) (hW : SW X) (F : i32 a1 → i32 x3 → i32 x4 → (((x3 ≤ x4) → Q none X v) ∧ ((x4 < x3) → X.1.2 o = (5, 0) ∧ (0 ≤ o ∧ o < X.1.1) ∧ X.1.2 (X.2 o 0) = (6, 0) ∧ (0 ≤ (X.2 o 0) ∧ (X.2 o 0) < X.1.1) ∧ ∃ P12 : Option AV → VV → Prop, Con mX6_get 0 0 0 [(2, (X.2 o 0)), (0, x4)] X v (fun o X1 v1 => X1 = X ∧ P12 o v1) ∧ ∀ (r13 : Int) (w14 : VV), P12 (some (0, r13)) w14 → (i32 r13 → i32 (r13 - 1000)) ∧ X.1.2 a2 = (2, 0) ∧ (0 ≤ a2 ∧ a2 < X.1.1) ∧ ∃ P17 : Option AV → VV → Prop, Con mX2_add 0 0 0 [(2, a2), (0, (r13 - 1000))] X w14 (fun o X1 v1 => X1 = X ∧ P17 o v1) ∧ ∀ (w19 : VV), P17 none w19 → i32 (x4 + 1) ∧ Ex mX5_markUsed d 13 [(2, o), (0, a1), (2, a2), (0, x3), (0, (x4 + 1))] [] X w19 mc ms Q))) : Ex mX5_markUsed d 13 [(2, o), (0, a1), (2, a2), (0, x3), (0, x4)] [] X v mc ms Q := by
  refine x_li32 (i := 1) rfl (fun ha1 => ?_)
  have F := F ha1
  refine x_li32 (i := 3) rfl (fun hx3 => ?_)
  have F := F hx3
  refine x_li32 (i := 4) rfl (fun hx4 => ?_)
  have F := F hx4
  refine x_iload dX5_markUsed_13 rfl ?_
  refine x_iload_n dX5_markUsed_15 rfl ?_
  refine x_icmp_ge 42 dX5_markUsed_16 rfl (fun hc => ?_) (fun hc => ?_)
  · have F := F.1 hc
    exact x_ret none rfl ⟨dX5_markUsed_42, rfl⟩ F
  · have F := F.2 hc
    refine x_aload_n dX5_markUsed_19 rfl ?_
    refine x_aload_n dX5_markUsed_20 rfl ?_
    obtain ⟨hs10, hr10, F⟩ := F
    refine x_getr (r' := (X.2 o 0)) flX5_23 dX5_markUsed_21 hs10 hr10 rfl rfl (Nat.le_of_ble_eq_true rfl) ?_
    refine x_iload dX5_markUsed_24 rfl ?_
    obtain ⟨hs11, hr11, F⟩ := F
    obtain ⟨P12, hC, F⟩ := F
    refine x_inv dX5_markUsed_26 mlX5_51 hC hs11 (Nat.le_of_ble_eq_true rfl) hr11 rfl rfl (by omega) (Nat.zero_le _) (Nat.zero_le _) (Nat.le_of_ble_eq_true rfl) (fun o1 Y15 w14 ht hP => ?_)
    obtain ⟨r13, rfl⟩ : ∃ i, o1 = some (0, i) := ht
    obtain ⟨hX, hP⟩ := hP
    have hX := Eq.symm hX
    subst hX
    have F := F r13 w14 hP
    refine x_sipush dX5_markUsed_29 ks_1000 (i32_of rfl) ?_
    refine x_si32 (i := 1) rfl (fun hk1 => ?_)
    obtain ⟨hz, F⟩ := F
    have hz := hz hk1
    refine x_isub dX5_markUsed_32 hz ?_
    obtain ⟨hs16, hr16, F⟩ := F
    obtain ⟨P17, hC, F⟩ := F
    refine x_inv dX5_markUsed_33 mlX5_54 hC hs16 (Nat.le_of_ble_eq_true rfl) hr16 rfl rfl (by omega) (Nat.zero_le _) (Nat.zero_le _) (Nat.le_of_ble_eq_true rfl) (fun o1 Y20 w19 ht hP => ?_)
    obtain rfl : o1 = none := ht
    obtain ⟨hX, hP⟩ := hP
    have hX := Eq.symm hX
    subst hX
    have F := F w19 hP
    obtain ⟨hz, F⟩ := F
    refine x_iinc [(2, o), (0, a1), (2, a2), (0, x3), (0, (x4 + 1))] dX5_markUsed_36 rfl rfl (Nat.le_of_ble_eq_true rfl) hz ?_
    refine x_goto 13 dX5_markUsed_39 rfl ?_
    exact F

set_option maxRecDepth 100000 in
set_option maxHeartbeats 4000000 in
theorem bX5_usesMarked_0 {d mc ms : Nat} {X : XX} {v : VV} {Q : QQ} (o : Int) (a1 : Int) (a2 : Int) (hd : 2 ≤ d) (hW : SW X) (F : i32 a1 → X.1.2 o = (5, 0) ∧ (0 ≤ o ∧ o < X.1.1) ∧ ∃ P2 : Option AV → VV → Prop, Con mX5_stopOf 0 0 0 [(2, o), (0, a1)] X v (fun o X1 v1 => X1 = X ∧ P2 o v1) ∧ ∀ (r3 : Int) (w4 : VV), P2 (some (0, r3)) w4 → ∃ P6 : Option AV → VV → Prop, Con mX5_startOf 0 0 0 [(2, o), (0, a1)] X w4 (fun o X1 v1 => X1 = X ∧ P6 o v1) ∧ ∀ (r7 : Int) (w8 : VV), P6 (some (0, r7)) w8 → Ex mX5_usesMarked d 13 [(2, o), (0, a1), (2, a2), (0, r3), (0, r7), (3, 0)] [] X w8 mc ms Q) : Ex mX5_usesMarked d 0 [(2, o), (0, a1), (2, a2), (3, 0), (3, 0), (3, 0)] [] X v mc ms Q := by
  refine x_li32 (i := 1) rfl (fun ha1 => ?_)
  have F := F ha1
  refine x_aload_n dX5_usesMarked_0 rfl ?_
  refine x_iload_n dX5_usesMarked_1 rfl ?_
  obtain ⟨hs1, hr1, F⟩ := F
  obtain ⟨P2, hC, F⟩ := F
  refine x_inv dX5_usesMarked_2 mlX5_44 hC hs1 (Nat.le_of_ble_eq_true rfl) hr1 rfl rfl (by omega) (Nat.zero_le _) (Nat.zero_le _) (Nat.le_of_ble_eq_true rfl) (fun o1 Y5 w4 ht hP => ?_)
  obtain ⟨r3, rfl⟩ : ∃ i, o1 = some (0, i) := ht
  obtain ⟨hX, hP⟩ := hP
  have hX := Eq.symm hX
  subst hX
  have F := F r3 w4 hP
  refine x_istore_n [(2, o), (0, a1), (2, a2), (0, r3), (3, 0), (3, 0)] dX5_usesMarked_5 rfl (Nat.le_of_ble_eq_true rfl) ?_
  refine x_aload_n dX5_usesMarked_6 rfl ?_
  refine x_iload_n dX5_usesMarked_7 rfl ?_
  obtain ⟨P6, hC, F⟩ := F
  refine x_inv dX5_usesMarked_8 mlX5_48 hC hs1 (Nat.le_of_ble_eq_true rfl) hr1 rfl rfl (by omega) (Nat.zero_le _) (Nat.zero_le _) (Nat.le_of_ble_eq_true rfl) (fun o1 Y9 w8 ht hP => ?_)
  obtain ⟨r7, rfl⟩ : ∃ i, o1 = some (0, i) := ht
  obtain ⟨hX, hP⟩ := hP
  have hX := Eq.symm hX
  subst hX
  have F := F r7 w8 hP
  refine x_istore [(2, o), (0, a1), (2, a2), (0, r3), (0, r7), (3, 0)] dX5_usesMarked_11 rfl (Nat.le_of_ble_eq_true rfl) ?_
  exact F

set_option maxRecDepth 100000 in
set_option maxHeartbeats 4000000 in
theorem bX5_usesMarked_13 {d mc ms : Nat} {X : XX} {v : VV} {Q : QQ} (o : Int) (a1 : Int) (a2 : Int) (x3 : Int) (x4 : Int) (hd : 2 ≤ d) (hW : SW X) (F : i32 a1 → i32 x3 → i32 x4 → (((x3 ≤ x4) → Q (some (0, 0)) X v) ∧ ((x4 < x3) → X.1.2 o = (5, 0) ∧ (0 ≤ o ∧ o < X.1.1) ∧ X.1.2 (X.2 o 0) = (6, 0) ∧ (0 ≤ (X.2 o 0) ∧ (X.2 o 0) < X.1.1) ∧ ∃ P12 : Option AV → VV → Prop, Con mX6_get 0 0 0 [(2, (X.2 o 0)), (0, x4)] X v (fun o X1 v1 => X1 = X ∧ P12 o v1) ∧ ∀ (r13 : Int) (w14 : VV), P12 (some (0, r13)) w14 → (((r13 < 1000) → i32 (x4 + 1) ∧ Ex mX5_usesMarked d 13 [(2, o), (0, a1), (2, a2), (0, x3), (0, (x4 + 1)), (3, 0)] [] X w14 mc ms Q) ∧ ((1000 ≤ r13) → (i32 r13 → i32 (r13 - 1000)) ∧ X.1.2 a2 = (2, 0) ∧ (0 ≤ a2 ∧ a2 < X.1.1) ∧ ∃ P17 : Option AV → VV → Prop, Con mX2_has 1 0 0 [(2, a2), (0, (r13 - 1000))] X w14 (fun o X1 v1 => X1 = X ∧ P17 o v1) ∧ ∀ (r18 : Int) (w19 : VV), P17 (some (0, r18)) w19 → (((r18 = 0) → i32 (x4 + 1) ∧ Ex mX5_usesMarked d 13 [(2, o), (0, a1), (2, a2), (0, x3), (0, (x4 + 1)), (3, 0)] [] X w19 mc ms Q) ∧ ((¬ r18 = 0) → Q (some (0, 1)) X w19))))))) : Ex mX5_usesMarked d 13 [(2, o), (0, a1), (2, a2), (0, x3), (0, x4), (3, 0)] [] X v mc ms Q := by
  refine x_li32 (i := 1) rfl (fun ha1 => ?_)
  have F := F ha1
  refine x_li32 (i := 3) rfl (fun hx3 => ?_)
  have F := F hx3
  refine x_li32 (i := 4) rfl (fun hx4 => ?_)
  have F := F hx4
  refine x_iload dX5_usesMarked_13 rfl ?_
  refine x_iload_n dX5_usesMarked_15 rfl ?_
  refine x_icmp_ge 59 dX5_usesMarked_16 rfl (fun hc => ?_) (fun hc => ?_)
  · have F := F.1 hc
    refine x_iconst dX5_usesMarked_59 rfl (i32_of rfl) ?_
    exact x_ret (some (0, 0)) rfl ⟨dX5_usesMarked_60, Or.inr ⟨rfl, Or.inl rfl⟩⟩ F
  · have F := F.2 hc
    refine x_aload_n dX5_usesMarked_19 rfl ?_
    obtain ⟨hs10, hr10, F⟩ := F
    refine x_getr (r' := (X.2 o 0)) flX5_23 dX5_usesMarked_20 hs10 hr10 rfl rfl (Nat.le_of_ble_eq_true rfl) ?_
    refine x_iload dX5_usesMarked_23 rfl ?_
    obtain ⟨hs11, hr11, F⟩ := F
    obtain ⟨P12, hC, F⟩ := F
    refine x_inv dX5_usesMarked_25 mlX5_51 hC hs11 (Nat.le_of_ble_eq_true rfl) hr11 rfl rfl (by omega) (Nat.zero_le _) (Nat.zero_le _) (Nat.le_of_ble_eq_true rfl) (fun o1 Y15 w14 ht hP => ?_)
    obtain ⟨r13, rfl⟩ : ∃ i, o1 = some (0, i) := ht
    obtain ⟨hX, hP⟩ := hP
    have hX := Eq.symm hX
    subst hX
    have F := F r13 w14 hP
    refine x_istore [(2, o), (0, a1), (2, a2), (0, x3), (0, x4), (0, r13)] dX5_usesMarked_28 rfl (Nat.le_of_ble_eq_true rfl) ?_
    refine x_iload dX5_usesMarked_30 rfl ?_
    refine x_sipush dX5_usesMarked_32 ks_1000 (i32_of rfl) ?_
    refine x_icmp_lt 53 dX5_usesMarked_35 rfl (fun hc => ?_) (fun hc => ?_)
    · have F := F.1 hc
      obtain ⟨hz, F⟩ := F
      refine x_iinc [(2, o), (0, a1), (2, a2), (0, x3), (0, (x4 + 1)), (0, r13)] dX5_usesMarked_53 rfl rfl (Nat.le_of_ble_eq_true rfl) hz ?_
      refine x_goto 13 dX5_usesMarked_56 rfl ?_
      exact x_less [(2, o), (0, a1), (2, a2), (0, x3), (0, (x4 + 1)), (3, 0)] ⟨Or.inr rfl, ⟨Or.inr rfl, ⟨Or.inr rfl, ⟨Or.inr rfl, ⟨Or.inr rfl, ⟨Or.inl rfl, trivial⟩⟩⟩⟩⟩⟩ F
    · have F := F.2 hc
      refine x_aload_n dX5_usesMarked_38 rfl ?_
      refine x_iload dX5_usesMarked_39 rfl ?_
      refine x_sipush dX5_usesMarked_41 ks_1000 (i32_of rfl) ?_
      refine x_si32 (i := 1) rfl (fun hk1 => ?_)
      obtain ⟨hz, F⟩ := F
      have hz := hz hk1
      refine x_isub dX5_usesMarked_44 hz ?_
      obtain ⟨hs16, hr16, F⟩ := F
      obtain ⟨P17, hC, F⟩ := F
      refine x_inv dX5_usesMarked_45 mlX5_57 hC hs16 (Nat.le_of_ble_eq_true rfl) hr16 rfl rfl (by omega) (Nat.zero_le _) (Nat.zero_le _) (Nat.le_of_ble_eq_true rfl) (fun o1 Y20 w19 ht hP => ?_)
      obtain ⟨r18, rfl⟩ : ∃ i, o1 = some (0, i) := ht
      obtain ⟨hX, hP⟩ := hP
      have hX := Eq.symm hX
      subst hX
      have F := F r18 w19 hP
      refine x_if_eq 53 dX5_usesMarked_48 rfl (fun hc => ?_) (fun hc => ?_)
      · have F := F.1 hc
        obtain ⟨hz, F⟩ := F
        refine x_iinc [(2, o), (0, a1), (2, a2), (0, x3), (0, (x4 + 1)), (0, r13)] dX5_usesMarked_53 rfl rfl (Nat.le_of_ble_eq_true rfl) hz ?_
        refine x_goto 13 dX5_usesMarked_56 rfl ?_
        exact x_less [(2, o), (0, a1), (2, a2), (0, x3), (0, (x4 + 1)), (3, 0)] ⟨Or.inr rfl, ⟨Or.inr rfl, ⟨Or.inr rfl, ⟨Or.inr rfl, ⟨Or.inr rfl, ⟨Or.inl rfl, trivial⟩⟩⟩⟩⟩⟩ F
      · have F := F.2 hc
        refine x_iconst dX5_usesMarked_51 rfl (i32_of rfl) ?_
        exact x_ret (some (0, 1)) rfl ⟨dX5_usesMarked_52, Or.inr ⟨rfl, Or.inr rfl⟩⟩ F

set_option maxRecDepth 100000 in
set_option maxHeartbeats 4000000 in
theorem bX5_copy_0 {d mc ms : Nat} {X : XX} {v : VV} {Q : QQ} (o : Int) (hd : 3 ≤ d) (hW : SW X) (F : (1 ≤ mc ∧ 5 ≤ ms) ∧ (nX X 5 0).1.2 o = (5, 0) ∧ (0 ≤ o ∧ o < (nX X 5 0).1.1) ∧ (nX X 5 0).1.2 ((nX X 5 0).2 o 0) = (6, 0) ∧ (0 ≤ ((nX X 5 0).2 o 0) ∧ ((nX X 5 0).2 o 0) < (nX X 5 0).1.1) ∧ ∃ P5 : Option AV → VV → Prop, Con mX6_size 0 0 0 [(2, ((nX X 5 0).2 o 0))] (nX X 5 0) (nV X v) (fun o X1 v1 => X1 = (nX X 5 0) ∧ P5 o v1) ∧ ∀ (r6 : Int) (w7 : VV), P5 (some (0, r6)) w7 → ∃ c13 s14 : Nat, c13 ≤ (mc - 1) ∧ s14 ≤ (ms - 5) ∧ ∃ P9 : QQ, Con mX5_init 2 c13 s14 [(2, (X.1.1 : Int)), (0, r6)] (nX X 5 0) w7 P9 ∧ ∀ (Y12 : XX) (w11 : VV), P9 none Y12 w11 → SW Y12 ∧ Y12.1.2 (X.1.1 : Int) = (5, 0) ∧ (0 ≤ (X.1.1 : Int) ∧ (X.1.1 : Int) < Y12.1.1) ∧ Y12.1.2 o = (5, 0) ∧ (0 ≤ o ∧ o < Y12.1.1) ∧ Y12.1.2 (Y12.2 (X.1.1 : Int) 0) = (6, 0) ∧ (0 ≤ (Y12.2 (X.1.1 : Int) 0) ∧ (Y12.2 (X.1.1 : Int) 0) < Y12.1.1) ∧ ∃ P19 : Option AV → VV → Prop, Con mX6_addAll 2 0 0 [(2, (Y12.2 (X.1.1 : Int) 0)), (2, (Y12.2 o 0))] Y12 w11 (fun o X1 v1 => X1 = Y12 ∧ P19 o v1) ∧ ∀ (w21 : VV), P19 none w21 → Y12.1.2 (Y12.2 (X.1.1 : Int) 1) = (6, 0) ∧ (0 ≤ (Y12.2 (X.1.1 : Int) 1) ∧ (Y12.2 (X.1.1 : Int) 1) < Y12.1.1) ∧ ∃ P24 : Option AV → VV → Prop, Con mX6_addAll 2 0 0 [(2, (Y12.2 (X.1.1 : Int) 1)), (2, (Y12.2 o 1))] Y12 w21 (fun o X1 v1 => X1 = Y12 ∧ P24 o v1) ∧ ∀ (w26 : VV), P24 none w26 → ∃ n28 : Nat, Y12.1.2 (Y12.2 o 2) = (100, n28) ∧ (0 ≤ (Y12.2 o 2) ∧ (Y12.2 o 2) < Y12.1.1) ∧ ∃ n29 : Nat, Y12.1.2 (Y12.2 (X.1.1 : Int) 2) = (100, n29) ∧ (0 ≤ (Y12.2 (X.1.1 : Int) 2) ∧ (Y12.2 (X.1.1 : Int) 2) < Y12.1.1) ∧ ((0 : Int) ≤ 0 ∧ (0 : Int) ≤ 0 ∧ (0 : Int) ≤ 7 ∧ (0 + 7 : Int) ≤ n28 ∧ (0 + 7 : Int) ≤ n29) ∧ ∃ n30 : Nat, Y12.1.2 (Y12.2 o 3) = (100, n30) ∧ (0 ≤ (Y12.2 o 3) ∧ (Y12.2 o 3) < Y12.1.1) ∧ ∃ n31 : Nat, Y12.1.2 (Y12.2 (X.1.1 : Int) 3) = (100, n31) ∧ (0 ≤ (Y12.2 (X.1.1 : Int) 3) ∧ (Y12.2 (X.1.1 : Int) 3) < Y12.1.1) ∧ ((0 : Int) ≤ 0 ∧ (0 : Int) ≤ 0 ∧ (0 : Int) ≤ 7 ∧ (0 + 7 : Int) ≤ n30 ∧ (0 + 7 : Int) ≤ n31) ∧ Q (some (2, (X.1.1 : Int))) Y12 (upd2 (cpy2 (cpy2 w26 (Y12.2 o 2) 0 (Y12.2 (X.1.1 : Int) 2) 0 7) (Y12.2 o 3) 0 (Y12.2 (X.1.1 : Int) 3) 0 7) (X.1.1 : Int) 4 ((cpy2 (cpy2 w26 (Y12.2 o 2) 0 (Y12.2 (X.1.1 : Int) 2) 0 7) (Y12.2 o 3) 0 (Y12.2 (X.1.1 : Int) 3) 0 7) o 4))) : Ex mX5_copy d 0 [(2, o), (3, 0)] [] X v mc ms Q := by
  obtain ⟨hb, F⟩ := F
  refine x_new nlX5_10 dX5_copy_0 (by decide) hb.1 hb.2 ?_
  have hW2 : SW (nX X 5 0) := hW.new
  refine x_dup dX5_copy_3 (tag1 rfl) ?_
  refine x_aload_n dX5_copy_4 rfl ?_
  obtain ⟨hs3, hr3, F⟩ := F
  refine x_getr (r' := ((nX X 5 0).2 o 0)) flX5_23 dX5_copy_5 hs3 hr3 rfl rfl (Nat.le_of_ble_eq_true rfl) ?_
  obtain ⟨hs4, hr4, F⟩ := F
  obtain ⟨P5, hC, F⟩ := F
  refine x_inv dX5_copy_8 mlX5_40 hC hs4 (Nat.le_of_ble_eq_true rfl) hr4 rfl rfl (by omega) (Nat.zero_le _) (Nat.zero_le _) (Nat.le_of_ble_eq_true rfl) (fun o1 Y8 w7 ht hP => ?_)
  obtain ⟨r6, rfl⟩ : ∃ i, o1 = some (0, i) := ht
  obtain ⟨hX, hP⟩ := hP
  have hX := Eq.symm hX
  subst hX
  have F := F r6 w7 hP
  obtain ⟨c13, s14, hc1, hs1_, F⟩ := F
  obtain ⟨P9, hC, F⟩ := F
  refine x_init dX5_copy_11 mlX5_61 hC (nX_in X 5 0).1 rfl rfl (by omega) hc1 hs1_ (Nat.le_of_ble_eq_true rfl) (fun Y12 w11 hP => ?_)
  obtain ⟨hW15, F⟩ := F Y12 w11 hP
  refine x_astore_n [(2, o), (2, (X.1.1 : Int))] dX5_copy_14 rfl (Nat.le_of_ble_eq_true rfl) ?_
  refine x_aload_n dX5_copy_15 rfl ?_
  obtain ⟨hs16, hr16, F⟩ := F
  refine x_getr (r' := (Y12.2 (X.1.1 : Int) 0)) flX5_23 dX5_copy_16 hs16 hr16 rfl rfl (Nat.le_of_ble_eq_true rfl) ?_
  refine x_aload_n dX5_copy_19 rfl ?_
  obtain ⟨hs17, hr17, F⟩ := F
  refine x_getr (r' := (Y12.2 o 0)) flX5_23 dX5_copy_20 hs17 hr17 rfl rfl (Nat.le_of_ble_eq_true rfl) ?_
  obtain ⟨hs18, hr18, F⟩ := F
  obtain ⟨P19, hC, F⟩ := F
  refine x_inv dX5_copy_23 mlX5_62 hC hs18 (Nat.le_of_ble_eq_true rfl) hr18 rfl rfl (by omega) (Nat.zero_le _) (Nat.zero_le _) (Nat.le_of_ble_eq_true rfl) (fun o1 Y22 w21 ht hP => ?_)
  obtain rfl : o1 = none := ht
  obtain ⟨hX, hP⟩ := hP
  have hX := Eq.symm hX
  subst hX
  have F := F w21 hP
  refine x_aload_n dX5_copy_26 rfl ?_
  refine x_getr (r' := (Y12.2 (X.1.1 : Int) 1)) flX5_27 dX5_copy_27 hs16 hr16 rfl rfl (Nat.le_of_ble_eq_true rfl) ?_
  refine x_aload_n dX5_copy_30 rfl ?_
  refine x_getr (r' := (Y12.2 o 1)) flX5_27 dX5_copy_31 hs17 hr17 rfl rfl (Nat.le_of_ble_eq_true rfl) ?_
  obtain ⟨hs23, hr23, F⟩ := F
  obtain ⟨P24, hC, F⟩ := F
  refine x_inv dX5_copy_34 mlX5_62 hC hs23 (Nat.le_of_ble_eq_true rfl) hr23 rfl rfl (by omega) (Nat.zero_le _) (Nat.zero_le _) (Nat.le_of_ble_eq_true rfl) (fun o1 Y27 w26 ht hP => ?_)
  obtain rfl : o1 = none := ht
  obtain ⟨hX, hP⟩ := hP
  have hX := Eq.symm hX
  subst hX
  have F := F w26 hP
  refine x_aload_n dX5_copy_37 rfl ?_
  refine x_getr (r' := (Y12.2 o 2)) flX5_9 dX5_copy_38 hs17 hr17 rfl rfl (Nat.le_of_ble_eq_true rfl) ?_
  refine x_iconst dX5_copy_41 rfl (i32_of rfl) ?_
  refine x_aload_n dX5_copy_42 rfl ?_
  refine x_getr (r' := (Y12.2 (X.1.1 : Int) 2)) flX5_9 dX5_copy_43 hs16 hr16 rfl rfl (Nat.le_of_ble_eq_true rfl) ?_
  refine x_iconst dX5_copy_46 rfl (i32_of rfl) ?_
  refine x_bipush dX5_copy_47 kb_7 (i32_of rfl) ?_
  obtain ⟨n28, hs28, hr28, F⟩ := F
  obtain ⟨n29, hs29, hr29, F⟩ := F
  obtain ⟨hb, F⟩ := F
  refine x_copy dX5_copy_49 mlX5_66 hs28 hs29 hr28 hr29 hb.1 hb.2.1 hb.2.2.1 hb.2.2.2.1 hb.2.2.2.2 (by omega) rfl ?_
  refine x_aload_n dX5_copy_52 rfl ?_
  refine x_getr (r' := (Y12.2 o 3)) flX5_15 dX5_copy_53 hs17 hr17 rfl rfl (Nat.le_of_ble_eq_true rfl) ?_
  refine x_iconst dX5_copy_56 rfl (i32_of rfl) ?_
  refine x_aload_n dX5_copy_57 rfl ?_
  refine x_getr (r' := (Y12.2 (X.1.1 : Int) 3)) flX5_15 dX5_copy_58 hs16 hr16 rfl rfl (Nat.le_of_ble_eq_true rfl) ?_
  refine x_iconst dX5_copy_61 rfl (i32_of rfl) ?_
  refine x_bipush dX5_copy_62 kb_7 (i32_of rfl) ?_
  obtain ⟨n30, hs30, hr30, F⟩ := F
  obtain ⟨n31, hs31, hr31, F⟩ := F
  obtain ⟨hb, F⟩ := F
  refine x_copy dX5_copy_64 mlX5_66 hs30 hs31 hr30 hr31 hb.1 hb.2.1 hb.2.2.1 hb.2.2.2.1 hb.2.2.2.2 (by omega) rfl ?_
  refine x_aload_n dX5_copy_67 rfl ?_
  refine x_aload_n dX5_copy_68 rfl ?_
  refine x_geti (e := ((cpy2 (cpy2 w26 (Y12.2 o 2) 0 (Y12.2 (X.1.1 : Int) 2) 0 7) (Y12.2 o 3) 0 (Y12.2 (X.1.1 : Int) 3) 0 7) o 4)) 0 flX5_33 dX5_copy_69 hs17 hr17 rfl rfl (Nat.le_of_ble_eq_true rfl) (tagn2 rfl) ?_
  refine x_puti 0 fwX5_33 dX5_copy_72 hs16 hr16 (fun h => Bool.noConfusion h) (Nat.le_of_ble_eq_true rfl) rfl (Or.inl ⟨rfl, Or.inl rfl⟩) ?_
  refine x_aload_n dX5_copy_75 rfl ?_
  exact x_ret (some (2, (X.1.1 : Int))) rfl ⟨dX5_copy_76, Or.inl ⟨_, rfl⟩⟩ F

set_option maxRecDepth 100000 in
set_option maxHeartbeats 4000000 in
theorem bX6_size_0 {d mc ms : Nat} {X : XX} {v : VV} {Q : QQ} (o : Int) (hd : 0 ≤ d) (hW : SW X) (F : X.1.2 o = (6, 0) ∧ (0 ≤ o ∧ o < X.1.1) ∧ Q (some (0, (v o 1))) X v) : Ex mX6_size d 0 [(2, o)] [] X v mc ms Q := by
  refine x_aload_n dX6_size_0 rfl ?_
  obtain ⟨hs1, hr1, F⟩ := F
  refine x_geti (e := (v o 1)) 0 flX6_21 dX6_size_1 hs1 hr1 rfl rfl (Nat.le_of_ble_eq_true rfl) (tagn2 rfl) ?_
  exact x_ret (some (0, (v o 1))) rfl ⟨dX6_size_4, Or.inl rfl⟩ F

set_option maxRecDepth 100000 in
set_option maxHeartbeats 4000000 in
theorem bX6_get_0 {d mc ms : Nat} {X : XX} {v : VV} {Q : QQ} (o : Int) (a1 : Int) (hd : 0 ≤ d) (hW : SW X) (F : i32 a1 → (((a1 < 0) → Q (some (0, (-1))) X v) ∧ ((0 ≤ a1) → X.1.2 o = (6, 0) ∧ (0 ≤ o ∧ o < X.1.1) ∧ ((((v o 1) ≤ a1) → Q (some (0, (-1))) X v) ∧ ((a1 < (v o 1)) → ∃ n2 : Nat, X.1.2 (X.2 o 0) = (100, n2) ∧ (0 ≤ (X.2 o 0) ∧ (X.2 o 0) < X.1.1) ∧ ((((n2 : Int) ≤ a1) → Q (some (0, (-1))) X v) ∧ ((a1 < (n2 : Int)) → (0 ≤ a1 ∧ a1 < n2) ∧ Q (some (0, (v (X.2 o 0) a1))) X v))))))) : Ex mX6_get d 0 [(2, o), (0, a1)] [] X v mc ms Q := by
  refine x_li32 (i := 1) rfl (fun ha1 => ?_)
  have F := F ha1
  refine x_iload_n dX6_get_0 rfl ?_
  refine x_if_lt 30 dX6_get_1 rfl (fun hc => ?_) (fun hc => ?_)
  · have F := F.1 hc
    refine x_iconst dX6_get_30 rfl (i32_of rfl) ?_
    exact x_ret (some (0, (-1))) rfl ⟨dX6_get_31, Or.inl rfl⟩ F
  · have F := F.2 hc
    refine x_iload_n dX6_get_4 rfl ?_
    refine x_aload_n dX6_get_5 rfl ?_
    obtain ⟨hs1, hr1, F⟩ := F
    refine x_geti (e := (v o 1)) 0 flX6_21 dX6_get_6 hs1 hr1 rfl rfl (Nat.le_of_ble_eq_true rfl) (tagn2 rfl) ?_
    refine x_icmp_ge 30 dX6_get_9 rfl (fun hc => ?_) (fun hc => ?_)
    · have F := F.1 hc
      refine x_iconst dX6_get_30 rfl (i32_of rfl) ?_
      exact x_ret (some (0, (-1))) rfl ⟨dX6_get_31, Or.inl rfl⟩ F
    · have F := F.2 hc
      refine x_iload_n dX6_get_12 rfl ?_
      refine x_aload_n dX6_get_13 rfl ?_
      refine x_getr (r' := (X.2 o 0)) flX6_15 dX6_get_14 hs1 hr1 rfl rfl (Nat.le_of_ble_eq_true rfl) ?_
      obtain ⟨n2, hs2, hr2, F⟩ := F
      refine x_alen dX6_get_17 hs2 (by decide) hr2 (fun hlen => ?_)
      refine x_icmp_ge 30 dX6_get_18 rfl (fun hc => ?_) (fun hc => ?_)
      · have F := F.1 hc
        refine x_iconst dX6_get_30 rfl (i32_of rfl) ?_
        exact x_ret (some (0, (-1))) rfl ⟨dX6_get_31, Or.inl rfl⟩ F
      · have F := F.2 hc
        refine x_aload_n dX6_get_21 rfl ?_
        refine x_getr (r' := (X.2 o 0)) flX6_15 dX6_get_22 hs1 hr1 rfl rfl (Nat.le_of_ble_eq_true rfl) ?_
        refine x_iload_n dX6_get_25 rfl ?_
        obtain ⟨hi, F⟩ := F
        refine x_iald (e := (v (X.2 o 0) a1)) dX6_get_26 hs2 hr2 hi rfl ?_
        refine x_goto 31 dX6_get_27 rfl ?_
        exact x_ret (some (0, (v (X.2 o 0) a1))) rfl ⟨dX6_get_31, Or.inl rfl⟩ F

set_option maxRecDepth 100000 in
set_option maxHeartbeats 4000000 in
theorem bX6_set_0 {d mc ms : Nat} {X : XX} {v : VV} {Q : QQ} (o : Int) (a1 : Int) (a2 : Int) (hd : 0 ≤ d) (hW : SW X) (F : i32 a1 → i32 a2 → (((a1 < 0) → Q none X v) ∧ ((0 ≤ a1) → X.1.2 o = (6, 0) ∧ (0 ≤ o ∧ o < X.1.1) ∧ ((((v o 1) ≤ a1) → Q none X v) ∧ ((a1 < (v o 1)) → ∃ n2 : Nat, X.1.2 (X.2 o 0) = (100, n2) ∧ (0 ≤ (X.2 o 0) ∧ (X.2 o 0) < X.1.1) ∧ ((((n2 : Int) ≤ a1) → Q none X v) ∧ ((a1 < (n2 : Int)) → (0 ≤ a1 ∧ a1 < n2) ∧ Q none X (upd2 v (X.2 o 0) a1 a2)))))))) : Ex mX6_set d 0 [(2, o), (0, a1), (0, a2)] [] X v mc ms Q := by
  refine x_li32 (i := 1) rfl (fun ha1 => ?_)
  have F := F ha1
  refine x_li32 (i := 2) rfl (fun ha2 => ?_)
  have F := F ha2
  refine x_iload_n dX6_set_0 rfl ?_
  refine x_if_lt 28 dX6_set_1 rfl (fun hc => ?_) (fun hc => ?_)
  · have F := F.1 hc
    exact x_ret none rfl ⟨dX6_set_28, rfl⟩ F
  · have F := F.2 hc
    refine x_iload_n dX6_set_4 rfl ?_
    refine x_aload_n dX6_set_5 rfl ?_
    obtain ⟨hs1, hr1, F⟩ := F
    refine x_geti (e := (v o 1)) 0 flX6_21 dX6_set_6 hs1 hr1 rfl rfl (Nat.le_of_ble_eq_true rfl) (tagn2 rfl) ?_
    refine x_icmp_ge 28 dX6_set_9 rfl (fun hc => ?_) (fun hc => ?_)
    · have F := F.1 hc
      exact x_ret none rfl ⟨dX6_set_28, rfl⟩ F
    · have F := F.2 hc
      refine x_iload_n dX6_set_12 rfl ?_
      refine x_aload_n dX6_set_13 rfl ?_
      refine x_getr (r' := (X.2 o 0)) flX6_15 dX6_set_14 hs1 hr1 rfl rfl (Nat.le_of_ble_eq_true rfl) ?_
      obtain ⟨n2, hs2, hr2, F⟩ := F
      refine x_alen dX6_set_17 hs2 (by decide) hr2 (fun hlen => ?_)
      refine x_icmp_ge 28 dX6_set_18 rfl (fun hc => ?_) (fun hc => ?_)
      · have F := F.1 hc
        exact x_ret none rfl ⟨dX6_set_28, rfl⟩ F
      · have F := F.2 hc
        refine x_aload_n dX6_set_21 rfl ?_
        refine x_getr (r' := (X.2 o 0)) flX6_15 dX6_set_22 hs1 hr1 rfl rfl (Nat.le_of_ble_eq_true rfl) ?_
        refine x_iload_n dX6_set_25 rfl ?_
        refine x_iload_n dX6_set_26 rfl ?_
        obtain ⟨hi, F⟩ := F
        refine x_iast dX6_set_27 hs2 hr2 hi ?_
        exact x_ret none rfl ⟨dX6_set_28, rfl⟩ F

set_option maxRecDepth 100000 in
set_option maxHeartbeats 4000000 in
theorem bX6_add_0 {d mc ms : Nat} {X : XX} {v : VV} {Q : QQ} (o : Int) (a1 : Int) (hd : 0 ≤ d) (hW : SW X) (F : i32 a1 → X.1.2 o = (6, 0) ∧ (0 ≤ o ∧ o < X.1.1) ∧ ((((v o 1) < 0) → Q none X v) ∧ ((0 ≤ (v o 1)) → ∃ n2 : Nat, X.1.2 (X.2 o 0) = (100, n2) ∧ (0 ≤ (X.2 o 0) ∧ (X.2 o 0) < X.1.1) ∧ ((((n2 : Int) ≤ (v o 1)) → Q none X v) ∧ (((v o 1) < (n2 : Int)) → (0 ≤ (v o 1) ∧ (v o 1) < n2) ∧ (i32 ((upd2 v (X.2 o 0) (v o 1) a1) o 1) → i32 (((upd2 v (X.2 o 0) (v o 1) a1) o 1) + 1)) ∧ Q none X (upd2 (upd2 v (X.2 o 0) (v o 1) a1) o 1 (((upd2 v (X.2 o 0) (v o 1) a1) o 1) + 1))))))) : Ex mX6_add d 0 [(2, o), (0, a1)] [] X v mc ms Q := by
  refine x_li32 (i := 1) rfl (fun ha1 => ?_)
  have F := F ha1
  refine x_aload_n dX6_add_0 rfl ?_
  obtain ⟨hs1, hr1, F⟩ := F
  refine x_geti (e := (v o 1)) 0 flX6_21 dX6_add_1 hs1 hr1 rfl rfl (Nat.le_of_ble_eq_true rfl) (tagn2 rfl) ?_
  refine x_if_lt 39 dX6_add_4 rfl (fun hc => ?_) (fun hc => ?_)
  · have F := F.1 hc
    exact x_ret none rfl ⟨dX6_add_39, rfl⟩ F
  · have F := F.2 hc
    refine x_aload_n dX6_add_7 rfl ?_
    refine x_geti (e := (v o 1)) 0 flX6_21 dX6_add_8 hs1 hr1 rfl rfl (Nat.le_of_ble_eq_true rfl) (tagn2 rfl) ?_
    refine x_aload_n dX6_add_11 rfl ?_
    refine x_getr (r' := (X.2 o 0)) flX6_15 dX6_add_12 hs1 hr1 rfl rfl (Nat.le_of_ble_eq_true rfl) ?_
    obtain ⟨n2, hs2, hr2, F⟩ := F
    refine x_alen dX6_add_15 hs2 (by decide) hr2 (fun hlen => ?_)
    refine x_icmp_ge 39 dX6_add_16 rfl (fun hc => ?_) (fun hc => ?_)
    · have F := F.1 hc
      exact x_ret none rfl ⟨dX6_add_39, rfl⟩ F
    · have F := F.2 hc
      refine x_aload_n dX6_add_19 rfl ?_
      refine x_getr (r' := (X.2 o 0)) flX6_15 dX6_add_20 hs1 hr1 rfl rfl (Nat.le_of_ble_eq_true rfl) ?_
      refine x_aload_n dX6_add_23 rfl ?_
      refine x_geti (e := (v o 1)) 0 flX6_21 dX6_add_24 hs1 hr1 rfl rfl (Nat.le_of_ble_eq_true rfl) (tagn2 rfl) ?_
      refine x_iload_n dX6_add_27 rfl ?_
      obtain ⟨hi, F⟩ := F
      refine x_iast dX6_add_28 hs2 hr2 hi ?_
      refine x_aload_n dX6_add_29 rfl ?_
      refine x_dup dX6_add_30 (tag1 rfl) ?_
      refine x_geti (e := ((upd2 v (X.2 o 0) (v o 1) a1) o 1)) 0 flX6_21 dX6_add_31 hs1 hr1 rfl rfl (Nat.le_of_ble_eq_true rfl) (tagn2 rfl) ?_
      refine x_iconst dX6_add_34 rfl (i32_of rfl) ?_
      refine x_si32 (i := 1) rfl (fun hk1 => ?_)
      obtain ⟨hz, F⟩ := F
      have hz := hz hk1
      refine x_iadd dX6_add_35 hz ?_
      refine x_puti 0 fwX6_21 dX6_add_36 hs1 hr1 (fun h => Bool.noConfusion h) (Nat.le_of_ble_eq_true rfl) rfl (Or.inl ⟨rfl, Or.inl rfl⟩) ?_
      exact x_ret none rfl ⟨dX6_add_39, rfl⟩ F

set_option maxRecDepth 100000 in
set_option maxHeartbeats 4000000 in
theorem bX6_addAll_0 {d mc ms : Nat} {X : XX} {v : VV} {Q : QQ} (o : Int) (a1 : Int) (hd : 2 ≤ d) (hW : SW X) (F : X.1.2 a1 = (6, 0) ∧ (0 ≤ a1 ∧ a1 < X.1.1) ∧ X.1.2 o = (6, 0) ∧ (0 ≤ o ∧ o < X.1.1) ∧ ∃ n3 : Nat, X.1.2 (X.2 o 0) = (100, n3) ∧ (0 ≤ (X.2 o 0) ∧ (X.2 o 0) < X.1.1) ∧ (i32 (v o 1) → i32 (n3 : Int) → i32 ((n3 : Int) - (v o 1))) ∧ ((((if ((n3 : Int) - (v o 1)) < (v a1 1) then ((n3 : Int) - (v o 1)) else (v a1 1)) ≤ 0) → Q none X v) ∧ ((0 < (if ((n3 : Int) - (v o 1)) < (v a1 1) then ((n3 : Int) - (v o 1)) else (v a1 1))) → ∃ n4 : Nat, X.1.2 (X.2 a1 0) = (100, n4) ∧ (0 ≤ (X.2 a1 0) ∧ (X.2 a1 0) < X.1.1) ∧ ((0 : Int) ≤ 0 ∧ (0 : Int) ≤ (v o 1) ∧ (0 : Int) ≤ (if ((n3 : Int) - (v o 1)) < (v a1 1) then ((n3 : Int) - (v o 1)) else (v a1 1)) ∧ (0 + (if ((n3 : Int) - (v o 1)) < (v a1 1) then ((n3 : Int) - (v o 1)) else (v a1 1)) : Int) ≤ n4 ∧ ((v o 1) + (if ((n3 : Int) - (v o 1)) < (v a1 1) then ((n3 : Int) - (v o 1)) else (v a1 1)) : Int) ≤ n3) ∧ (i32 (if ((n3 : Int) - (v o 1)) < (v a1 1) then ((n3 : Int) - (v o 1)) else (v a1 1)) → i32 ((cpy2 v (X.2 a1 0) 0 (X.2 o 0) (v o 1) (if ((n3 : Int) - (v o 1)) < (v a1 1) then ((n3 : Int) - (v o 1)) else (v a1 1))) o 1) → i32 (((cpy2 v (X.2 a1 0) 0 (X.2 o 0) (v o 1) (if ((n3 : Int) - (v o 1)) < (v a1 1) then ((n3 : Int) - (v o 1)) else (v a1 1))) o 1) + (if ((n3 : Int) - (v o 1)) < (v a1 1) then ((n3 : Int) - (v o 1)) else (v a1 1)))) ∧ Q none X (upd2 (cpy2 v (X.2 a1 0) 0 (X.2 o 0) (v o 1) (if ((n3 : Int) - (v o 1)) < (v a1 1) then ((n3 : Int) - (v o 1)) else (v a1 1))) o 1 (((cpy2 v (X.2 a1 0) 0 (X.2 o 0) (v o 1) (if ((n3 : Int) - (v o 1)) < (v a1 1) then ((n3 : Int) - (v o 1)) else (v a1 1))) o 1) + (if ((n3 : Int) - (v o 1)) < (v a1 1) then ((n3 : Int) - (v o 1)) else (v a1 1))))))) : Ex mX6_addAll d 0 [(2, o), (2, a1), (3, 0)] [] X v mc ms Q := by
  refine x_aload_n dX6_addAll_0 rfl ?_
  obtain ⟨hs1, hr1, F⟩ := F
  refine x_geti (e := (v a1 1)) 0 flX6_21 dX6_addAll_1 hs1 hr1 rfl rfl (Nat.le_of_ble_eq_true rfl) (tagn2 rfl) ?_
  refine x_aload_n dX6_addAll_4 rfl ?_
  obtain ⟨hs2, hr2, F⟩ := F
  refine x_getr (r' := (X.2 o 0)) flX6_15 dX6_addAll_5 hs2 hr2 rfl rfl (Nat.le_of_ble_eq_true rfl) ?_
  obtain ⟨n3, hs3, hr3, F⟩ := F
  refine x_alen dX6_addAll_8 hs3 (by decide) hr3 (fun hlen => ?_)
  refine x_aload_n dX6_addAll_9 rfl ?_
  refine x_geti (e := (v o 1)) 0 flX6_21 dX6_addAll_10 hs2 hr2 rfl rfl (Nat.le_of_ble_eq_true rfl) (tagn2 rfl) ?_
  refine x_si32 (i := 0) rfl (fun hk0 => ?_)
  refine x_si32 (i := 1) rfl (fun hk1 => ?_)
  obtain ⟨hz, F⟩ := F
  have hz := hz hk0 hk1
  refine x_isub dX6_addAll_13 hz ?_
  refine x_min dX6_addAll_14 mlX6_25 (by omega) (Nat.le_of_ble_eq_true rfl) ?_
  refine x_istore_n [(2, o), (2, a1), (0, (if ((n3 : Int) - (v o 1)) < (v a1 1) then ((n3 : Int) - (v o 1)) else (v a1 1)))] dX6_addAll_17 rfl (Nat.le_of_ble_eq_true rfl) ?_
  refine x_iload_n dX6_addAll_18 rfl ?_
  refine x_if_le 49 dX6_addAll_19 rfl (fun hc => ?_) (fun hc => ?_)
  · have F := F.1 hc
    exact x_ret none rfl ⟨dX6_addAll_49, rfl⟩ F
  · have F := F.2 hc
    refine x_aload_n dX6_addAll_22 rfl ?_
    refine x_getr (r' := (X.2 a1 0)) flX6_15 dX6_addAll_23 hs1 hr1 rfl rfl (Nat.le_of_ble_eq_true rfl) ?_
    refine x_iconst dX6_addAll_26 rfl (i32_of rfl) ?_
    refine x_aload_n dX6_addAll_27 rfl ?_
    refine x_getr (r' := (X.2 o 0)) flX6_15 dX6_addAll_28 hs2 hr2 rfl rfl (Nat.le_of_ble_eq_true rfl) ?_
    refine x_aload_n dX6_addAll_31 rfl ?_
    refine x_geti (e := (v o 1)) 0 flX6_21 dX6_addAll_32 hs2 hr2 rfl rfl (Nat.le_of_ble_eq_true rfl) (tagn2 rfl) ?_
    refine x_iload_n dX6_addAll_35 rfl ?_
    obtain ⟨n4, hs4, hr4, F⟩ := F
    obtain ⟨hb, F⟩ := F
    refine x_copy dX6_addAll_36 mlX6_28 hs4 hs3 hr4 hr3 hb.1 hb.2.1 hb.2.2.1 hb.2.2.2.1 hb.2.2.2.2 (by omega) rfl ?_
    refine x_aload_n dX6_addAll_39 rfl ?_
    refine x_dup dX6_addAll_40 (tag1 rfl) ?_
    refine x_geti (e := ((cpy2 v (X.2 a1 0) 0 (X.2 o 0) (v o 1) (if ((n3 : Int) - (v o 1)) < (v a1 1) then ((n3 : Int) - (v o 1)) else (v a1 1))) o 1)) 0 flX6_21 dX6_addAll_41 hs2 hr2 rfl rfl (Nat.le_of_ble_eq_true rfl) (tagn2 rfl) ?_
    refine x_iload_n dX6_addAll_44 rfl ?_
    refine x_si32 (i := 0) rfl (fun hk0 => ?_)
    refine x_si32 (i := 1) rfl (fun hk1 => ?_)
    obtain ⟨hz, F⟩ := F
    have hz := hz hk0 hk1
    refine x_iadd dX6_addAll_45 hz ?_
    refine x_puti 0 fwX6_21 dX6_addAll_46 hs2 hr2 (fun h => Bool.noConfusion h) (Nat.le_of_ble_eq_true rfl) rfl (Or.inl ⟨rfl, Or.inl rfl⟩) ?_
    exact x_ret none rfl ⟨dX6_addAll_49, rfl⟩ F

set_option maxRecDepth 100000 in
set_option maxHeartbeats 4000000 in
theorem bX6_cutTo_0 {d mc ms : Nat} {X : XX} {v : VV} {Q : QQ} (o : Int) (a1 : Int) (hd : 0 ≤ d) (hW : SW X) (F : i32 a1 → (((a1 < 0) → Q none X v) ∧ ((0 ≤ a1) → X.1.2 o = (6, 0) ∧ (0 ≤ o ∧ o < X.1.1) ∧ ((((v o 1) ≤ a1) → Q none X v) ∧ ((a1 < (v o 1)) → Q none X (upd2 v o 1 a1)))))) : Ex mX6_cutTo d 0 [(2, o), (0, a1)] [] X v mc ms Q := by
  refine x_li32 (i := 1) rfl (fun ha1 => ?_)
  have F := F ha1
  refine x_iload_n dX6_cutTo_0 rfl ?_
  refine x_if_lt 17 dX6_cutTo_1 rfl (fun hc => ?_) (fun hc => ?_)
  · have F := F.1 hc
    exact x_ret none rfl ⟨dX6_cutTo_17, rfl⟩ F
  · have F := F.2 hc
    refine x_iload_n dX6_cutTo_4 rfl ?_
    refine x_aload_n dX6_cutTo_5 rfl ?_
    obtain ⟨hs1, hr1, F⟩ := F
    refine x_geti (e := (v o 1)) 0 flX6_21 dX6_cutTo_6 hs1 hr1 rfl rfl (Nat.le_of_ble_eq_true rfl) (tagn2 rfl) ?_
    refine x_icmp_ge 17 dX6_cutTo_9 rfl (fun hc => ?_) (fun hc => ?_)
    · have F := F.1 hc
      exact x_ret none rfl ⟨dX6_cutTo_17, rfl⟩ F
    · have F := F.2 hc
      refine x_aload_n dX6_cutTo_12 rfl ?_
      refine x_iload_n dX6_cutTo_13 rfl ?_
      refine x_puti 0 fwX6_21 dX6_cutTo_14 hs1 hr1 (fun h => Bool.noConfusion h) (Nat.le_of_ble_eq_true rfl) rfl (Or.inl ⟨rfl, Or.inl rfl⟩) ?_
      exact x_ret none rfl ⟨dX6_cutTo_17, rfl⟩ F

set_option maxRecDepth 100000 in
set_option maxHeartbeats 4000000 in
theorem bX6_has_0 {d mc ms : Nat} {X : XX} {v : VV} {Q : QQ} (o : Int) (a1 : Int) (hd : 0 ≤ d) (hW : SW X) (F : i32 a1 → Ex mX6_has d 2 [(2, o), (0, a1), (0, 0)] [] X v mc ms Q) : Ex mX6_has d 0 [(2, o), (0, a1), (3, 0)] [] X v mc ms Q := by
  refine x_li32 (i := 1) rfl (fun ha1 => ?_)
  have F := F ha1
  refine x_iconst dX6_has_0 rfl (i32_of rfl) ?_
  refine x_istore_n [(2, o), (0, a1), (0, 0)] dX6_has_1 rfl (Nat.le_of_ble_eq_true rfl) ?_
  exact F

set_option maxRecDepth 100000 in
set_option maxHeartbeats 4000000 in
theorem bX6_has_2 {d mc ms : Nat} {X : XX} {v : VV} {Q : QQ} (o : Int) (a1 : Int) (x2 : Int) (hd : 0 ≤ d) (hW : SW X) (F : i32 a1 → i32 x2 → X.1.2 o = (6, 0) ∧ (0 ≤ o ∧ o < X.1.1) ∧ ((((v o 1) ≤ x2) → Q (some (0, 0)) X v) ∧ ((x2 < (v o 1)) → ∃ n2 : Nat, X.1.2 (X.2 o 0) = (100, n2) ∧ (0 ≤ (X.2 o 0) ∧ (X.2 o 0) < X.1.1) ∧ ((((n2 : Int) ≤ x2) → Q (some (0, 0)) X v) ∧ ((x2 < (n2 : Int)) → (0 ≤ x2 ∧ x2 < n2) ∧ (((¬ (v (X.2 o 0) x2) = a1) → i32 (x2 + 1) ∧ Ex mX6_has d 2 [(2, o), (0, a1), (0, (x2 + 1))] [] X v mc ms Q) ∧ (((v (X.2 o 0) x2) = a1) → Q (some (0, 1)) X v))))))) : Ex mX6_has d 2 [(2, o), (0, a1), (0, x2)] [] X v mc ms Q := by
  refine x_li32 (i := 1) rfl (fun ha1 => ?_)
  have F := F ha1
  refine x_li32 (i := 2) rfl (fun hx2 => ?_)
  have F := F hx2
  refine x_iload_n dX6_has_2 rfl ?_
  refine x_aload_n dX6_has_3 rfl ?_
  obtain ⟨hs1, hr1, F⟩ := F
  refine x_geti (e := (v o 1)) 0 flX6_21 dX6_has_4 hs1 hr1 rfl rfl (Nat.le_of_ble_eq_true rfl) (tagn2 rfl) ?_
  refine x_icmp_ge 37 dX6_has_7 rfl (fun hc => ?_) (fun hc => ?_)
  · have F := F.1 hc
    refine x_iconst dX6_has_37 rfl (i32_of rfl) ?_
    exact x_ret (some (0, 0)) rfl ⟨dX6_has_38, Or.inr ⟨rfl, Or.inl rfl⟩⟩ F
  · have F := F.2 hc
    refine x_iload_n dX6_has_10 rfl ?_
    refine x_aload_n dX6_has_11 rfl ?_
    refine x_getr (r' := (X.2 o 0)) flX6_15 dX6_has_12 hs1 hr1 rfl rfl (Nat.le_of_ble_eq_true rfl) ?_
    obtain ⟨n2, hs2, hr2, F⟩ := F
    refine x_alen dX6_has_15 hs2 (by decide) hr2 (fun hlen => ?_)
    refine x_icmp_ge 37 dX6_has_16 rfl (fun hc => ?_) (fun hc => ?_)
    · have F := F.1 hc
      refine x_iconst dX6_has_37 rfl (i32_of rfl) ?_
      exact x_ret (some (0, 0)) rfl ⟨dX6_has_38, Or.inr ⟨rfl, Or.inl rfl⟩⟩ F
    · have F := F.2 hc
      refine x_aload_n dX6_has_19 rfl ?_
      refine x_getr (r' := (X.2 o 0)) flX6_15 dX6_has_20 hs1 hr1 rfl rfl (Nat.le_of_ble_eq_true rfl) ?_
      refine x_iload_n dX6_has_23 rfl ?_
      obtain ⟨hi, F⟩ := F
      refine x_iald (e := (v (X.2 o 0) x2)) dX6_has_24 hs2 hr2 hi rfl ?_
      refine x_iload_n dX6_has_25 rfl ?_
      refine x_icmp_ne 31 dX6_has_26 rfl (fun hc => ?_) (fun hc => ?_)
      · have F := F.1 hc
        obtain ⟨hz, F⟩ := F
        refine x_iinc [(2, o), (0, a1), (0, (x2 + 1))] dX6_has_31 rfl rfl (Nat.le_of_ble_eq_true rfl) hz ?_
        refine x_goto 2 dX6_has_34 rfl ?_
        exact F
      · have F := F.2 hc
        refine x_iconst dX6_has_29 rfl (i32_of rfl) ?_
        exact x_ret (some (0, 1)) rfl ⟨dX6_has_30, Or.inr ⟨rfl, Or.inr rfl⟩⟩ F

set_option maxRecDepth 100000 in
set_option maxHeartbeats 4000000 in
theorem bX6_isSame_0 {d mc ms : Nat} {X : XX} {v : VV} {Q : QQ} (o : Int) (a1 : Int) (hd : 1 ≤ d) (hW : SW X) (F : X.1.2 o = (6, 0) ∧ (0 ≤ o ∧ o < X.1.1) ∧ X.1.2 a1 = (6, 0) ∧ (0 ≤ a1 ∧ a1 < X.1.1) ∧ ((((v o 1) = (v a1 1)) → Ex mX6_isSame d 15 [(2, o), (2, a1), (0, 0)] [] X v mc ms Q) ∧ ((¬ (v o 1) = (v a1 1)) → Q (some (0, 0)) X v))) : Ex mX6_isSame d 0 [(2, o), (2, a1), (3, 0)] [] X v mc ms Q := by
  refine x_aload_n dX6_isSame_0 rfl ?_
  obtain ⟨hs1, hr1, F⟩ := F
  refine x_geti (e := (v o 1)) 0 flX6_21 dX6_isSame_1 hs1 hr1 rfl rfl (Nat.le_of_ble_eq_true rfl) (tagn2 rfl) ?_
  refine x_aload_n dX6_isSame_4 rfl ?_
  obtain ⟨hs2, hr2, F⟩ := F
  refine x_geti (e := (v a1 1)) 0 flX6_21 dX6_isSame_5 hs2 hr2 rfl rfl (Nat.le_of_ble_eq_true rfl) (tagn2 rfl) ?_
  refine x_icmp_eq 13 dX6_isSame_8 rfl (fun hc => ?_) (fun hc => ?_)
  · have F := F.1 hc
    refine x_iconst dX6_isSame_13 rfl (i32_of rfl) ?_
    refine x_istore_n [(2, o), (2, a1), (0, 0)] dX6_isSame_14 rfl (Nat.le_of_ble_eq_true rfl) ?_
    exact F
  · have F := F.2 hc
    refine x_iconst dX6_isSame_11 rfl (i32_of rfl) ?_
    exact x_ret (some (0, 0)) rfl ⟨dX6_isSame_12, Or.inr ⟨rfl, Or.inl rfl⟩⟩ F

set_option maxRecDepth 100000 in
set_option maxHeartbeats 4000000 in
theorem bX6_isSame_15 {d mc ms : Nat} {X : XX} {v : VV} {Q : QQ} (o : Int) (a1 : Int) (x2 : Int) (hd : 1 ≤ d) (hW : SW X) (F : i32 x2 → X.1.2 o = (6, 0) ∧ (0 ≤ o ∧ o < X.1.1) ∧ ((((v o 1) ≤ x2) → Q (some (0, 1)) X v) ∧ ((x2 < (v o 1)) → ∃ P4 : Option AV → VV → Prop, Con mX6_get 0 0 0 [(2, o), (0, x2)] X v (fun o X1 v1 => X1 = X ∧ P4 o v1) ∧ ∀ (r5 : Int) (w6 : VV), P4 (some (0, r5)) w6 → X.1.2 a1 = (6, 0) ∧ (0 ≤ a1 ∧ a1 < X.1.1) ∧ ∃ P9 : Option AV → VV → Prop, Con mX6_get 0 0 0 [(2, a1), (0, x2)] X w6 (fun o X1 v1 => X1 = X ∧ P9 o v1) ∧ ∀ (r10 : Int) (w11 : VV), P9 (some (0, r10)) w11 → (((r5 = r10) → i32 (x2 + 1) ∧ Ex mX6_isSame d 15 [(2, o), (2, a1), (0, (x2 + 1))] [] X w11 mc ms Q) ∧ ((¬ r5 = r10) → Q (some (0, 0)) X w11))))) : Ex mX6_isSame d 15 [(2, o), (2, a1), (0, x2)] [] X v mc ms Q := by
  refine x_li32 (i := 2) rfl (fun hx2 => ?_)
  have F := F hx2
  refine x_iload_n dX6_isSame_15 rfl ?_
  refine x_aload_n dX6_isSame_16 rfl ?_
  obtain ⟨hs3, hr3, F⟩ := F
  refine x_geti (e := (v o 1)) 0 flX6_21 dX6_isSame_17 hs3 hr3 rfl rfl (Nat.le_of_ble_eq_true rfl) (tagn2 rfl) ?_
  refine x_icmp_ge 44 dX6_isSame_20 rfl (fun hc => ?_) (fun hc => ?_)
  · have F := F.1 hc
    refine x_iconst dX6_isSame_44 rfl (i32_of rfl) ?_
    exact x_ret (some (0, 1)) rfl ⟨dX6_isSame_45, Or.inr ⟨rfl, Or.inr rfl⟩⟩ F
  · have F := F.2 hc
    refine x_aload_n dX6_isSame_23 rfl ?_
    refine x_iload_n dX6_isSame_24 rfl ?_
    obtain ⟨P4, hC, F⟩ := F
    refine x_inv dX6_isSame_25 mlX6_34 hC hs3 (Nat.le_of_ble_eq_true rfl) hr3 rfl rfl (by omega) (Nat.zero_le _) (Nat.zero_le _) (Nat.le_of_ble_eq_true rfl) (fun o1 Y7 w6 ht hP => ?_)
    obtain ⟨r5, rfl⟩ : ∃ i, o1 = some (0, i) := ht
    obtain ⟨hX, hP⟩ := hP
    have hX := Eq.symm hX
    subst hX
    have F := F r5 w6 hP
    refine x_aload_n dX6_isSame_28 rfl ?_
    refine x_iload_n dX6_isSame_29 rfl ?_
    obtain ⟨hs8, hr8, F⟩ := F
    obtain ⟨P9, hC, F⟩ := F
    refine x_inv dX6_isSame_30 mlX6_34 hC hs8 (Nat.le_of_ble_eq_true rfl) hr8 rfl rfl (by omega) (Nat.zero_le _) (Nat.zero_le _) (Nat.le_of_ble_eq_true rfl) (fun o1 Y12 w11 ht hP => ?_)
    obtain ⟨r10, rfl⟩ : ∃ i, o1 = some (0, i) := ht
    obtain ⟨hX, hP⟩ := hP
    have hX := Eq.symm hX
    subst hX
    have F := F r10 w11 hP
    refine x_icmp_eq 38 dX6_isSame_33 rfl (fun hc => ?_) (fun hc => ?_)
    · have F := F.1 hc
      obtain ⟨hz, F⟩ := F
      refine x_iinc [(2, o), (2, a1), (0, (x2 + 1))] dX6_isSame_38 rfl rfl (Nat.le_of_ble_eq_true rfl) hz ?_
      refine x_goto 15 dX6_isSame_41 rfl ?_
      exact F
    · have F := F.2 hc
      refine x_iconst dX6_isSame_36 rfl (i32_of rfl) ?_
      exact x_ret (some (0, 0)) rfl ⟨dX6_isSame_37, Or.inr ⟨rfl, Or.inl rfl⟩⟩ F

set_option maxRecDepth 100000 in
set_option maxHeartbeats 4000000 in
theorem bX6_copy_0 {d mc ms : Nat} {X : XX} {v : VV} {Q : QQ} (o : Int) (hd : 3 ≤ d) (hW : SW X) (F : (1 ≤ mc ∧ 2 ≤ ms) ∧ (nX X 6 0).1.2 o = (6, 0) ∧ (0 ≤ o ∧ o < (nX X 6 0).1.1) ∧ ∃ c8 s9 : Nat, c8 ≤ (mc - 1) ∧ s9 ≤ (ms - 2) ∧ ∃ P4 : QQ, Con mX6_init 1 c8 s9 [(2, (X.1.1 : Int)), (0, ((nV X v) o 1))] (nX X 6 0) (nV X v) P4 ∧ ∀ (Y7 : XX) (w6 : VV), P4 none Y7 w6 → SW Y7 ∧ Y7.1.2 (X.1.1 : Int) = (6, 0) ∧ (0 ≤ (X.1.1 : Int) ∧ (X.1.1 : Int) < Y7.1.1) ∧ ∃ P12 : Option AV → VV → Prop, Con mX6_addAll 2 0 0 [(2, (X.1.1 : Int)), (2, o)] Y7 w6 (fun o X1 v1 => X1 = Y7 ∧ P12 o v1) ∧ ∀ (w14 : VV), P12 none w14 → Q (some (2, (X.1.1 : Int))) Y7 w14) : Ex mX6_copy d 0 [(2, o), (3, 0)] [] X v mc ms Q := by
  obtain ⟨hb, F⟩ := F
  refine x_new nlX6_16 dX6_copy_0 (by decide) hb.1 hb.2 ?_
  have hW2 : SW (nX X 6 0) := hW.new
  refine x_dup dX6_copy_3 (tag1 rfl) ?_
  refine x_aload_n dX6_copy_4 rfl ?_
  obtain ⟨hs3, hr3, F⟩ := F
  refine x_geti (e := ((nV X v) o 1)) 0 flX6_21 dX6_copy_5 hs3 hr3 rfl rfl (Nat.le_of_ble_eq_true rfl) (tagn2 rfl) ?_
  obtain ⟨c8, s9, hc1, hs1_, F⟩ := F
  obtain ⟨P4, hC, F⟩ := F
  refine x_init dX6_copy_8 mlX6_38 hC (nX_in X 6 0).1 rfl rfl (by omega) hc1 hs1_ (Nat.le_of_ble_eq_true rfl) (fun Y7 w6 hP => ?_)
  obtain ⟨hW10, F⟩ := F Y7 w6 hP
  refine x_astore_n [(2, o), (2, (X.1.1 : Int))] dX6_copy_11 rfl (Nat.le_of_ble_eq_true rfl) ?_
  refine x_aload_n dX6_copy_12 rfl ?_
  refine x_aload_n dX6_copy_13 rfl ?_
  obtain ⟨hs11, hr11, F⟩ := F
  obtain ⟨P12, hC, F⟩ := F
  refine x_inv dX6_copy_14 mlX6_41 hC hs11 (Nat.le_of_ble_eq_true rfl) hr11 rfl rfl (by omega) (Nat.zero_le _) (Nat.zero_le _) (Nat.le_of_ble_eq_true rfl) (fun o1 Y15 w14 ht hP => ?_)
  obtain rfl : o1 = none := ht
  obtain ⟨hX, hP⟩ := hP
  have hX := Eq.symm hX
  subst hX
  have F := F w14 hP
  refine x_aload_n dX6_copy_17 rfl ?_
  exact x_ret (some (2, (X.1.1 : Int))) rfl ⟨dX6_copy_18, Or.inl ⟨_, rfl⟩⟩ F

set_option maxRecDepth 100000 in
set_option maxHeartbeats 4000000 in
theorem bX7_columnCount_0 {d mc ms : Nat} {X : XX} {v : VV} {Q : QQ} (o : Int) (hd : 0 ≤ d) (hW : SW X) (F : X.1.2 o = (7, 0) ∧ (0 ≤ o ∧ o < X.1.1) ∧ ∃ n2 : Nat, X.1.2 (X.2 o 1) = (101, n2) ∧ (0 ≤ (X.2 o 1) ∧ (X.2 o 1) < X.1.1) ∧ Q (some (0, (n2 : Int))) X v) : Ex mX7_columnCount d 0 [(2, o)] [] X v mc ms Q := by
  refine x_aload_n dX7_columnCount_0 rfl ?_
  obtain ⟨hs1, hr1, F⟩ := F
  refine x_getr (r' := (X.2 o 1)) flX7_39 dX7_columnCount_1 hs1 hr1 rfl rfl (Nat.le_of_ble_eq_true rfl) ?_
  obtain ⟨n2, hs2, hr2, F⟩ := F
  refine x_alen dX7_columnCount_4 hs2 (by decide) hr2 (fun hlen => ?_)
  exact x_ret (some (0, (n2 : Int))) rfl ⟨dX7_columnCount_5, Or.inl rfl⟩ F

set_option maxRecDepth 100000 in
set_option maxHeartbeats 4000000 in
theorem bX7_columnOfName_0 {d mc ms : Nat} {X : XX} {v : VV} {Q : QQ} (o : Int) (a1 : Int) (hd : 0 ≤ d) (hW : SW X) (F : Ex mX7_columnOfName d 2 [(2, o), (1, a1), (3, 0), (0, 0)] [] X v mc ms Q) : Ex mX7_columnOfName d 0 [(2, o), (1, a1), (3, 0), (3, 0)] [] X v mc ms Q := by
  refine x_iconst dX7_columnOfName_0 rfl (i32_of rfl) ?_
  refine x_istore_n [(2, o), (1, a1), (3, 0), (0, 0)] dX7_columnOfName_1 rfl (Nat.le_of_ble_eq_true rfl) ?_
  exact F

set_option maxRecDepth 100000 in
set_option maxHeartbeats 4000000 in
theorem bX7_columnOfName_2 {d mc ms : Nat} {X : XX} {v : VV} {Q : QQ} (o : Int) (a1 : Int) (x3 : Int) (hd : 0 ≤ d) (hW : SW X) (F : i32 x3 → X.1.2 o = (7, 0) ∧ (0 ≤ o ∧ o < X.1.1) ∧ ∃ n2 : Nat, X.1.2 (X.2 o 1) = (101, n2) ∧ (0 ≤ (X.2 o 1) ∧ (X.2 o 1) < X.1.1) ∧ ((((n2 : Int) ≤ x3) → Q (some (0, (-1))) X v) ∧ ((x3 < (n2 : Int)) → (0 ≤ x3 ∧ x3 < n2) ∧ (((¬ (v (X.2 o 1) x3) = a1) → i32 (x3 + 1) ∧ Ex mX7_columnOfName d 2 [(2, o), (1, a1), (3, 0), (0, (x3 + 1))] [] X v mc ms Q) ∧ (((v (X.2 o 1) x3) = a1) → Q (some (0, x3)) X v))))) : Ex mX7_columnOfName d 2 [(2, o), (1, a1), (3, 0), (0, x3)] [] X v mc ms Q := by
  refine x_li32 (i := 3) rfl (fun hx3 => ?_)
  have F := F hx3
  refine x_iload_n dX7_columnOfName_2 rfl ?_
  refine x_aload_n dX7_columnOfName_3 rfl ?_
  obtain ⟨hs1, hr1, F⟩ := F
  refine x_getr (r' := (X.2 o 1)) flX7_39 dX7_columnOfName_4 hs1 hr1 rfl rfl (Nat.le_of_ble_eq_true rfl) ?_
  obtain ⟨n2, hs2, hr2, F⟩ := F
  refine x_alen dX7_columnOfName_7 hs2 (by decide) hr2 (fun hlen => ?_)
  refine x_icmp_ge 30 dX7_columnOfName_8 rfl (fun hc => ?_) (fun hc => ?_)
  · have F := F.1 hc
    refine x_iconst dX7_columnOfName_30 rfl (i32_of rfl) ?_
    exact x_ret (some (0, (-1))) rfl ⟨dX7_columnOfName_31, Or.inl rfl⟩ F
  · have F := F.2 hc
    refine x_aload_n dX7_columnOfName_11 rfl ?_
    refine x_getr (r' := (X.2 o 1)) flX7_39 dX7_columnOfName_12 hs1 hr1 rfl rfl (Nat.le_of_ble_eq_true rfl) ?_
    refine x_iload_n dX7_columnOfName_15 rfl ?_
    obtain ⟨hi, F⟩ := F
    refine x_lald (e := (v (X.2 o 1) x3)) dX7_columnOfName_16 hs2 hr2 hi rfl ?_
    refine x_lload_n dX7_columnOfName_17 rfl ?_
    refine x_lcmp dX7_columnOfName_18 (fun z3 hz31 hz32 hz33 => ?_)
    refine x_if_ne 24 dX7_columnOfName_19 rfl (fun hc => ?_) (fun hc => ?_)
    · have F := F.1 (fun q => hc (hz31.mpr q))
      obtain ⟨hz, F⟩ := F
      refine x_iinc [(2, o), (1, a1), (3, 0), (0, (x3 + 1))] dX7_columnOfName_24 rfl rfl (Nat.le_of_ble_eq_true rfl) hz ?_
      refine x_goto 2 dX7_columnOfName_27 rfl ?_
      exact F
    · have F := F.2 (hz31.mp hc)
      refine x_iload_n dX7_columnOfName_22 rfl ?_
      exact x_ret (some (0, x3)) rfl ⟨dX7_columnOfName_23, Or.inl rfl⟩ F

set_option maxRecDepth 100000 in
set_option maxHeartbeats 4000000 in
theorem bX7_hasSelect_0 {d mc ms : Nat} {X : XX} {v : VV} {Q : QQ} (o : Int) (hd : 0 ≤ d) (hW : SW X) (F : X.1.2 o = (7, 0) ∧ (0 ≤ o ∧ o < X.1.1) ∧ ((((v o 5) = 1) → Q (some (0, 1)) X v) ∧ ((¬ (v o 5) = 1) → (((¬ (v o 5) = 2) → Q (some (0, 0)) X v) ∧ (((v o 5) = 2) → Q (some (0, 1)) X v))))) : Ex mX7_hasSelect d 0 [(2, o)] [] X v mc ms Q := by
  refine x_aload_n dX7_hasSelect_0 rfl ?_
  obtain ⟨hs1, hr1, F⟩ := F
  refine x_geti (e := (v o 5)) 0 flX7_34 dX7_hasSelect_1 hs1 hr1 rfl rfl (Nat.le_of_ble_eq_true rfl) (tagn2 rfl) ?_
  refine x_iconst dX7_hasSelect_4 rfl (i32_of rfl) ?_
  refine x_icmp_eq 16 dX7_hasSelect_5 rfl (fun hc => ?_) (fun hc => ?_)
  · have F := F.1 hc
    refine x_iconst dX7_hasSelect_16 rfl (i32_of rfl) ?_
    refine x_goto 21 dX7_hasSelect_17 rfl ?_
    exact x_ret (some (0, 1)) rfl ⟨dX7_hasSelect_21, Or.inr ⟨rfl, Or.inr rfl⟩⟩ F
  · have F := F.2 hc
    refine x_aload_n dX7_hasSelect_8 rfl ?_
    refine x_geti (e := (v o 5)) 0 flX7_34 dX7_hasSelect_9 hs1 hr1 rfl rfl (Nat.le_of_ble_eq_true rfl) (tagn2 rfl) ?_
    refine x_iconst dX7_hasSelect_12 rfl (i32_of rfl) ?_
    refine x_icmp_ne 20 dX7_hasSelect_13 rfl (fun hc => ?_) (fun hc => ?_)
    · have F := F.1 hc
      refine x_iconst dX7_hasSelect_20 rfl (i32_of rfl) ?_
      exact x_ret (some (0, 0)) rfl ⟨dX7_hasSelect_21, Or.inr ⟨rfl, Or.inl rfl⟩⟩ F
    · have F := F.2 hc
      refine x_iconst dX7_hasSelect_16 rfl (i32_of rfl) ?_
      refine x_goto 21 dX7_hasSelect_17 rfl ?_
      exact x_ret (some (0, 1)) rfl ⟨dX7_hasSelect_21, Or.inr ⟨rfl, Or.inr rfl⟩⟩ F

set_option maxRecDepth 100000 in
set_option maxHeartbeats 4000000 in
theorem bX8_readAll_0 {d mc ms : Nat} {X : XX} {v : VV} {Q : QQ} (hd : 10 ≤ d) (hW : SW X) (F : ∃ P1 : Option AV → VV → Prop, Con mX6_cutTo 0 0 0 [(2, 6), (0, 0)] X v (fun o X1 v1 => X1 = X ∧ P1 o v1) ∧ ∀ (w3 : VV), P1 none w3 → ∃ P5 : Option AV → VV → Prop, Con mX6_cutTo 0 0 0 [(2, 8), (0, 0)] X w3 (fun o X1 v1 => X1 = X ∧ P5 o v1) ∧ ∀ (w7 : VV), P5 none w7 → ∃ P9 : Option AV → VV → Prop, Con mX6_cutTo 0 0 0 [(2, 10), (0, 0)] X w7 (fun o X1 v1 => X1 = X ∧ P9 o v1) ∧ ∀ (w11 : VV), P9 none w11 → ∃ P13 : Option AV → VV → Prop, Con mX6_cutTo 0 0 0 [(2, 13), (0, 0)] X w11 (fun o X1 v1 => X1 = X ∧ P13 o v1) ∧ ∀ (w15 : VV), P13 none w15 → ∃ P17 : Option AV → VV → Prop, Con mX6_addAll 2 0 0 [(2, 13), (2, 1)] X w15 (fun o X1 v1 => X1 = X ∧ P17 o v1) ∧ ∀ (w19 : VV), P17 none w19 → Ex mX8_readAll d 42 [(2, 5), (2, 1), (0, 0), (3, 0)] [] X w19 mc ms Q) : Ex mX8_readAll d 0 [(2, 5), (2, 1), (3, 0), (3, 0)] [] X v mc ms Q := by
  refine x_aload_n dX8_readAll_0 rfl ?_
  refine x_getr (r' := 6) flX8_14 dX8_readAll_1 (sW5 hW) (gW5 hW) (rW5_0 hW) rfl (Nat.le_of_ble_eq_true rfl) ?_
  refine x_iconst dX8_readAll_4 rfl (i32_of rfl) ?_
  obtain ⟨P1, hC, F⟩ := F
  refine x_inv dX8_readAll_5 mlX8_36 hC (sW6 hW) (Nat.le_of_ble_eq_true rfl) (gW6 hW) rfl rfl (by omega) (Nat.zero_le _) (Nat.zero_le _) (Nat.le_of_ble_eq_true rfl) (fun o1 Y4 w3 ht hP => ?_)
  obtain rfl : o1 = none := ht
  obtain ⟨hX, hP⟩ := hP
  have hX := Eq.symm hX
  subst hX
  have F := F w3 hP
  refine x_aload_n dX8_readAll_8 rfl ?_
  refine x_getr (r' := 8) flX8_20 dX8_readAll_9 (sW5 hW) (gW5 hW) (rW5_1 hW) rfl (Nat.le_of_ble_eq_true rfl) ?_
  refine x_iconst dX8_readAll_12 rfl (i32_of rfl) ?_
  obtain ⟨P5, hC, F⟩ := F
  refine x_inv dX8_readAll_13 mlX8_36 hC (sW8 hW) (Nat.le_of_ble_eq_true rfl) (gW8 hW) rfl rfl (by omega) (Nat.zero_le _) (Nat.zero_le _) (Nat.le_of_ble_eq_true rfl) (fun o1 Y8 w7 ht hP => ?_)
  obtain rfl : o1 = none := ht
  obtain ⟨hX, hP⟩ := hP
  have hX := Eq.symm hX
  subst hX
  have F := F w7 hP
  refine x_aload_n dX8_readAll_16 rfl ?_
  refine x_getr (r' := 10) flX8_23 dX8_readAll_17 (sW5 hW) (gW5 hW) (rW5_2 hW) rfl (Nat.le_of_ble_eq_true rfl) ?_
  refine x_iconst dX8_readAll_20 rfl (i32_of rfl) ?_
  obtain ⟨P9, hC, F⟩ := F
  refine x_inv dX8_readAll_21 mlX8_36 hC (sW10 hW) (Nat.le_of_ble_eq_true rfl) (gW10 hW) rfl rfl (by omega) (Nat.zero_le _) (Nat.zero_le _) (Nat.le_of_ble_eq_true rfl) (fun o1 Y12 w11 ht hP => ?_)
  obtain rfl : o1 = none := ht
  obtain ⟨hX, hP⟩ := hP
  have hX := Eq.symm hX
  subst hX
  have F := F w11 hP
  refine x_aload_n dX8_readAll_24 rfl ?_
  refine x_getr (r' := 13) flX8_30 dX8_readAll_25 (sW5 hW) (gW5 hW) (rW5_4 hW) rfl (Nat.le_of_ble_eq_true rfl) ?_
  refine x_iconst dX8_readAll_28 rfl (i32_of rfl) ?_
  obtain ⟨P13, hC, F⟩ := F
  refine x_inv dX8_readAll_29 mlX8_36 hC (sW13 hW) (Nat.le_of_ble_eq_true rfl) (gW13 hW) rfl rfl (by omega) (Nat.zero_le _) (Nat.zero_le _) (Nat.le_of_ble_eq_true rfl) (fun o1 Y16 w15 ht hP => ?_)
  obtain rfl : o1 = none := ht
  obtain ⟨hX, hP⟩ := hP
  have hX := Eq.symm hX
  subst hX
  have F := F w15 hP
  refine x_aload_n dX8_readAll_32 rfl ?_
  refine x_getr (r' := 13) flX8_30 dX8_readAll_33 (sW5 hW) (gW5 hW) (rW5_4 hW) rfl (Nat.le_of_ble_eq_true rfl) ?_
  refine x_aload_n dX8_readAll_36 rfl ?_
  obtain ⟨P17, hC, F⟩ := F
  refine x_inv dX8_readAll_37 mlX8_39 hC (sW13 hW) (Nat.le_of_ble_eq_true rfl) (gW13 hW) rfl rfl (by omega) (Nat.zero_le _) (Nat.zero_le _) (Nat.le_of_ble_eq_true rfl) (fun o1 Y20 w19 ht hP => ?_)
  obtain rfl : o1 = none := ht
  obtain ⟨hX, hP⟩ := hP
  have hX := Eq.symm hX
  subst hX
  have F := F w19 hP
  refine x_iconst dX8_readAll_40 rfl (i32_of rfl) ?_
  refine x_istore_n [(2, 5), (2, 1), (0, 0), (3, 0)] dX8_readAll_41 rfl (Nat.le_of_ble_eq_true rfl) ?_
  exact F

set_option maxRecDepth 100000 in
set_option maxHeartbeats 4000000 in
theorem bX8_readAll_42 {d mc ms : Nat} {X : XX} {v : VV} {Q : QQ} (x2 : Int) (hd : 10 ≤ d) (hW : SW X) (F : i32 x2 → ∃ P21 : Option AV → VV → Prop, Con mX6_size 0 0 0 [(2, 13)] X v (fun o X1 v1 => X1 = X ∧ P21 o v1) ∧ ∀ (r22 : Int) (w23 : VV), P21 (some (0, r22)) w23 → (((r22 ≤ x2) → ∃ P25 : Option AV → VV → Prop, Con mX6_size 0 0 0 [(2, 13)] X w23 (fun o X1 v1 => X1 = X ∧ P25 o v1) ∧ ∀ (r26 : Int) (w27 : VV), P25 (some (0, r26)) w27 → ∃ P29 : Option AV → VV → Prop, Con mX8_put 1 0 0 [(2, 5), (0, 260), (0, r26), (0, 0)] X w27 (fun o X1 v1 => X1 = X ∧ P29 o v1) ∧ ∀ (r30 : Int) (w31 : VV), P29 (some (0, r30)) w31 → Q none X w31) ∧ ((x2 < r22) → ∃ P33 : Option AV → VV → Prop, Con mX6_get 0 0 0 [(2, 13), (0, x2)] X w23 (fun o X1 v1 => X1 = X ∧ P33 o v1) ∧ ∀ (r34 : Int) (w35 : VV), P33 (some (0, r34)) w35 → ∃ P37 : Option AV → VV → Prop, Con mX8_isBlank 0 0 0 [(0, r34)] X w35 (fun o X1 v1 => X1 = X ∧ P37 o v1) ∧ ∀ (r38 : Int) (w39 : VV), P37 (some (0, r38)) w39 → (((r38 = 0) → ∃ P41 : Option AV → VV → Prop, Con mX8_readOne 9 0 0 [(2, 5), (0, x2)] X w39 (fun o X1 v1 => X1 = X ∧ P41 o v1) ∧ ∀ (r42 : Int) (w43 : VV), P41 (some (0, r42)) w43 → (i32 (if r42 < 1 then 1 else r42) → i32 (x2 + (if r42 < 1 then 1 else r42))) ∧ Ex mX8_readAll d 42 [(2, 5), (2, 1), (0, (x2 + (if r42 < 1 then 1 else r42))), (3, 0)] [] X w43 mc ms Q) ∧ ((¬ r38 = 0) → (i32 (if 1 < 1 then 1 else 1) → i32 (x2 + (if 1 < 1 then 1 else 1))) ∧ Ex mX8_readAll d 42 [(2, 5), (2, 1), (0, (x2 + (if 1 < 1 then 1 else 1))), (3, 0)] [] X w39 mc ms Q))))) : Ex mX8_readAll d 42 [(2, 5), (2, 1), (0, x2), (3, 0)] [] X v mc ms Q := by
  refine x_li32 (i := 2) rfl (fun hx2 => ?_)
  have F := F hx2
  refine x_iload_n dX8_readAll_42 rfl ?_
  refine x_aload_n dX8_readAll_43 rfl ?_
  refine x_getr (r' := 13) flX8_30 dX8_readAll_44 (sW5 hW) (gW5 hW) (rW5_4 hW) rfl (Nat.le_of_ble_eq_true rfl) ?_
  obtain ⟨P21, hC, F⟩ := F
  refine x_inv dX8_readAll_47 mlX8_43 hC (sW13 hW) (Nat.le_of_ble_eq_true rfl) (gW13 hW) rfl rfl (by omega) (Nat.zero_le _) (Nat.zero_le _) (Nat.le_of_ble_eq_true rfl) (fun o1 Y24 w23 ht hP => ?_)
  obtain ⟨r22, rfl⟩ : ∃ i, o1 = some (0, i) := ht
  obtain ⟨hX, hP⟩ := hP
  have hX := Eq.symm hX
  subst hX
  have F := F r22 w23 hP
  refine x_icmp_ge 88 dX8_readAll_50 rfl (fun hc => ?_) (fun hc => ?_)
  · have F := F.1 hc
    refine x_aload_n dX8_readAll_88 rfl ?_
    refine x_sipush dX8_readAll_89 ks_260 (i32_of rfl) ?_
    refine x_aload_n dX8_readAll_92 rfl ?_
    refine x_getr (r' := 13) flX8_30 dX8_readAll_93 (sW5 hW) (gW5 hW) (rW5_4 hW) rfl (Nat.le_of_ble_eq_true rfl) ?_
    obtain ⟨P25, hC, F⟩ := F
    refine x_inv dX8_readAll_96 mlX8_43 hC (sW13 hW) (Nat.le_of_ble_eq_true rfl) (gW13 hW) rfl rfl (by omega) (Nat.zero_le _) (Nat.zero_le _) (Nat.le_of_ble_eq_true rfl) (fun o1 Y28 w27 ht hP => ?_)
    obtain ⟨r26, rfl⟩ : ∃ i, o1 = some (0, i) := ht
    obtain ⟨hX, hP⟩ := hP
    have hX := Eq.symm hX
    subst hX
    have F := F r26 w27 hP
    refine x_iconst dX8_readAll_99 rfl (i32_of rfl) ?_
    obtain ⟨P29, hC, F⟩ := F
    refine x_inv dX8_readAll_100 mlX8_64 hC (sW5 hW) (Nat.le_of_ble_eq_true rfl) (gW5 hW) rfl rfl (by omega) (Nat.zero_le _) (Nat.zero_le _) (Nat.le_of_ble_eq_true rfl) (fun o1 Y32 w31 ht hP => ?_)
    obtain ⟨r30, rfl⟩ : ∃ i, o1 = some (0, i) := ht
    obtain ⟨hX, hP⟩ := hP
    have hX := Eq.symm hX
    subst hX
    have F := F r30 w31 hP
    refine x_pop dX8_readAll_103 (tag1 rfl) ?_
    exact x_ret none rfl ⟨dX8_readAll_104, rfl⟩ F
  · have F := F.2 hc
    refine x_aload_n dX8_readAll_53 rfl ?_
    refine x_getr (r' := 13) flX8_30 dX8_readAll_54 (sW5 hW) (gW5 hW) (rW5_4 hW) rfl (Nat.le_of_ble_eq_true rfl) ?_
    refine x_iload_n dX8_readAll_57 rfl ?_
    obtain ⟨P33, hC, F⟩ := F
    refine x_inv dX8_readAll_58 mlX8_47 hC (sW13 hW) (Nat.le_of_ble_eq_true rfl) (gW13 hW) rfl rfl (by omega) (Nat.zero_le _) (Nat.zero_le _) (Nat.le_of_ble_eq_true rfl) (fun o1 Y36 w35 ht hP => ?_)
    obtain ⟨r34, rfl⟩ : ∃ i, o1 = some (0, i) := ht
    obtain ⟨hX, hP⟩ := hP
    have hX := Eq.symm hX
    subst hX
    have F := F r34 w35 hP
    obtain ⟨P37, hC, F⟩ := F
    refine x_static dX8_readAll_61 mlX8_51 hC rfl rfl (by omega) (Nat.zero_le _) (Nat.zero_le _) (Nat.le_of_ble_eq_true rfl) (fun o1 Y40 w39 ht hP => ?_)
    obtain ⟨r38, rfl⟩ : ∃ i, o1 = some (0, i) := ht
    obtain ⟨hX, hP⟩ := hP
    have hX := Eq.symm hX
    subst hX
    have F := F r38 w39 hP
    refine x_if_eq 71 dX8_readAll_64 rfl (fun hc => ?_) (fun hc => ?_)
    · have F := F.1 hc
      refine x_aload_n dX8_readAll_71 rfl ?_
      refine x_iload_n dX8_readAll_72 rfl ?_
      obtain ⟨P41, hC, F⟩ := F
      refine x_inv dX8_readAll_73 mlX8_55 hC (sW5 hW) (Nat.le_of_ble_eq_true rfl) (gW5 hW) rfl rfl (by omega) (Nat.zero_le _) (Nat.zero_le _) (Nat.le_of_ble_eq_true rfl) (fun o1 Y44 w43 ht hP => ?_)
      obtain ⟨r42, rfl⟩ : ∃ i, o1 = some (0, i) := ht
      obtain ⟨hX, hP⟩ := hP
      have hX := Eq.symm hX
      subst hX
      have F := F r42 w43 hP
      refine x_istore_n [(2, 5), (2, 1), (0, x2), (0, r42)] dX8_readAll_76 rfl (Nat.le_of_ble_eq_true rfl) ?_
      refine x_iload_n dX8_readAll_77 rfl ?_
      refine x_iload_n dX8_readAll_78 rfl ?_
      refine x_iconst dX8_readAll_79 rfl (i32_of rfl) ?_
      refine x_max dX8_readAll_80 mlX8_58 (by omega) (Nat.le_of_ble_eq_true rfl) ?_
      refine x_si32 (i := 0) rfl (fun hk0 => ?_)
      obtain ⟨hz, F⟩ := F
      have hz := hz hk0
      refine x_iadd dX8_readAll_83 hz ?_
      refine x_istore_n [(2, 5), (2, 1), (0, (x2 + (if r42 < 1 then 1 else r42))), (0, r42)] dX8_readAll_84 rfl (Nat.le_of_ble_eq_true rfl) ?_
      refine x_goto 42 dX8_readAll_85 rfl ?_
      exact x_less [(2, 5), (2, 1), (0, (x2 + (if r42 < 1 then 1 else r42))), (3, 0)] ⟨Or.inr rfl, ⟨Or.inr rfl, ⟨Or.inr rfl, ⟨Or.inl rfl, trivial⟩⟩⟩⟩ F
    · have F := F.2 hc
      refine x_iconst dX8_readAll_67 rfl (i32_of rfl) ?_
      refine x_goto 76 dX8_readAll_68 rfl ?_
      refine x_istore_n [(2, 5), (2, 1), (0, x2), (0, 1)] dX8_readAll_76 rfl (Nat.le_of_ble_eq_true rfl) ?_
      refine x_iload_n dX8_readAll_77 rfl ?_
      refine x_iload_n dX8_readAll_78 rfl ?_
      refine x_iconst dX8_readAll_79 rfl (i32_of rfl) ?_
      refine x_max dX8_readAll_80 mlX8_58 (by omega) (Nat.le_of_ble_eq_true rfl) ?_
      refine x_si32 (i := 0) rfl (fun hk0 => ?_)
      obtain ⟨hz, F⟩ := F
      have hz := hz hk0
      refine x_iadd dX8_readAll_83 hz ?_
      refine x_istore_n [(2, 5), (2, 1), (0, (x2 + (if 1 < 1 then 1 else 1))), (0, 1)] dX8_readAll_84 rfl (Nat.le_of_ble_eq_true rfl) ?_
      refine x_goto 42 dX8_readAll_85 rfl ?_
      exact x_less [(2, 5), (2, 1), (0, (x2 + (if 1 < 1 then 1 else 1))), (3, 0)] ⟨Or.inr rfl, ⟨Or.inr rfl, ⟨Or.inr rfl, ⟨Or.inl rfl, trivial⟩⟩⟩⟩ F

set_option maxRecDepth 100000 in
set_option maxHeartbeats 4000000 in
theorem bX8_isOneName_0 {d mc ms : Nat} {X : XX} {v : VV} {Q : QQ} (hd : 1 ≤ d) (hW : SW X) (F : ∃ P1 : Option AV → VV → Prop, Con mX6_get 0 0 0 [(2, 6), (0, 0)] X v (fun o X1 v1 => X1 = X ∧ P1 o v1) ∧ ∀ (r2 : Int) (w3 : VV), P1 (some (0, r2)) w3 → (((¬ r2 = 256) → Q (some (0, 0)) X w3) ∧ ((r2 = 256) → ∃ P5 : Option AV → VV → Prop, Con mX6_get 0 0 0 [(2, 10), (0, 0)] X w3 (fun o X1 v1 => X1 = X ∧ P5 o v1) ∧ ∀ (r6 : Int) (w7 : VV), P5 (some (0, r6)) w7 → (((8 < r6) → Q (some (0, 0)) X w7) ∧ ((r6 ≤ 8) → ∃ P9 : Option AV → VV → Prop, Con mX6_get 0 0 0 [(2, 6), (0, 1)] X w7 (fun o X1 v1 => X1 = X ∧ P9 o v1) ∧ ∀ (r10 : Int) (w11 : VV), P9 (some (0, r10)) w11 → (((¬ r10 = 260) → Q (some (0, 0)) X w11) ∧ ((r10 = 260) → Q (some (0, 1)) X w11))))))) : Ex mX8_isOneName d 0 [(2, 5)] [] X v mc ms Q := by
  refine x_aload_n dX8_isOneName_0 rfl ?_
  refine x_getr (r' := 6) flX8_14 dX8_isOneName_1 (sW5 hW) (gW5 hW) (rW5_0 hW) rfl (Nat.le_of_ble_eq_true rfl) ?_
  refine x_iconst dX8_isOneName_4 rfl (i32_of rfl) ?_
  obtain ⟨P1, hC, F⟩ := F
  refine x_inv dX8_isOneName_5 mlX8_47 hC (sW6 hW) (Nat.le_of_ble_eq_true rfl) (gW6 hW) rfl rfl (by omega) (Nat.zero_le _) (Nat.zero_le _) (Nat.le_of_ble_eq_true rfl) (fun o1 Y4 w3 ht hP => ?_)
  obtain ⟨r2, rfl⟩ : ∃ i, o1 = some (0, i) := ht
  obtain ⟨hX, hP⟩ := hP
  have hX := Eq.symm hX
  subst hX
  have F := F r2 w3 hP
  refine x_sipush dX8_isOneName_8 ks_256 (i32_of rfl) ?_
  refine x_icmp_ne 45 dX8_isOneName_11 rfl (fun hc => ?_) (fun hc => ?_)
  · have F := F.1 hc
    refine x_iconst dX8_isOneName_45 rfl (i32_of rfl) ?_
    exact x_ret (some (0, 0)) rfl ⟨dX8_isOneName_46, Or.inr ⟨rfl, Or.inl rfl⟩⟩ F
  · have F := F.2 hc
    refine x_aload_n dX8_isOneName_14 rfl ?_
    refine x_getr (r' := 10) flX8_23 dX8_isOneName_15 (sW5 hW) (gW5 hW) (rW5_2 hW) rfl (Nat.le_of_ble_eq_true rfl) ?_
    refine x_iconst dX8_isOneName_18 rfl (i32_of rfl) ?_
    obtain ⟨P5, hC, F⟩ := F
    refine x_inv dX8_isOneName_19 mlX8_47 hC (sW10 hW) (Nat.le_of_ble_eq_true rfl) (gW10 hW) rfl rfl (by omega) (Nat.zero_le _) (Nat.zero_le _) (Nat.le_of_ble_eq_true rfl) (fun o1 Y8 w7 ht hP => ?_)
    obtain ⟨r6, rfl⟩ : ∃ i, o1 = some (0, i) := ht
    obtain ⟨hX, hP⟩ := hP
    have hX := Eq.symm hX
    subst hX
    have F := F r6 w7 hP
    refine x_bipush dX8_isOneName_22 kb_8 (i32_of rfl) ?_
    refine x_icmp_gt 45 dX8_isOneName_24 rfl (fun hc => ?_) (fun hc => ?_)
    · have F := F.1 hc
      refine x_iconst dX8_isOneName_45 rfl (i32_of rfl) ?_
      exact x_ret (some (0, 0)) rfl ⟨dX8_isOneName_46, Or.inr ⟨rfl, Or.inl rfl⟩⟩ F
    · have F := F.2 hc
      refine x_aload_n dX8_isOneName_27 rfl ?_
      refine x_getr (r' := 6) flX8_14 dX8_isOneName_28 (sW5 hW) (gW5 hW) (rW5_0 hW) rfl (Nat.le_of_ble_eq_true rfl) ?_
      refine x_iconst dX8_isOneName_31 rfl (i32_of rfl) ?_
      obtain ⟨P9, hC, F⟩ := F
      refine x_inv dX8_isOneName_32 mlX8_47 hC (sW6 hW) (Nat.le_of_ble_eq_true rfl) (gW6 hW) rfl rfl (by omega) (Nat.zero_le _) (Nat.zero_le _) (Nat.le_of_ble_eq_true rfl) (fun o1 Y12 w11 ht hP => ?_)
      obtain ⟨r10, rfl⟩ : ∃ i, o1 = some (0, i) := ht
      obtain ⟨hX, hP⟩ := hP
      have hX := Eq.symm hX
      subst hX
      have F := F r10 w11 hP
      refine x_sipush dX8_isOneName_35 ks_260 (i32_of rfl) ?_
      refine x_icmp_ne 45 dX8_isOneName_38 rfl (fun hc => ?_) (fun hc => ?_)
      · have F := F.1 hc
        refine x_iconst dX8_isOneName_45 rfl (i32_of rfl) ?_
        exact x_ret (some (0, 0)) rfl ⟨dX8_isOneName_46, Or.inr ⟨rfl, Or.inl rfl⟩⟩ F
      · have F := F.2 hc
        refine x_iconst dX8_isOneName_41 rfl (i32_of rfl) ?_
        refine x_goto 46 dX8_isOneName_42 rfl ?_
        exact x_ret (some (0, 1)) rfl ⟨dX8_isOneName_46, Or.inr ⟨rfl, Or.inr rfl⟩⟩ F

set_option maxRecDepth 100000 in
set_option maxHeartbeats 4000000 in
theorem bX8_nameOf_0 {d mc ms : Nat} {X : XX} {v : VV} {Q : QQ} (a1 : Int) (hd : 0 ≤ d) (hW : SW X) (F : i32 a1 → (((a1 < 0) → Q (some (1, 0)) X v) ∧ ((0 ≤ a1) → (((401 ≤ a1) → Q (some (1, 0)) X v) ∧ ((a1 < 401) → (0 ≤ a1 ∧ a1 < 401) ∧ Q (some (1, (v 12 a1))) X v))))) : Ex mX8_nameOf d 0 [(2, 5), (0, a1)] [] X v mc ms Q := by
  refine x_li32 (i := 1) rfl (fun ha1 => ?_)
  have F := F ha1
  refine x_iload_n dX8_nameOf_0 rfl ?_
  refine x_if_lt 22 dX8_nameOf_1 rfl (fun hc => ?_) (fun hc => ?_)
  · have F := F.1 hc
    refine x_lconst (i := 0) dX8_nameOf_22 rfl (i64_of rfl) ?_
    exact x_ret (some (1, 0)) rfl ⟨dX8_nameOf_23, rfl⟩ F
  · have F := F.2 hc
    refine x_iload_n dX8_nameOf_4 rfl ?_
    refine x_aload_n dX8_nameOf_5 rfl ?_
    refine x_getr (r' := 12) flX8_26 dX8_nameOf_6 (sW5 hW) (gW5 hW) (rW5_3 hW) rfl (Nat.le_of_ble_eq_true rfl) ?_
    refine x_alen dX8_nameOf_9 (sW12 hW) (by decide) (gW12 hW) (fun hlen => ?_)
    refine x_icmp_ge 22 dX8_nameOf_10 rfl (fun hc => ?_) (fun hc => ?_)
    · have F := F.1 hc
      refine x_lconst (i := 0) dX8_nameOf_22 rfl (i64_of rfl) ?_
      exact x_ret (some (1, 0)) rfl ⟨dX8_nameOf_23, rfl⟩ F
    · have F := F.2 hc
      refine x_aload_n dX8_nameOf_13 rfl ?_
      refine x_getr (r' := 12) flX8_26 dX8_nameOf_14 (sW5 hW) (gW5 hW) (rW5_3 hW) rfl (Nat.le_of_ble_eq_true rfl) ?_
      refine x_iload_n dX8_nameOf_17 rfl ?_
      obtain ⟨hi, F⟩ := F
      refine x_lald (e := (v 12 a1)) dX8_nameOf_18 (sW12 hW) (gW12 hW) hi rfl ?_
      refine x_goto 23 dX8_nameOf_19 rfl ?_
      exact x_ret (some (1, (v 12 a1))) rfl ⟨dX8_nameOf_23, rfl⟩ F

set_option maxRecDepth 100000 in
set_option maxHeartbeats 4000000 in
theorem bX8_readOne_0 {d mc ms : Nat} {X : XX} {v : VV} {Q : QQ} (a1 : Int) (hd : 9 ≤ d) (hW : SW X) (F : i32 a1 → ∃ P1 : Option AV → VV → Prop, Con mX6_get 0 0 0 [(2, 13), (0, a1)] X v (fun o X1 v1 => X1 = X ∧ P1 o v1) ∧ ∀ (r2 : Int) (w3 : VV), P1 (some (0, r2)) w3 → ∃ P5 : Option AV → VV → Prop, Con mX8_isLetter 0 0 0 [(0, r2)] X w3 (fun o X1 v1 => X1 = X ∧ P5 o v1) ∧ ∀ (r6 : Int) (w7 : VV), P5 (some (0, r6)) w7 → (((r6 = 0) → ∃ P9 : Option AV → VV → Prop, Con mX8_isDigit 0 0 0 [(0, r2)] X w7 (fun o X1 v1 => X1 = X ∧ P9 o v1) ∧ ∀ (r10 : Int) (w11 : VV), P9 (some (0, r10)) w11 → (((r10 = 0) → (((¬ r2 = 39) → ∃ P13 : Option AV → VV → Prop, Con mX8_put 1 0 0 [(2, 5), (0, r2), (0, a1), (0, 1)] X w11 (fun o X1 v1 => X1 = X ∧ P13 o v1) ∧ ∀ (r14 : Int) (w15 : VV), P13 (some (0, r14)) w15 → Q (some (0, r14)) X w15) ∧ ((r2 = 39) → ∃ P17 : Option AV → VV → Prop, Con mX8_readQuote 2 0 0 [(2, 5), (0, a1)] X w11 (fun o X1 v1 => X1 = X ∧ P17 o v1) ∧ ∀ (r18 : Int) (w19 : VV), P17 (some (0, r18)) w19 → Q (some (0, r18)) X w19))) ∧ ((¬ r10 = 0) → i32 (a1 + 1) ∧ Ex mX8_readOne d 33 [(2, 5), (0, a1), (0, r2), (0, (a1 + 1))] [] X w11 mc ms Q))) ∧ ((¬ r6 = 0) → ∃ P21 : Option AV → VV → Prop, Con mX8_readWord 8 0 0 [(2, 5), (0, a1)] X w7 (fun o X1 v1 => X1 = X ∧ P21 o v1) ∧ ∀ (r22 : Int) (w23 : VV), P21 (some (0, r22)) w23 → Q (some (0, r22)) X w23))) : Ex mX8_readOne d 0 [(2, 5), (0, a1), (3, 0), (3, 0)] [] X v mc ms Q := by
  refine x_li32 (i := 1) rfl (fun ha1 => ?_)
  have F := F ha1
  refine x_aload_n dX8_readOne_0 rfl ?_
  refine x_getr (r' := 13) flX8_30 dX8_readOne_1 (sW5 hW) (gW5 hW) (rW5_4 hW) rfl (Nat.le_of_ble_eq_true rfl) ?_
  refine x_iload_n dX8_readOne_4 rfl ?_
  obtain ⟨P1, hC, F⟩ := F
  refine x_inv dX8_readOne_5 mlX8_47 hC (sW13 hW) (Nat.le_of_ble_eq_true rfl) (gW13 hW) rfl rfl (by omega) (Nat.zero_le _) (Nat.zero_le _) (Nat.le_of_ble_eq_true rfl) (fun o1 Y4 w3 ht hP => ?_)
  obtain ⟨r2, rfl⟩ : ∃ i, o1 = some (0, i) := ht
  obtain ⟨hX, hP⟩ := hP
  have hX := Eq.symm hX
  subst hX
  have F := F r2 w3 hP
  refine x_istore_n [(2, 5), (0, a1), (0, r2), (3, 0)] dX8_readOne_8 rfl (Nat.le_of_ble_eq_true rfl) ?_
  refine x_iload_n dX8_readOne_9 rfl ?_
  obtain ⟨P5, hC, F⟩ := F
  refine x_static dX8_readOne_10 mlX8_68 hC rfl rfl (by omega) (Nat.zero_le _) (Nat.zero_le _) (Nat.le_of_ble_eq_true rfl) (fun o1 Y8 w7 ht hP => ?_)
  obtain ⟨r6, rfl⟩ : ∃ i, o1 = some (0, i) := ht
  obtain ⟨hX, hP⟩ := hP
  have hX := Eq.symm hX
  subst hX
  have F := F r6 w7 hP
  refine x_if_eq 22 dX8_readOne_13 rfl (fun hc => ?_) (fun hc => ?_)
  · have F := F.1 hc
    refine x_iload_n dX8_readOne_22 rfl ?_
    obtain ⟨P9, hC, F⟩ := F
    refine x_static dX8_readOne_23 mlX8_74 hC rfl rfl (by omega) (Nat.zero_le _) (Nat.zero_le _) (Nat.le_of_ble_eq_true rfl) (fun o1 Y12 w11 ht hP => ?_)
    obtain ⟨r10, rfl⟩ : ∃ i, o1 = some (0, i) := ht
    obtain ⟨hX, hP⟩ := hP
    have hX := Eq.symm hX
    subst hX
    have F := F r10 w11 hP
    refine x_if_eq 76 dX8_readOne_26 rfl (fun hc => ?_) (fun hc => ?_)
    · have F := F.1 hc
      refine x_iload_n dX8_readOne_76 rfl ?_
      refine x_bipush dX8_readOne_77 kb_39 (i32_of rfl) ?_
      refine x_icmp_ne 90 dX8_readOne_79 rfl (fun hc => ?_) (fun hc => ?_)
      · have F := F.1 hc
        refine x_aload_n dX8_readOne_90 rfl ?_
        refine x_iload_n dX8_readOne_91 rfl ?_
        refine x_iload_n dX8_readOne_92 rfl ?_
        refine x_iconst dX8_readOne_93 rfl (i32_of rfl) ?_
        obtain ⟨P13, hC, F⟩ := F
        refine x_inv dX8_readOne_94 mlX8_64 hC (sW5 hW) (Nat.le_of_ble_eq_true rfl) (gW5 hW) rfl rfl (by omega) (Nat.zero_le _) (Nat.zero_le _) (Nat.le_of_ble_eq_true rfl) (fun o1 Y16 w15 ht hP => ?_)
        obtain ⟨r14, rfl⟩ : ∃ i, o1 = some (0, i) := ht
        obtain ⟨hX, hP⟩ := hP
        have hX := Eq.symm hX
        subst hX
        have F := F r14 w15 hP
        exact x_ret (some (0, r14)) rfl ⟨dX8_readOne_97, Or.inl rfl⟩ F
      · have F := F.2 hc
        refine x_aload_n dX8_readOne_82 rfl ?_
        refine x_iload_n dX8_readOne_83 rfl ?_
        obtain ⟨P17, hC, F⟩ := F
        refine x_inv dX8_readOne_84 mlX8_77 hC (sW5 hW) (Nat.le_of_ble_eq_true rfl) (gW5 hW) rfl rfl (by omega) (Nat.zero_le _) (Nat.zero_le _) (Nat.le_of_ble_eq_true rfl) (fun o1 Y20 w19 ht hP => ?_)
        obtain ⟨r18, rfl⟩ : ∃ i, o1 = some (0, i) := ht
        obtain ⟨hX, hP⟩ := hP
        have hX := Eq.symm hX
        subst hX
        have F := F r18 w19 hP
        refine x_goto 97 dX8_readOne_87 rfl ?_
        exact x_ret (some (0, r18)) rfl ⟨dX8_readOne_97, Or.inl rfl⟩ F
    · have F := F.2 hc
      refine x_iload_n dX8_readOne_29 rfl ?_
      refine x_iconst dX8_readOne_30 rfl (i32_of rfl) ?_
      obtain ⟨hz, F⟩ := F
      refine x_iadd dX8_readOne_31 hz ?_
      refine x_istore_n [(2, 5), (0, a1), (0, r2), (0, (a1 + 1))] dX8_readOne_32 rfl (Nat.le_of_ble_eq_true rfl) ?_
      exact F
  · have F := F.2 hc
    refine x_aload_n dX8_readOne_16 rfl ?_
    refine x_iload_n dX8_readOne_17 rfl ?_
    obtain ⟨P21, hC, F⟩ := F
    refine x_inv dX8_readOne_18 mlX8_71 hC (sW5 hW) (Nat.le_of_ble_eq_true rfl) (gW5 hW) rfl rfl (by omega) (Nat.zero_le _) (Nat.zero_le _) (Nat.le_of_ble_eq_true rfl) (fun o1 Y24 w23 ht hP => ?_)
    obtain ⟨r22, rfl⟩ : ∃ i, o1 = some (0, i) := ht
    obtain ⟨hX, hP⟩ := hP
    have hX := Eq.symm hX
    subst hX
    have F := F r22 w23 hP
    exact x_ret (some (0, r22)) rfl ⟨dX8_readOne_21, Or.inl rfl⟩ F

set_option maxRecDepth 100000 in
set_option maxHeartbeats 4000000 in
theorem bX8_readOne_33 {d mc ms : Nat} {X : XX} {v : VV} {Q : QQ} (a1 : Int) (x2 : Int) (x3 : Int) (hd : 9 ≤ d) (hW : SW X) (F : i32 a1 → i32 x2 → i32 x3 → ∃ P25 : Option AV → VV → Prop, Con mX6_size 0 0 0 [(2, 13)] X v (fun o X1 v1 => X1 = X ∧ P25 o v1) ∧ ∀ (r26 : Int) (w27 : VV), P25 (some (0, r26)) w27 → (((r26 ≤ x3) → Ex mX8_readOne d 64 [(2, 5), (0, a1), (0, x2), (0, x3)] [] X w27 mc ms Q) ∧ ((x3 < r26) → ∃ P29 : Option AV → VV → Prop, Con mX6_get 0 0 0 [(2, 13), (0, x3)] X w27 (fun o X1 v1 => X1 = X ∧ P29 o v1) ∧ ∀ (r30 : Int) (w31 : VV), P29 (some (0, r30)) w31 → ∃ P33 : Option AV → VV → Prop, Con mX8_isDigit 0 0 0 [(0, r30)] X w31 (fun o X1 v1 => X1 = X ∧ P33 o v1) ∧ ∀ (r34 : Int) (w35 : VV), P33 (some (0, r34)) w35 → (((r34 = 0) → Ex mX8_readOne d 64 [(2, 5), (0, a1), (0, x2), (0, x3)] [] X w35 mc ms Q) ∧ ((¬ r34 = 0) → i32 (x3 + 1) ∧ Ex mX8_readOne d 33 [(2, 5), (0, a1), (0, x2), (0, (x3 + 1))] [] X w35 mc ms Q))))) : Ex mX8_readOne d 33 [(2, 5), (0, a1), (0, x2), (0, x3)] [] X v mc ms Q := by
  refine x_li32 (i := 1) rfl (fun ha1 => ?_)
  have F := F ha1
  refine x_li32 (i := 2) rfl (fun hx2 => ?_)
  have F := F hx2
  refine x_li32 (i := 3) rfl (fun hx3 => ?_)
  have F := F hx3
  refine x_iload_n dX8_readOne_33 rfl ?_
  refine x_aload_n dX8_readOne_34 rfl ?_
  refine x_getr (r' := 13) flX8_30 dX8_readOne_35 (sW5 hW) (gW5 hW) (rW5_4 hW) rfl (Nat.le_of_ble_eq_true rfl) ?_
  obtain ⟨P25, hC, F⟩ := F
  refine x_inv dX8_readOne_38 mlX8_43 hC (sW13 hW) (Nat.le_of_ble_eq_true rfl) (gW13 hW) rfl rfl (by omega) (Nat.zero_le _) (Nat.zero_le _) (Nat.le_of_ble_eq_true rfl) (fun o1 Y28 w27 ht hP => ?_)
  obtain ⟨r26, rfl⟩ : ∃ i, o1 = some (0, i) := ht
  obtain ⟨hX, hP⟩ := hP
  have hX := Eq.symm hX
  subst hX
  have F := F r26 w27 hP
  refine x_icmp_ge 64 dX8_readOne_41 rfl (fun hc => ?_) (fun hc => ?_)
  · have F := F.1 hc
    exact F
  · have F := F.2 hc
    refine x_aload_n dX8_readOne_44 rfl ?_
    refine x_getr (r' := 13) flX8_30 dX8_readOne_45 (sW5 hW) (gW5 hW) (rW5_4 hW) rfl (Nat.le_of_ble_eq_true rfl) ?_
    refine x_iload_n dX8_readOne_48 rfl ?_
    obtain ⟨P29, hC, F⟩ := F
    refine x_inv dX8_readOne_49 mlX8_47 hC (sW13 hW) (Nat.le_of_ble_eq_true rfl) (gW13 hW) rfl rfl (by omega) (Nat.zero_le _) (Nat.zero_le _) (Nat.le_of_ble_eq_true rfl) (fun o1 Y32 w31 ht hP => ?_)
    obtain ⟨r30, rfl⟩ : ∃ i, o1 = some (0, i) := ht
    obtain ⟨hX, hP⟩ := hP
    have hX := Eq.symm hX
    subst hX
    have F := F r30 w31 hP
    obtain ⟨P33, hC, F⟩ := F
    refine x_static dX8_readOne_52 mlX8_74 hC rfl rfl (by omega) (Nat.zero_le _) (Nat.zero_le _) (Nat.le_of_ble_eq_true rfl) (fun o1 Y36 w35 ht hP => ?_)
    obtain ⟨r34, rfl⟩ : ∃ i, o1 = some (0, i) := ht
    obtain ⟨hX, hP⟩ := hP
    have hX := Eq.symm hX
    subst hX
    have F := F r34 w35 hP
    refine x_if_eq 64 dX8_readOne_55 rfl (fun hc => ?_) (fun hc => ?_)
    · have F := F.1 hc
      exact F
    · have F := F.2 hc
      obtain ⟨hz, F⟩ := F
      refine x_iinc [(2, 5), (0, a1), (0, x2), (0, (x3 + 1))] dX8_readOne_58 rfl rfl (Nat.le_of_ble_eq_true rfl) hz ?_
      refine x_goto 33 dX8_readOne_61 rfl ?_
      exact F

set_option maxRecDepth 100000 in
set_option maxHeartbeats 4000000 in
theorem bX8_readOne_64 {d mc ms : Nat} {X : XX} {v : VV} {Q : QQ} (a1 : Int) (x2 : Int) (x3 : Int) (hd : 9 ≤ d) (hW : SW X) (F : i32 a1 → i32 x2 → i32 x3 → i32 (x3 - a1) ∧ ∃ P37 : Option AV → VV → Prop, Con mX8_put 1 0 0 [(2, 5), (0, 257), (0, a1), (0, (x3 - a1))] X v (fun o X1 v1 => X1 = X ∧ P37 o v1) ∧ ∀ (r38 : Int) (w39 : VV), P37 (some (0, r38)) w39 → Q (some (0, r38)) X w39) : Ex mX8_readOne d 64 [(2, 5), (0, a1), (0, x2), (0, x3)] [] X v mc ms Q := by
  refine x_li32 (i := 1) rfl (fun ha1 => ?_)
  have F := F ha1
  refine x_li32 (i := 2) rfl (fun hx2 => ?_)
  have F := F hx2
  refine x_li32 (i := 3) rfl (fun hx3 => ?_)
  have F := F hx3
  refine x_aload_n dX8_readOne_64 rfl ?_
  refine x_sipush dX8_readOne_65 ks_257 (i32_of rfl) ?_
  refine x_iload_n dX8_readOne_68 rfl ?_
  refine x_iload_n dX8_readOne_69 rfl ?_
  refine x_iload_n dX8_readOne_70 rfl ?_
  obtain ⟨hz, F⟩ := F
  refine x_isub dX8_readOne_71 hz ?_
  obtain ⟨P37, hC, F⟩ := F
  refine x_inv dX8_readOne_72 mlX8_64 hC (sW5 hW) (Nat.le_of_ble_eq_true rfl) (gW5 hW) rfl rfl (by omega) (Nat.zero_le _) (Nat.zero_le _) (Nat.le_of_ble_eq_true rfl) (fun o1 Y40 w39 ht hP => ?_)
  obtain ⟨r38, rfl⟩ : ∃ i, o1 = some (0, i) := ht
  obtain ⟨hX, hP⟩ := hP
  have hX := Eq.symm hX
  subst hX
  have F := F r38 w39 hP
  exact x_ret (some (0, r38)) rfl ⟨dX8_readOne_75, Or.inl rfl⟩ F

set_option maxRecDepth 100000 in
set_option maxHeartbeats 4000000 in
theorem bX8_readWord_0 {d mc ms : Nat} {X : XX} {v : VV} {Q : QQ} (a1 : Int) (hd : 8 ≤ d) (hW : SW X) (F : i32 a1 → Ex mX8_readWord d 5 [(2, 5), (0, a1), (1, 0), (3, 0), (0, a1), (3, 0)] [] X v mc ms Q) : Ex mX8_readWord d 0 [(2, 5), (0, a1), (3, 0), (3, 0), (3, 0), (3, 0)] [] X v mc ms Q := by
  refine x_li32 (i := 1) rfl (fun ha1 => ?_)
  have F := F ha1
  refine x_lconst (i := 0) dX8_readWord_0 rfl (i64_of rfl) ?_
  refine x_lstore_n [(2, 5), (0, a1), (1, 0), (3, 0), (3, 0), (3, 0)] dX8_readWord_1 rfl (Nat.le_of_ble_eq_true rfl) ?_
  refine x_iload_n dX8_readWord_2 rfl ?_
  refine x_istore [(2, 5), (0, a1), (1, 0), (3, 0), (0, a1), (3, 0)] dX8_readWord_3 rfl (Nat.le_of_ble_eq_true rfl) ?_
  exact F

set_option maxRecDepth 100000 in
set_option maxHeartbeats 4000000 in
theorem bX8_readWord_5 {d mc ms : Nat} {X : XX} {v : VV} {Q : QQ} (a1 : Int) (x2 : Int) (x4 : Int) (hd : 8 ≤ d) (hW : SW X) (F : i32 a1 → i32 x4 → ∃ P1 : Option AV → VV → Prop, Con mX6_size 0 0 0 [(2, 13)] X v (fun o X1 v1 => X1 = X ∧ P1 o v1) ∧ ∀ (r2 : Int) (w3 : VV), P1 (some (0, r2)) w3 → (((r2 ≤ x4) → Ex mX8_readWord d 69 [(2, 5), (0, a1), (1, x2), (3, 0), (0, x4), (3, 0)] [] X w3 mc ms Q) ∧ ((x4 < r2) → ∃ P5 : Option AV → VV → Prop, Con mX6_get 0 0 0 [(2, 13), (0, x4)] X w3 (fun o X1 v1 => X1 = X ∧ P5 o v1) ∧ ∀ (r6 : Int) (w7 : VV), P5 (some (0, r6)) w7 → ∃ P9 : Option AV → VV → Prop, Con mX8_isLetter 0 0 0 [(0, r6)] X w7 (fun o X1 v1 => X1 = X ∧ P9 o v1) ∧ ∀ (r10 : Int) (w11 : VV), P9 (some (0, r10)) w11 → (((r10 = 0) → Ex mX8_readWord d 69 [(2, 5), (0, a1), (1, x2), (3, 0), (0, x4), (3, 0)] [] X w11 mc ms Q) ∧ ((¬ r10 = 0) → i32 (x4 - a1) ∧ (((8 ≤ (x4 - a1)) → i32 (x4 + 1) ∧ Ex mX8_readWord d 5 [(2, 5), (0, a1), (1, x2), (3, 0), (0, (x4 + 1)), (3, 0)] [] X w11 mc ms Q) ∧ (((x4 - a1) < 8) → i64 (x2 * 32) ∧ ∃ P13 : Option AV → VV → Prop, Con mX6_get 0 0 0 [(2, 13), (0, x4)] X w11 (fun o X1 v1 => X1 = X ∧ P13 o v1) ∧ ∀ (r14 : Int) (w15 : VV), P13 (some (0, r14)) w15 → (i32 r14 → i32 (r14 - 97)) ∧ (i32 (r14 - 97) → i32 ((r14 - 97) + 1)) ∧ i64 ((x2 * 32) + ((r14 - 97) + 1)) ∧ i32 (x4 + 1) ∧ Ex mX8_readWord d 5 [(2, 5), (0, a1), (1, ((x2 * 32) + ((r14 - 97) + 1))), (3, 0), (0, (x4 + 1)), (3, 0)] [] X w15 mc ms Q))))))) : Ex mX8_readWord d 5 [(2, 5), (0, a1), (1, x2), (3, 0), (0, x4), (3, 0)] [] X v mc ms Q := by
  refine x_li32 (i := 1) rfl (fun ha1 => ?_)
  have F := F ha1
  refine x_li32 (i := 4) rfl (fun hx4 => ?_)
  have F := F hx4
  refine x_iload dX8_readWord_5 rfl ?_
  refine x_aload_n dX8_readWord_7 rfl ?_
  refine x_getr (r' := 13) flX8_30 dX8_readWord_8 (sW5 hW) (gW5 hW) (rW5_4 hW) rfl (Nat.le_of_ble_eq_true rfl) ?_
  obtain ⟨P1, hC, F⟩ := F
  refine x_inv dX8_readWord_11 mlX8_43 hC (sW13 hW) (Nat.le_of_ble_eq_true rfl) (gW13 hW) rfl rfl (by omega) (Nat.zero_le _) (Nat.zero_le _) (Nat.le_of_ble_eq_true rfl) (fun o1 Y4 w3 ht hP => ?_)
  obtain ⟨r2, rfl⟩ : ∃ i, o1 = some (0, i) := ht
  obtain ⟨hX, hP⟩ := hP
  have hX := Eq.symm hX
  subst hX
  have F := F r2 w3 hP
  refine x_icmp_ge 69 dX8_readWord_14 rfl (fun hc => ?_) (fun hc => ?_)
  · have F := F.1 hc
    exact F
  · have F := F.2 hc
    refine x_aload_n dX8_readWord_17 rfl ?_
    refine x_getr (r' := 13) flX8_30 dX8_readWord_18 (sW5 hW) (gW5 hW) (rW5_4 hW) rfl (Nat.le_of_ble_eq_true rfl) ?_
    refine x_iload dX8_readWord_21 rfl ?_
    obtain ⟨P5, hC, F⟩ := F
    refine x_inv dX8_readWord_23 mlX8_47 hC (sW13 hW) (Nat.le_of_ble_eq_true rfl) (gW13 hW) rfl rfl (by omega) (Nat.zero_le _) (Nat.zero_le _) (Nat.le_of_ble_eq_true rfl) (fun o1 Y8 w7 ht hP => ?_)
    obtain ⟨r6, rfl⟩ : ∃ i, o1 = some (0, i) := ht
    obtain ⟨hX, hP⟩ := hP
    have hX := Eq.symm hX
    subst hX
    have F := F r6 w7 hP
    obtain ⟨P9, hC, F⟩ := F
    refine x_static dX8_readWord_26 mlX8_68 hC rfl rfl (by omega) (Nat.zero_le _) (Nat.zero_le _) (Nat.le_of_ble_eq_true rfl) (fun o1 Y12 w11 ht hP => ?_)
    obtain ⟨r10, rfl⟩ : ∃ i, o1 = some (0, i) := ht
    obtain ⟨hX, hP⟩ := hP
    have hX := Eq.symm hX
    subst hX
    have F := F r10 w11 hP
    refine x_if_eq 69 dX8_readWord_29 rfl (fun hc => ?_) (fun hc => ?_)
    · have F := F.1 hc
      exact F
    · have F := F.2 hc
      refine x_iload dX8_readWord_32 rfl ?_
      refine x_iload_n dX8_readWord_34 rfl ?_
      obtain ⟨hz, F⟩ := F
      refine x_isub dX8_readWord_35 hz ?_
      refine x_bipush dX8_readWord_36 kb_8 (i32_of rfl) ?_
      refine x_icmp_ge 63 dX8_readWord_38 rfl (fun hc => ?_) (fun hc => ?_)
      · have F := F.1 hc
        obtain ⟨hz, F⟩ := F
        refine x_iinc [(2, 5), (0, a1), (1, x2), (3, 0), (0, (x4 + 1)), (3, 0)] dX8_readWord_63 rfl rfl (Nat.le_of_ble_eq_true rfl) hz ?_
        refine x_goto 5 dX8_readWord_66 rfl ?_
        exact F
      · have F := F.2 hc
        refine x_lload_n dX8_readWord_41 rfl ?_
        refine x_ldc2 (i := 32) 32 dX8_readWord_42 lcX8_80 rfl (i64_of rfl) ?_
        obtain ⟨hz, F⟩ := F
        refine x_lmul dX8_readWord_45 hz ?_
        refine x_aload_n dX8_readWord_46 rfl ?_
        refine x_getr (r' := 13) flX8_30 dX8_readWord_47 (sW5 hW) (gW5 hW) (rW5_4 hW) rfl (Nat.le_of_ble_eq_true rfl) ?_
        refine x_iload dX8_readWord_50 rfl ?_
        obtain ⟨P13, hC, F⟩ := F
        refine x_inv dX8_readWord_52 mlX8_47 hC (sW13 hW) (Nat.le_of_ble_eq_true rfl) (gW13 hW) rfl rfl (by omega) (Nat.zero_le _) (Nat.zero_le _) (Nat.le_of_ble_eq_true rfl) (fun o1 Y16 w15 ht hP => ?_)
        obtain ⟨r14, rfl⟩ : ∃ i, o1 = some (0, i) := ht
        obtain ⟨hX, hP⟩ := hP
        have hX := Eq.symm hX
        subst hX
        have F := F r14 w15 hP
        refine x_bipush dX8_readWord_55 kb_97 (i32_of rfl) ?_
        refine x_si32 (i := 1) rfl (fun hk1 => ?_)
        obtain ⟨hz, F⟩ := F
        have hz := hz hk1
        refine x_isub dX8_readWord_57 hz ?_
        refine x_iconst dX8_readWord_58 rfl (i32_of rfl) ?_
        refine x_si32 (i := 1) rfl (fun hk1 => ?_)
        obtain ⟨hz, F⟩ := F
        have hz := hz hk1
        refine x_iadd dX8_readWord_59 hz ?_
        refine x_i2l dX8_readWord_60 ?_
        obtain ⟨hz, F⟩ := F
        refine x_ladd dX8_readWord_61 hz ?_
        refine x_lstore_n [(2, 5), (0, a1), (1, ((x2 * 32) + ((r14 - 97) + 1))), (3, 0), (0, x4), (3, 0)] dX8_readWord_62 rfl (Nat.le_of_ble_eq_true rfl) ?_
        obtain ⟨hz, F⟩ := F
        refine x_iinc [(2, 5), (0, a1), (1, ((x2 * 32) + ((r14 - 97) + 1))), (3, 0), (0, (x4 + 1)), (3, 0)] dX8_readWord_63 rfl rfl (Nat.le_of_ble_eq_true rfl) hz ?_
        refine x_goto 5 dX8_readWord_66 rfl ?_
        exact F

set_option maxRecDepth 100000 in
set_option maxHeartbeats 4000000 in
theorem bX8_readWord_69 {d mc ms : Nat} {X : XX} {v : VV} {Q : QQ} (a1 : Int) (x2 : Int) (x4 : Int) (hd : 8 ≤ d) (hW : SW X) (F : i32 a1 → i32 x4 → ∃ P17 : Option AV → VV → Prop, Con mX6_size 0 0 0 [(2, 6)] X v (fun o X1 v1 => X1 = X ∧ P17 o v1) ∧ ∀ (r18 : Int) (w19 : VV), P17 (some (0, r18)) w19 → (((401 ≤ r18) → Ex mX8_readWord d 96 [(2, 5), (0, a1), (1, x2), (3, 0), (0, x4), (0, r18)] [] X w19 mc ms Q) ∧ ((r18 < 401) → (0 ≤ r18 ∧ r18 < 401) ∧ Ex mX8_readWord d 96 [(2, 5), (0, a1), (1, x2), (3, 0), (0, x4), (0, r18)] [] X (upd2 w19 12 r18 x2) mc ms Q))) : Ex mX8_readWord d 69 [(2, 5), (0, a1), (1, x2), (3, 0), (0, x4), (3, 0)] [] X v mc ms Q := by
  refine x_li32 (i := 1) rfl (fun ha1 => ?_)
  have F := F ha1
  refine x_li32 (i := 4) rfl (fun hx4 => ?_)
  have F := F hx4
  refine x_aload_n dX8_readWord_69 rfl ?_
  refine x_getr (r' := 6) flX8_14 dX8_readWord_70 (sW5 hW) (gW5 hW) (rW5_0 hW) rfl (Nat.le_of_ble_eq_true rfl) ?_
  obtain ⟨P17, hC, F⟩ := F
  refine x_inv dX8_readWord_73 mlX8_43 hC (sW6 hW) (Nat.le_of_ble_eq_true rfl) (gW6 hW) rfl rfl (by omega) (Nat.zero_le _) (Nat.zero_le _) (Nat.le_of_ble_eq_true rfl) (fun o1 Y20 w19 ht hP => ?_)
  obtain ⟨r18, rfl⟩ : ∃ i, o1 = some (0, i) := ht
  obtain ⟨hX, hP⟩ := hP
  have hX := Eq.symm hX
  subst hX
  have F := F r18 w19 hP
  refine x_istore [(2, 5), (0, a1), (1, x2), (3, 0), (0, x4), (0, r18)] dX8_readWord_76 rfl (Nat.le_of_ble_eq_true rfl) ?_
  refine x_iload dX8_readWord_78 rfl ?_
  refine x_aload_n dX8_readWord_80 rfl ?_
  refine x_getr (r' := 12) flX8_26 dX8_readWord_81 (sW5 hW) (gW5 hW) (rW5_3 hW) rfl (Nat.le_of_ble_eq_true rfl) ?_
  refine x_alen dX8_readWord_84 (sW12 hW) (by decide) (gW12 hW) (fun hlen => ?_)
  refine x_icmp_ge 96 dX8_readWord_85 rfl (fun hc => ?_) (fun hc => ?_)
  · have F := F.1 hc
    exact F
  · have F := F.2 hc
    refine x_aload_n dX8_readWord_88 rfl ?_
    refine x_getr (r' := 12) flX8_26 dX8_readWord_89 (sW5 hW) (gW5 hW) (rW5_3 hW) rfl (Nat.le_of_ble_eq_true rfl) ?_
    refine x_iload dX8_readWord_92 rfl ?_
    refine x_lload_n dX8_readWord_94 rfl ?_
    obtain ⟨hi, F⟩ := F
    refine x_last dX8_readWord_95 (sW12 hW) (gW12 hW) hi ?_
    exact F

set_option maxRecDepth 100000 in
set_option maxHeartbeats 4000000 in
theorem bX8_readWord_96 {d mc ms : Nat} {X : XX} {v : VV} {Q : QQ} (a1 : Int) (x2 : Int) (x4 : Int) (x5 : Int) (hd : 8 ≤ d) (hW : SW X) (F : i32 a1 → i32 x4 → i32 x5 → i32 (x4 - a1) ∧ ∃ P21 : Option AV → VV → Prop, Con mX8_kindOfWord 7 0 0 [(2, 5), (0, a1), (0, (x4 - a1))] X v (fun o X1 v1 => X1 = X ∧ P21 o v1) ∧ ∀ (r22 : Int) (w23 : VV), P21 (some (0, r22)) w23 → i32 (x4 - a1) ∧ ∃ P25 : Option AV → VV → Prop, Con mX8_put 1 0 0 [(2, 5), (0, r22), (0, a1), (0, (x4 - a1))] X w23 (fun o X1 v1 => X1 = X ∧ P25 o v1) ∧ ∀ (r26 : Int) (w27 : VV), P25 (some (0, r26)) w27 → Q (some (0, r26)) X w27) : Ex mX8_readWord d 96 [(2, 5), (0, a1), (1, x2), (3, 0), (0, x4), (0, x5)] [] X v mc ms Q := by
  refine x_li32 (i := 1) rfl (fun ha1 => ?_)
  have F := F ha1
  refine x_li32 (i := 4) rfl (fun hx4 => ?_)
  have F := F hx4
  refine x_li32 (i := 5) rfl (fun hx5 => ?_)
  have F := F hx5
  refine x_aload_n dX8_readWord_96 rfl ?_
  refine x_aload_n dX8_readWord_97 rfl ?_
  refine x_iload_n dX8_readWord_98 rfl ?_
  refine x_iload dX8_readWord_99 rfl ?_
  refine x_iload_n dX8_readWord_101 rfl ?_
  obtain ⟨hz, F⟩ := F
  refine x_isub dX8_readWord_102 hz ?_
  obtain ⟨P21, hC, F⟩ := F
  refine x_inv dX8_readWord_103 mlX8_82 hC (sW5 hW) (Nat.le_of_ble_eq_true rfl) (gW5 hW) rfl rfl (by omega) (Nat.zero_le _) (Nat.zero_le _) (Nat.le_of_ble_eq_true rfl) (fun o1 Y24 w23 ht hP => ?_)
  obtain ⟨r22, rfl⟩ : ∃ i, o1 = some (0, i) := ht
  obtain ⟨hX, hP⟩ := hP
  have hX := Eq.symm hX
  subst hX
  have F := F r22 w23 hP
  refine x_iload_n dX8_readWord_106 rfl ?_
  refine x_iload dX8_readWord_107 rfl ?_
  refine x_iload_n dX8_readWord_109 rfl ?_
  obtain ⟨hz, F⟩ := F
  refine x_isub dX8_readWord_110 hz ?_
  obtain ⟨P25, hC, F⟩ := F
  refine x_inv dX8_readWord_111 mlX8_64 hC (sW5 hW) (Nat.le_of_ble_eq_true rfl) (gW5 hW) rfl rfl (by omega) (Nat.zero_le _) (Nat.zero_le _) (Nat.le_of_ble_eq_true rfl) (fun o1 Y28 w27 ht hP => ?_)
  obtain ⟨r26, rfl⟩ : ∃ i, o1 = some (0, i) := ht
  obtain ⟨hX, hP⟩ := hP
  have hX := Eq.symm hX
  subst hX
  have F := F r26 w27 hP
  exact x_ret (some (0, r26)) rfl ⟨dX8_readWord_114, Or.inl rfl⟩ F

set_option maxRecDepth 100000 in
set_option maxHeartbeats 4000000 in
theorem bX8_readQuote_0 {d mc ms : Nat} {X : XX} {v : VV} {Q : QQ} (a1 : Int) (hd : 2 ≤ d) (hW : SW X) (F : i32 a1 → i32 (a1 + 1) ∧ Ex mX8_readQuote d 4 [(2, 5), (0, a1), (0, (a1 + 1))] [] X v mc ms Q) : Ex mX8_readQuote d 0 [(2, 5), (0, a1), (3, 0)] [] X v mc ms Q := by
  refine x_li32 (i := 1) rfl (fun ha1 => ?_)
  have F := F ha1
  refine x_iload_n dX8_readQuote_0 rfl ?_
  refine x_iconst dX8_readQuote_1 rfl (i32_of rfl) ?_
  obtain ⟨hz, F⟩ := F
  refine x_iadd dX8_readQuote_2 hz ?_
  refine x_istore_n [(2, 5), (0, a1), (0, (a1 + 1))] dX8_readQuote_3 rfl (Nat.le_of_ble_eq_true rfl) ?_
  exact F

set_option maxRecDepth 100000 in
set_option maxHeartbeats 4000000 in
theorem bX8_readQuote_4 {d mc ms : Nat} {X : XX} {v : VV} {Q : QQ} (a1 : Int) (x2 : Int) (hd : 2 ≤ d) (hW : SW X) (F : i32 a1 → i32 x2 → ∃ P1 : Option AV → VV → Prop, Con mX6_size 0 0 0 [(2, 13)] X v (fun o X1 v1 => X1 = X ∧ P1 o v1) ∧ ∀ (r2 : Int) (w3 : VV), P1 (some (0, r2)) w3 → (((r2 ≤ x2) → Ex mX8_readQuote d 48 [(2, 5), (0, a1), (0, x2)] [] X w3 mc ms Q) ∧ ((x2 < r2) → ∃ P5 : Option AV → VV → Prop, Con mX6_get 0 0 0 [(2, 13), (0, x2)] X w3 (fun o X1 v1 => X1 = X ∧ P5 o v1) ∧ ∀ (r6 : Int) (w7 : VV), P5 (some (0, r6)) w7 → ∃ P9 : Option AV → VV → Prop, Con mX8_isLetter 0 0 0 [(0, r6)] X w7 (fun o X1 v1 => X1 = X ∧ P9 o v1) ∧ ∀ (r10 : Int) (w11 : VV), P9 (some (0, r10)) w11 → (((¬ r10 = 0) → i32 (x2 + 1) ∧ Ex mX8_readQuote d 4 [(2, 5), (0, a1), (0, (x2 + 1))] [] X w11 mc ms Q) ∧ ((r10 = 0) → ∃ P13 : Option AV → VV → Prop, Con mX6_get 0 0 0 [(2, 13), (0, x2)] X w11 (fun o X1 v1 => X1 = X ∧ P13 o v1) ∧ ∀ (r14 : Int) (w15 : VV), P13 (some (0, r14)) w15 → (((¬ r14 = 32) → Ex mX8_readQuote d 48 [(2, 5), (0, a1), (0, x2)] [] X w15 mc ms Q) ∧ ((r14 = 32) → i32 (x2 + 1) ∧ Ex mX8_readQuote d 4 [(2, 5), (0, a1), (0, (x2 + 1))] [] X w15 mc ms Q))))))) : Ex mX8_readQuote d 4 [(2, 5), (0, a1), (0, x2)] [] X v mc ms Q := by
  refine x_li32 (i := 1) rfl (fun ha1 => ?_)
  have F := F ha1
  refine x_li32 (i := 2) rfl (fun hx2 => ?_)
  have F := F hx2
  refine x_iload_n dX8_readQuote_4 rfl ?_
  refine x_aload_n dX8_readQuote_5 rfl ?_
  refine x_getr (r' := 13) flX8_30 dX8_readQuote_6 (sW5 hW) (gW5 hW) (rW5_4 hW) rfl (Nat.le_of_ble_eq_true rfl) ?_
  obtain ⟨P1, hC, F⟩ := F
  refine x_inv dX8_readQuote_9 mlX8_43 hC (sW13 hW) (Nat.le_of_ble_eq_true rfl) (gW13 hW) rfl rfl (by omega) (Nat.zero_le _) (Nat.zero_le _) (Nat.le_of_ble_eq_true rfl) (fun o1 Y4 w3 ht hP => ?_)
  obtain ⟨r2, rfl⟩ : ∃ i, o1 = some (0, i) := ht
  obtain ⟨hX, hP⟩ := hP
  have hX := Eq.symm hX
  subst hX
  have F := F r2 w3 hP
  refine x_icmp_ge 48 dX8_readQuote_12 rfl (fun hc => ?_) (fun hc => ?_)
  · have F := F.1 hc
    exact F
  · have F := F.2 hc
    refine x_aload_n dX8_readQuote_15 rfl ?_
    refine x_getr (r' := 13) flX8_30 dX8_readQuote_16 (sW5 hW) (gW5 hW) (rW5_4 hW) rfl (Nat.le_of_ble_eq_true rfl) ?_
    refine x_iload_n dX8_readQuote_19 rfl ?_
    obtain ⟨P5, hC, F⟩ := F
    refine x_inv dX8_readQuote_20 mlX8_47 hC (sW13 hW) (Nat.le_of_ble_eq_true rfl) (gW13 hW) rfl rfl (by omega) (Nat.zero_le _) (Nat.zero_le _) (Nat.le_of_ble_eq_true rfl) (fun o1 Y8 w7 ht hP => ?_)
    obtain ⟨r6, rfl⟩ : ∃ i, o1 = some (0, i) := ht
    obtain ⟨hX, hP⟩ := hP
    have hX := Eq.symm hX
    subst hX
    have F := F r6 w7 hP
    obtain ⟨P9, hC, F⟩ := F
    refine x_static dX8_readQuote_23 mlX8_68 hC rfl rfl (by omega) (Nat.zero_le _) (Nat.zero_le _) (Nat.le_of_ble_eq_true rfl) (fun o1 Y12 w11 ht hP => ?_)
    obtain ⟨r10, rfl⟩ : ∃ i, o1 = some (0, i) := ht
    obtain ⟨hX, hP⟩ := hP
    have hX := Eq.symm hX
    subst hX
    have F := F r10 w11 hP
    refine x_if_ne 42 dX8_readQuote_26 rfl (fun hc => ?_) (fun hc => ?_)
    · have F := F.1 hc
      obtain ⟨hz, F⟩ := F
      refine x_iinc [(2, 5), (0, a1), (0, (x2 + 1))] dX8_readQuote_42 rfl rfl (Nat.le_of_ble_eq_true rfl) hz ?_
      refine x_goto 4 dX8_readQuote_45 rfl ?_
      exact F
    · have F := F.2 hc
      refine x_aload_n dX8_readQuote_29 rfl ?_
      refine x_getr (r' := 13) flX8_30 dX8_readQuote_30 (sW5 hW) (gW5 hW) (rW5_4 hW) rfl (Nat.le_of_ble_eq_true rfl) ?_
      refine x_iload_n dX8_readQuote_33 rfl ?_
      obtain ⟨P13, hC, F⟩ := F
      refine x_inv dX8_readQuote_34 mlX8_47 hC (sW13 hW) (Nat.le_of_ble_eq_true rfl) (gW13 hW) rfl rfl (by omega) (Nat.zero_le _) (Nat.zero_le _) (Nat.le_of_ble_eq_true rfl) (fun o1 Y16 w15 ht hP => ?_)
      obtain ⟨r14, rfl⟩ : ∃ i, o1 = some (0, i) := ht
      obtain ⟨hX, hP⟩ := hP
      have hX := Eq.symm hX
      subst hX
      have F := F r14 w15 hP
      refine x_bipush dX8_readQuote_37 kb_32 (i32_of rfl) ?_
      refine x_icmp_ne 48 dX8_readQuote_39 rfl (fun hc => ?_) (fun hc => ?_)
      · have F := F.1 hc
        exact F
      · have F := F.2 hc
        obtain ⟨hz, F⟩ := F
        refine x_iinc [(2, 5), (0, a1), (0, (x2 + 1))] dX8_readQuote_42 rfl rfl (Nat.le_of_ble_eq_true rfl) hz ?_
        refine x_goto 4 dX8_readQuote_45 rfl ?_
        exact F

set_option maxRecDepth 100000 in
set_option maxHeartbeats 4000000 in
theorem bX8_readQuote_48 {d mc ms : Nat} {X : XX} {v : VV} {Q : QQ} (a1 : Int) (x2 : Int) (hd : 2 ≤ d) (hW : SW X) (F : i32 a1 → i32 x2 → ∃ P17 : Option AV → VV → Prop, Con mX6_get 0 0 0 [(2, 13), (0, x2)] X v (fun o X1 v1 => X1 = X ∧ P17 o v1) ∧ ∀ (r18 : Int) (w19 : VV), P17 (some (0, r18)) w19 → (((¬ r18 = 39) → i32 (x2 - a1) ∧ ∃ P21 : Option AV → VV → Prop, Con mX8_put 1 0 0 [(2, 5), (0, 259), (0, a1), (0, (x2 - a1))] X w19 (fun o X1 v1 => X1 = X ∧ P21 o v1) ∧ ∀ (r22 : Int) (w23 : VV), P21 (some (0, r22)) w23 → Q (some (0, r22)) X w23) ∧ ((r18 = 39) → i32 (x2 + 1) ∧ (i32 (x2 + 1) → i32 ((x2 + 1) - a1)) ∧ ∃ P25 : Option AV → VV → Prop, Con mX8_put 1 0 0 [(2, 5), (0, 258), (0, a1), (0, ((x2 + 1) - a1))] X w19 (fun o X1 v1 => X1 = X ∧ P25 o v1) ∧ ∀ (r26 : Int) (w27 : VV), P25 (some (0, r26)) w27 → Q (some (0, r26)) X w27))) : Ex mX8_readQuote d 48 [(2, 5), (0, a1), (0, x2)] [] X v mc ms Q := by
  refine x_li32 (i := 1) rfl (fun ha1 => ?_)
  have F := F ha1
  refine x_li32 (i := 2) rfl (fun hx2 => ?_)
  have F := F hx2
  refine x_aload_n dX8_readQuote_48 rfl ?_
  refine x_getr (r' := 13) flX8_30 dX8_readQuote_49 (sW5 hW) (gW5 hW) (rW5_4 hW) rfl (Nat.le_of_ble_eq_true rfl) ?_
  refine x_iload_n dX8_readQuote_52 rfl ?_
  obtain ⟨P17, hC, F⟩ := F
  refine x_inv dX8_readQuote_53 mlX8_47 hC (sW13 hW) (Nat.le_of_ble_eq_true rfl) (gW13 hW) rfl rfl (by omega) (Nat.zero_le _) (Nat.zero_le _) (Nat.le_of_ble_eq_true rfl) (fun o1 Y20 w19 ht hP => ?_)
  obtain ⟨r18, rfl⟩ : ∃ i, o1 = some (0, i) := ht
  obtain ⟨hX, hP⟩ := hP
  have hX := Eq.symm hX
  subst hX
  have F := F r18 w19 hP
  refine x_bipush dX8_readQuote_56 kb_39 (i32_of rfl) ?_
  refine x_icmp_ne 75 dX8_readQuote_58 rfl (fun hc => ?_) (fun hc => ?_)
  · have F := F.1 hc
    refine x_aload_n dX8_readQuote_75 rfl ?_
    refine x_sipush dX8_readQuote_76 ks_259 (i32_of rfl) ?_
    refine x_iload_n dX8_readQuote_79 rfl ?_
    refine x_iload_n dX8_readQuote_80 rfl ?_
    refine x_iload_n dX8_readQuote_81 rfl ?_
    obtain ⟨hz, F⟩ := F
    refine x_isub dX8_readQuote_82 hz ?_
    obtain ⟨P21, hC, F⟩ := F
    refine x_inv dX8_readQuote_83 mlX8_64 hC (sW5 hW) (Nat.le_of_ble_eq_true rfl) (gW5 hW) rfl rfl (by omega) (Nat.zero_le _) (Nat.zero_le _) (Nat.le_of_ble_eq_true rfl) (fun o1 Y24 w23 ht hP => ?_)
    obtain ⟨r22, rfl⟩ : ∃ i, o1 = some (0, i) := ht
    obtain ⟨hX, hP⟩ := hP
    have hX := Eq.symm hX
    subst hX
    have F := F r22 w23 hP
    exact x_ret (some (0, r22)) rfl ⟨dX8_readQuote_86, Or.inl rfl⟩ F
  · have F := F.2 hc
    refine x_aload_n dX8_readQuote_61 rfl ?_
    refine x_sipush dX8_readQuote_62 ks_258 (i32_of rfl) ?_
    refine x_iload_n dX8_readQuote_65 rfl ?_
    refine x_iload_n dX8_readQuote_66 rfl ?_
    refine x_iconst dX8_readQuote_67 rfl (i32_of rfl) ?_
    obtain ⟨hz, F⟩ := F
    refine x_iadd dX8_readQuote_68 hz ?_
    refine x_iload_n dX8_readQuote_69 rfl ?_
    refine x_si32 (i := 1) rfl (fun hk1 => ?_)
    obtain ⟨hz, F⟩ := F
    have hz := hz hk1
    refine x_isub dX8_readQuote_70 hz ?_
    obtain ⟨P25, hC, F⟩ := F
    refine x_inv dX8_readQuote_71 mlX8_64 hC (sW5 hW) (Nat.le_of_ble_eq_true rfl) (gW5 hW) rfl rfl (by omega) (Nat.zero_le _) (Nat.zero_le _) (Nat.le_of_ble_eq_true rfl) (fun o1 Y28 w27 ht hP => ?_)
    obtain ⟨r26, rfl⟩ : ∃ i, o1 = some (0, i) := ht
    obtain ⟨hX, hP⟩ := hP
    have hX := Eq.symm hX
    subst hX
    have F := F r26 w27 hP
    exact x_ret (some (0, r26)) rfl ⟨dX8_readQuote_74, Or.inl rfl⟩ F

set_option maxRecDepth 100000 in
set_option maxHeartbeats 4000000 in
theorem bX8_put_0 {d mc ms : Nat} {X : XX} {v : VV} {Q : QQ} (a1 : Int) (a2 : Int) (a3 : Int) (hd : 1 ≤ d) (hW : SW X) (F : i32 a1 → i32 a2 → i32 a3 → ∃ P1 : Option AV → VV → Prop, Con mX6_add 0 0 0 [(2, 6), (0, a1)] X v (fun o X1 v1 => X1 = X ∧ P1 o v1) ∧ ∀ (w3 : VV), P1 none w3 → ∃ P5 : Option AV → VV → Prop, Con mX6_add 0 0 0 [(2, 8), (0, a2)] X w3 (fun o X1 v1 => X1 = X ∧ P5 o v1) ∧ ∀ (w7 : VV), P5 none w7 → ∃ P9 : Option AV → VV → Prop, Con mX6_add 0 0 0 [(2, 10), (0, a3)] X w7 (fun o X1 v1 => X1 = X ∧ P9 o v1) ∧ ∀ (w11 : VV), P9 none w11 → Q (some (0, a3)) X w11) : Ex mX8_put d 0 [(2, 5), (0, a1), (0, a2), (0, a3)] [] X v mc ms Q := by
  refine x_li32 (i := 1) rfl (fun ha1 => ?_)
  have F := F ha1
  refine x_li32 (i := 2) rfl (fun ha2 => ?_)
  have F := F ha2
  refine x_li32 (i := 3) rfl (fun ha3 => ?_)
  have F := F ha3
  refine x_aload_n dX8_put_0 rfl ?_
  refine x_getr (r' := 6) flX8_14 dX8_put_1 (sW5 hW) (gW5 hW) (rW5_0 hW) rfl (Nat.le_of_ble_eq_true rfl) ?_
  refine x_iload_n dX8_put_4 rfl ?_
  obtain ⟨P1, hC, F⟩ := F
  refine x_inv dX8_put_5 mlX8_85 hC (sW6 hW) (Nat.le_of_ble_eq_true rfl) (gW6 hW) rfl rfl (by omega) (Nat.zero_le _) (Nat.zero_le _) (Nat.le_of_ble_eq_true rfl) (fun o1 Y4 w3 ht hP => ?_)
  obtain rfl : o1 = none := ht
  obtain ⟨hX, hP⟩ := hP
  have hX := Eq.symm hX
  subst hX
  have F := F w3 hP
  refine x_aload_n dX8_put_8 rfl ?_
  refine x_getr (r' := 8) flX8_20 dX8_put_9 (sW5 hW) (gW5 hW) (rW5_1 hW) rfl (Nat.le_of_ble_eq_true rfl) ?_
  refine x_iload_n dX8_put_12 rfl ?_
  obtain ⟨P5, hC, F⟩ := F
  refine x_inv dX8_put_13 mlX8_85 hC (sW8 hW) (Nat.le_of_ble_eq_true rfl) (gW8 hW) rfl rfl (by omega) (Nat.zero_le _) (Nat.zero_le _) (Nat.le_of_ble_eq_true rfl) (fun o1 Y8 w7 ht hP => ?_)
  obtain rfl : o1 = none := ht
  obtain ⟨hX, hP⟩ := hP
  have hX := Eq.symm hX
  subst hX
  have F := F w7 hP
  refine x_aload_n dX8_put_16 rfl ?_
  refine x_getr (r' := 10) flX8_23 dX8_put_17 (sW5 hW) (gW5 hW) (rW5_2 hW) rfl (Nat.le_of_ble_eq_true rfl) ?_
  refine x_iload_n dX8_put_20 rfl ?_
  obtain ⟨P9, hC, F⟩ := F
  refine x_inv dX8_put_21 mlX8_85 hC (sW10 hW) (Nat.le_of_ble_eq_true rfl) (gW10 hW) rfl rfl (by omega) (Nat.zero_le _) (Nat.zero_le _) (Nat.le_of_ble_eq_true rfl) (fun o1 Y12 w11 ht hP => ?_)
  obtain rfl : o1 = none := ht
  obtain ⟨hX, hP⟩ := hP
  have hX := Eq.symm hX
  subst hX
  have F := F w11 hP
  refine x_iload_n dX8_put_24 rfl ?_
  exact x_ret (some (0, a3)) rfl ⟨dX8_put_25, Or.inl rfl⟩ F

set_option maxRecDepth 100000 in
set_option maxHeartbeats 4000000 in
theorem bX8_wordingFrom_0 {d mc ms : Nat} {X : XX} {v : VV} {Q : QQ} (a1 : Int) (hd : 4 ≤ d) (hW : SW X) (F : i32 a1 → ∃ P1 : Option AV → VV → Prop, Con mX6_cutTo 0 0 0 [(2, 15), (0, 0)] X v (fun o X1 v1 => X1 = X ∧ P1 o v1) ∧ ∀ (w3 : VV), P1 none w3 → Ex mX8_wordingFrom d 10 [(2, 5), (0, a1), (0, a1), (3, 0), (3, 0)] [] X w3 mc ms Q) : Ex mX8_wordingFrom d 0 [(2, 5), (0, a1), (3, 0), (3, 0), (3, 0)] [] X v mc ms Q := by
  refine x_li32 (i := 1) rfl (fun ha1 => ?_)
  have F := F ha1
  refine x_aload_n dX8_wordingFrom_0 rfl ?_
  refine x_getr (r' := 15) flX8_33 dX8_wordingFrom_1 (sW5 hW) (gW5 hW) (rW5_5 hW) rfl (Nat.le_of_ble_eq_true rfl) ?_
  refine x_iconst dX8_wordingFrom_4 rfl (i32_of rfl) ?_
  obtain ⟨P1, hC, F⟩ := F
  refine x_inv dX8_wordingFrom_5 mlX8_36 hC (sW15 hW) (Nat.le_of_ble_eq_true rfl) (gW15 hW) rfl rfl (by omega) (Nat.zero_le _) (Nat.zero_le _) (Nat.le_of_ble_eq_true rfl) (fun o1 Y4 w3 ht hP => ?_)
  obtain rfl : o1 = none := ht
  obtain ⟨hX, hP⟩ := hP
  have hX := Eq.symm hX
  subst hX
  have F := F w3 hP
  refine x_iload_n dX8_wordingFrom_8 rfl ?_
  refine x_istore_n [(2, 5), (0, a1), (0, a1), (3, 0), (3, 0)] dX8_wordingFrom_9 rfl (Nat.le_of_ble_eq_true rfl) ?_
  exact F

set_option maxRecDepth 100000 in
set_option maxHeartbeats 4000000 in
theorem bX8_wordingFrom_10 {d mc ms : Nat} {X : XX} {v : VV} {Q : QQ} (a1 : Int) (x2 : Int) (hd : 4 ≤ d) (hW : SW X) (F : i32 a1 → i32 x2 → ∃ P5 : Option AV → VV → Prop, Con mX6_size 0 0 0 [(2, 6)] X v (fun o X1 v1 => X1 = X ∧ P5 o v1) ∧ ∀ (r6 : Int) (w7 : VV), P5 (some (0, r6)) w7 → (((r6 ≤ x2) → ∃ c13 s14 : Nat, c13 ≤ mc ∧ s14 ≤ ms ∧ ∃ P9 : QQ, Con mX6_copy 3 c13 s14 [(2, 15)] X w7 P9 ∧ ∀ (r10 : Int) (Y12 : XX) (w11 : VV), P9 (some (2, r10)) Y12 w11 → SW Y12 ∧ Q (some (2, r10)) Y12 w11) ∧ ((x2 < r6) → ∃ P16 : Option AV → VV → Prop, Con mX6_get 0 0 0 [(2, 8), (0, x2)] X w7 (fun o X1 v1 => X1 = X ∧ P16 o v1) ∧ ∀ (r17 : Int) (w18 : VV), P16 (some (0, r17)) w18 → (((x2 ≤ a1) → Ex mX8_wordingFrom d 83 [(2, 5), (0, a1), (0, x2), (0, r17), (0, 0)] [] X w18 mc ms Q) ∧ ((a1 < x2) → ∃ P20 : Option AV → VV → Prop, Con mX6_get 0 0 0 [(2, 13), (0, r17)] X w18 (fun o X1 v1 => X1 = X ∧ P20 o v1) ∧ ∀ (r21 : Int) (w22 : VV), P20 (some (0, r21)) w22 → ∃ P24 : Option AV → VV → Prop, Con mX8_isLetter 0 0 0 [(0, r21)] X w22 (fun o X1 v1 => X1 = X ∧ P24 o v1) ∧ ∀ (r25 : Int) (w26 : VV), P24 (some (0, r25)) w26 → (((r25 = 0) → Ex mX8_wordingFrom d 83 [(2, 5), (0, a1), (0, x2), (0, r17), (0, 0)] [] X w26 mc ms Q) ∧ ((¬ r25 = 0) → ∃ P28 : Option AV → VV → Prop, Con mX6_size 0 0 0 [(2, 15)] X w26 (fun o X1 v1 => X1 = X ∧ P28 o v1) ∧ ∀ (r29 : Int) (w30 : VV), P28 (some (0, r29)) w30 → (i32 r29 → i32 (r29 - 1)) ∧ ∃ P32 : Option AV → VV → Prop, Con mX6_get 0 0 0 [(2, 15), (0, (r29 - 1))] X w30 (fun o X1 v1 => X1 = X ∧ P32 o v1) ∧ ∀ (r33 : Int) (w34 : VV), P32 (some (0, r33)) w34 → ∃ P36 : Option AV → VV → Prop, Con mX8_isLetter 0 0 0 [(0, r33)] X w34 (fun o X1 v1 => X1 = X ∧ P36 o v1) ∧ ∀ (r37 : Int) (w38 : VV), P36 (some (0, r37)) w38 → (((r37 = 0) → Ex mX8_wordingFrom d 83 [(2, 5), (0, a1), (0, x2), (0, r17), (0, 0)] [] X w38 mc ms Q) ∧ ((¬ r37 = 0) → ∃ P40 : Option AV → VV → Prop, Con mX6_add 0 0 0 [(2, 15), (0, 32)] X w38 (fun o X1 v1 => X1 = X ∧ P40 o v1) ∧ ∀ (w42 : VV), P40 none w42 → Ex mX8_wordingFrom d 83 [(2, 5), (0, a1), (0, x2), (0, r17), (0, 0)] [] X w42 mc ms Q))))))))) : Ex mX8_wordingFrom d 10 [(2, 5), (0, a1), (0, x2), (3, 0), (3, 0)] [] X v mc ms Q := by
  refine x_li32 (i := 1) rfl (fun ha1 => ?_)
  have F := F ha1
  refine x_li32 (i := 2) rfl (fun hx2 => ?_)
  have F := F hx2
  refine x_iload_n dX8_wordingFrom_10 rfl ?_
  refine x_aload_n dX8_wordingFrom_11 rfl ?_
  refine x_getr (r' := 6) flX8_14 dX8_wordingFrom_12 (sW5 hW) (gW5 hW) (rW5_0 hW) rfl (Nat.le_of_ble_eq_true rfl) ?_
  obtain ⟨P5, hC, F⟩ := F
  refine x_inv dX8_wordingFrom_15 mlX8_43 hC (sW6 hW) (Nat.le_of_ble_eq_true rfl) (gW6 hW) rfl rfl (by omega) (Nat.zero_le _) (Nat.zero_le _) (Nat.le_of_ble_eq_true rfl) (fun o1 Y8 w7 ht hP => ?_)
  obtain ⟨r6, rfl⟩ : ∃ i, o1 = some (0, i) := ht
  obtain ⟨hX, hP⟩ := hP
  have hX := Eq.symm hX
  subst hX
  have F := F r6 w7 hP
  refine x_icmp_ge 126 dX8_wordingFrom_18 rfl (fun hc => ?_) (fun hc => ?_)
  · have F := F.1 hc
    refine x_aload_n dX8_wordingFrom_126 rfl ?_
    refine x_getr (r' := 15) flX8_33 dX8_wordingFrom_127 (sW5 hW) (gW5 hW) (rW5_5 hW) rfl (Nat.le_of_ble_eq_true rfl) ?_
    obtain ⟨c13, s14, hc1, hs1_, F⟩ := F
    obtain ⟨P9, hC, F⟩ := F
    refine x_inv dX8_wordingFrom_130 mlX8_115 hC (sW15 hW) (Nat.le_of_ble_eq_true rfl) (gW15 hW) rfl rfl (by omega) hc1 hs1_ (Nat.le_of_ble_eq_true rfl) (fun o1 Y12 w11 ht hP => ?_)
    obtain ⟨r10, rfl⟩ : ∃ i, o1 = some (2, i) := ht
    obtain ⟨hW15, F⟩ := F r10 Y12 w11 hP
    exact x_ret (some (2, r10)) rfl ⟨dX8_wordingFrom_133, Or.inl ⟨_, rfl⟩⟩ F
  · have F := F.2 hc
    refine x_aload_n dX8_wordingFrom_21 rfl ?_
    refine x_getr (r' := 8) flX8_20 dX8_wordingFrom_22 (sW5 hW) (gW5 hW) (rW5_1 hW) rfl (Nat.le_of_ble_eq_true rfl) ?_
    refine x_iload_n dX8_wordingFrom_25 rfl ?_
    obtain ⟨P16, hC, F⟩ := F
    refine x_inv dX8_wordingFrom_26 mlX8_47 hC (sW8 hW) (Nat.le_of_ble_eq_true rfl) (gW8 hW) rfl rfl (by omega) (Nat.zero_le _) (Nat.zero_le _) (Nat.le_of_ble_eq_true rfl) (fun o1 Y19 w18 ht hP => ?_)
    obtain ⟨r17, rfl⟩ : ∃ i, o1 = some (0, i) := ht
    obtain ⟨hX, hP⟩ := hP
    have hX := Eq.symm hX
    subst hX
    have F := F r17 w18 hP
    refine x_istore_n [(2, 5), (0, a1), (0, x2), (0, r17), (3, 0)] dX8_wordingFrom_29 rfl (Nat.le_of_ble_eq_true rfl) ?_
    refine x_iload_n dX8_wordingFrom_30 rfl ?_
    refine x_iload_n dX8_wordingFrom_31 rfl ?_
    refine x_icmp_le 80 dX8_wordingFrom_32 rfl (fun hc => ?_) (fun hc => ?_)
    · have F := F.1 hc
      refine x_iconst dX8_wordingFrom_80 rfl (i32_of rfl) ?_
      refine x_istore [(2, 5), (0, a1), (0, x2), (0, r17), (0, 0)] dX8_wordingFrom_81 rfl (Nat.le_of_ble_eq_true rfl) ?_
      exact F
    · have F := F.2 hc
      refine x_aload_n dX8_wordingFrom_35 rfl ?_
      refine x_getr (r' := 13) flX8_30 dX8_wordingFrom_36 (sW5 hW) (gW5 hW) (rW5_4 hW) rfl (Nat.le_of_ble_eq_true rfl) ?_
      refine x_iload_n dX8_wordingFrom_39 rfl ?_
      obtain ⟨P20, hC, F⟩ := F
      refine x_inv dX8_wordingFrom_40 mlX8_47 hC (sW13 hW) (Nat.le_of_ble_eq_true rfl) (gW13 hW) rfl rfl (by omega) (Nat.zero_le _) (Nat.zero_le _) (Nat.le_of_ble_eq_true rfl) (fun o1 Y23 w22 ht hP => ?_)
      obtain ⟨r21, rfl⟩ : ∃ i, o1 = some (0, i) := ht
      obtain ⟨hX, hP⟩ := hP
      have hX := Eq.symm hX
      subst hX
      have F := F r21 w22 hP
      obtain ⟨P24, hC, F⟩ := F
      refine x_static dX8_wordingFrom_43 mlX8_68 hC rfl rfl (by omega) (Nat.zero_le _) (Nat.zero_le _) (Nat.le_of_ble_eq_true rfl) (fun o1 Y27 w26 ht hP => ?_)
      obtain ⟨r25, rfl⟩ : ∃ i, o1 = some (0, i) := ht
      obtain ⟨hX, hP⟩ := hP
      have hX := Eq.symm hX
      subst hX
      have F := F r25 w26 hP
      refine x_if_eq 80 dX8_wordingFrom_46 rfl (fun hc => ?_) (fun hc => ?_)
      · have F := F.1 hc
        refine x_iconst dX8_wordingFrom_80 rfl (i32_of rfl) ?_
        refine x_istore [(2, 5), (0, a1), (0, x2), (0, r17), (0, 0)] dX8_wordingFrom_81 rfl (Nat.le_of_ble_eq_true rfl) ?_
        exact F
      · have F := F.2 hc
        refine x_aload_n dX8_wordingFrom_49 rfl ?_
        refine x_getr (r' := 15) flX8_33 dX8_wordingFrom_50 (sW5 hW) (gW5 hW) (rW5_5 hW) rfl (Nat.le_of_ble_eq_true rfl) ?_
        refine x_aload_n dX8_wordingFrom_53 rfl ?_
        refine x_getr (r' := 15) flX8_33 dX8_wordingFrom_54 (sW5 hW) (gW5 hW) (rW5_5 hW) rfl (Nat.le_of_ble_eq_true rfl) ?_
        obtain ⟨P28, hC, F⟩ := F
        refine x_inv dX8_wordingFrom_57 mlX8_43 hC (sW15 hW) (Nat.le_of_ble_eq_true rfl) (gW15 hW) rfl rfl (by omega) (Nat.zero_le _) (Nat.zero_le _) (Nat.le_of_ble_eq_true rfl) (fun o1 Y31 w30 ht hP => ?_)
        obtain ⟨r29, rfl⟩ : ∃ i, o1 = some (0, i) := ht
        obtain ⟨hX, hP⟩ := hP
        have hX := Eq.symm hX
        subst hX
        have F := F r29 w30 hP
        refine x_iconst dX8_wordingFrom_60 rfl (i32_of rfl) ?_
        refine x_si32 (i := 1) rfl (fun hk1 => ?_)
        obtain ⟨hz, F⟩ := F
        have hz := hz hk1
        refine x_isub dX8_wordingFrom_61 hz ?_
        obtain ⟨P32, hC, F⟩ := F
        refine x_inv dX8_wordingFrom_62 mlX8_47 hC (sW15 hW) (Nat.le_of_ble_eq_true rfl) (gW15 hW) rfl rfl (by omega) (Nat.zero_le _) (Nat.zero_le _) (Nat.le_of_ble_eq_true rfl) (fun o1 Y35 w34 ht hP => ?_)
        obtain ⟨r33, rfl⟩ : ∃ i, o1 = some (0, i) := ht
        obtain ⟨hX, hP⟩ := hP
        have hX := Eq.symm hX
        subst hX
        have F := F r33 w34 hP
        obtain ⟨P36, hC, F⟩ := F
        refine x_static dX8_wordingFrom_65 mlX8_68 hC rfl rfl (by omega) (Nat.zero_le _) (Nat.zero_le _) (Nat.le_of_ble_eq_true rfl) (fun o1 Y39 w38 ht hP => ?_)
        obtain ⟨r37, rfl⟩ : ∃ i, o1 = some (0, i) := ht
        obtain ⟨hX, hP⟩ := hP
        have hX := Eq.symm hX
        subst hX
        have F := F r37 w38 hP
        refine x_if_eq 80 dX8_wordingFrom_68 rfl (fun hc => ?_) (fun hc => ?_)
        · have F := F.1 hc
          refine x_iconst dX8_wordingFrom_80 rfl (i32_of rfl) ?_
          refine x_istore [(2, 5), (0, a1), (0, x2), (0, r17), (0, 0)] dX8_wordingFrom_81 rfl (Nat.le_of_ble_eq_true rfl) ?_
          exact F
        · have F := F.2 hc
          refine x_aload_n dX8_wordingFrom_71 rfl ?_
          refine x_getr (r' := 15) flX8_33 dX8_wordingFrom_72 (sW5 hW) (gW5 hW) (rW5_5 hW) rfl (Nat.le_of_ble_eq_true rfl) ?_
          refine x_bipush dX8_wordingFrom_75 kb_32 (i32_of rfl) ?_
          obtain ⟨P40, hC, F⟩ := F
          refine x_inv dX8_wordingFrom_77 mlX8_85 hC (sW15 hW) (Nat.le_of_ble_eq_true rfl) (gW15 hW) rfl rfl (by omega) (Nat.zero_le _) (Nat.zero_le _) (Nat.le_of_ble_eq_true rfl) (fun o1 Y43 w42 ht hP => ?_)
          obtain rfl : o1 = none := ht
          obtain ⟨hX, hP⟩ := hP
          have hX := Eq.symm hX
          subst hX
          have F := F w42 hP
          refine x_iconst dX8_wordingFrom_80 rfl (i32_of rfl) ?_
          refine x_istore [(2, 5), (0, a1), (0, x2), (0, r17), (0, 0)] dX8_wordingFrom_81 rfl (Nat.le_of_ble_eq_true rfl) ?_
          exact F

set_option maxRecDepth 100000 in
set_option maxHeartbeats 4000000 in
theorem bX8_wordingFrom_83 {d mc ms : Nat} {X : XX} {v : VV} {Q : QQ} (a1 : Int) (x2 : Int) (x3 : Int) (x4 : Int) (hd : 4 ≤ d) (hW : SW X) (F : i32 a1 → i32 x2 → i32 x3 → i32 x4 → ∃ P44 : Option AV → VV → Prop, Con mX6_get 0 0 0 [(2, 10), (0, x2)] X v (fun o X1 v1 => X1 = X ∧ P44 o v1) ∧ ∀ (r45 : Int) (w46 : VV), P44 (some (0, r45)) w46 → (((r45 ≤ x4) → i32 (x2 + 1) ∧ Ex mX8_wordingFrom d 10 [(2, 5), (0, a1), (0, (x2 + 1)), (3, 0), (3, 0)] [] X w46 mc ms Q) ∧ ((x4 < r45) → i32 (x3 + x4) ∧ ∃ P48 : Option AV → VV → Prop, Con mX6_get 0 0 0 [(2, 13), (0, (x3 + x4))] X w46 (fun o X1 v1 => X1 = X ∧ P48 o v1) ∧ ∀ (r49 : Int) (w50 : VV), P48 (some (0, r49)) w50 → ∃ P52 : Option AV → VV → Prop, Con mX6_add 0 0 0 [(2, 15), (0, r49)] X w50 (fun o X1 v1 => X1 = X ∧ P52 o v1) ∧ ∀ (w54 : VV), P52 none w54 → i32 (x4 + 1) ∧ Ex mX8_wordingFrom d 83 [(2, 5), (0, a1), (0, x2), (0, x3), (0, (x4 + 1))] [] X w54 mc ms Q))) : Ex mX8_wordingFrom d 83 [(2, 5), (0, a1), (0, x2), (0, x3), (0, x4)] [] X v mc ms Q := by
  refine x_li32 (i := 1) rfl (fun ha1 => ?_)
  have F := F ha1
  refine x_li32 (i := 2) rfl (fun hx2 => ?_)
  have F := F hx2
  refine x_li32 (i := 3) rfl (fun hx3 => ?_)
  have F := F hx3
  refine x_li32 (i := 4) rfl (fun hx4 => ?_)
  have F := F hx4
  refine x_iload dX8_wordingFrom_83 rfl ?_
  refine x_aload_n dX8_wordingFrom_85 rfl ?_
  refine x_getr (r' := 10) flX8_23 dX8_wordingFrom_86 (sW5 hW) (gW5 hW) (rW5_2 hW) rfl (Nat.le_of_ble_eq_true rfl) ?_
  refine x_iload_n dX8_wordingFrom_89 rfl ?_
  obtain ⟨P44, hC, F⟩ := F
  refine x_inv dX8_wordingFrom_90 mlX8_47 hC (sW10 hW) (Nat.le_of_ble_eq_true rfl) (gW10 hW) rfl rfl (by omega) (Nat.zero_le _) (Nat.zero_le _) (Nat.le_of_ble_eq_true rfl) (fun o1 Y47 w46 ht hP => ?_)
  obtain ⟨r45, rfl⟩ : ∃ i, o1 = some (0, i) := ht
  obtain ⟨hX, hP⟩ := hP
  have hX := Eq.symm hX
  subst hX
  have F := F r45 w46 hP
  refine x_icmp_ge 120 dX8_wordingFrom_93 rfl (fun hc => ?_) (fun hc => ?_)
  · have F := F.1 hc
    obtain ⟨hz, F⟩ := F
    refine x_iinc [(2, 5), (0, a1), (0, (x2 + 1)), (0, x3), (0, x4)] dX8_wordingFrom_120 rfl rfl (Nat.le_of_ble_eq_true rfl) hz ?_
    refine x_goto 10 dX8_wordingFrom_123 rfl ?_
    exact x_less [(2, 5), (0, a1), (0, (x2 + 1)), (3, 0), (3, 0)] ⟨Or.inr rfl, ⟨Or.inr rfl, ⟨Or.inr rfl, ⟨Or.inl rfl, ⟨Or.inl rfl, trivial⟩⟩⟩⟩⟩ F
  · have F := F.2 hc
    refine x_aload_n dX8_wordingFrom_96 rfl ?_
    refine x_getr (r' := 15) flX8_33 dX8_wordingFrom_97 (sW5 hW) (gW5 hW) (rW5_5 hW) rfl (Nat.le_of_ble_eq_true rfl) ?_
    refine x_aload_n dX8_wordingFrom_100 rfl ?_
    refine x_getr (r' := 13) flX8_30 dX8_wordingFrom_101 (sW5 hW) (gW5 hW) (rW5_4 hW) rfl (Nat.le_of_ble_eq_true rfl) ?_
    refine x_iload_n dX8_wordingFrom_104 rfl ?_
    refine x_iload dX8_wordingFrom_105 rfl ?_
    obtain ⟨hz, F⟩ := F
    refine x_iadd dX8_wordingFrom_107 hz ?_
    obtain ⟨P48, hC, F⟩ := F
    refine x_inv dX8_wordingFrom_108 mlX8_47 hC (sW13 hW) (Nat.le_of_ble_eq_true rfl) (gW13 hW) rfl rfl (by omega) (Nat.zero_le _) (Nat.zero_le _) (Nat.le_of_ble_eq_true rfl) (fun o1 Y51 w50 ht hP => ?_)
    obtain ⟨r49, rfl⟩ : ∃ i, o1 = some (0, i) := ht
    obtain ⟨hX, hP⟩ := hP
    have hX := Eq.symm hX
    subst hX
    have F := F r49 w50 hP
    obtain ⟨P52, hC, F⟩ := F
    refine x_inv dX8_wordingFrom_111 mlX8_85 hC (sW15 hW) (Nat.le_of_ble_eq_true rfl) (gW15 hW) rfl rfl (by omega) (Nat.zero_le _) (Nat.zero_le _) (Nat.le_of_ble_eq_true rfl) (fun o1 Y55 w54 ht hP => ?_)
    obtain rfl : o1 = none := ht
    obtain ⟨hX, hP⟩ := hP
    have hX := Eq.symm hX
    subst hX
    have F := F w54 hP
    obtain ⟨hz, F⟩ := F
    refine x_iinc [(2, 5), (0, a1), (0, x2), (0, x3), (0, (x4 + 1))] dX8_wordingFrom_114 rfl rfl (Nat.le_of_ble_eq_true rfl) hz ?_
    refine x_goto 83 dX8_wordingFrom_117 rfl ?_
    exact F
