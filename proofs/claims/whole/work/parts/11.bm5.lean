set_option maxRecDepth 100000 in
set_option maxHeartbeats 4000000 in
theorem bX11_isNameAt_0 {d mc ms : Nat} {X : XX} {v : VV} {Q : QQ} (a1 : Int) (a2 : Int) (hd : 0 ≤ d) (hW : SW X) (F : i32 a1 → i32 a2 → i32 (400 * a1) ∧ (i32 (400 * a1) → i32 ((400 * a1) + a2)) ∧ (0 ≤ ((400 * a1) + a2) ∧ ((400 * a1) + a2) < 6800) ∧ (((¬ (v 61 ((400 * a1) + a2)) = 1) → Q (some (0, 0)) X v) ∧ (((v 61 ((400 * a1) + a2)) = 1) → i32 (400 * a1) ∧ (i32 (400 * a1) → i32 ((400 * a1) + a2)) ∧ (i32 ((400 * a1) + a2) → i32 (((400 * a1) + a2) + 1)) ∧ (0 ≤ (((400 * a1) + a2) + 1) ∧ (((400 * a1) + a2) + 1) < 6800) ∧ (((¬ (v 61 (((400 * a1) + a2) + 1)) = 46) → Q (some (0, 0)) X v) ∧ (((v 61 (((400 * a1) + a2) + 1)) = 46) → Q (some (0, 1)) X v))))) : Ex mX11_isNameAt d 0 [(2, 47), (0, a1), (0, a2)] [] X v mc ms Q := by
  refine x_li32 (i := 1) rfl (fun ha1 => ?_)
  have F := F ha1
  refine x_li32 (i := 2) rfl (fun ha2 => ?_)
  have F := F ha2
  refine x_aload_n dX11_isNameAt_0 rfl ?_
  refine x_getr (r' := 61) flX11_51 dX11_isNameAt_1 (sW47 hW) (gW47 hW) (rW47_14 hW) rfl (Nat.le_of_ble_eq_true rfl) ?_
  refine x_sipush dX11_isNameAt_4 ks_400 (i32_of rfl) ?_
  refine x_iload_n dX11_isNameAt_7 rfl ?_
  obtain ⟨hz, F⟩ := F
  refine x_imul dX11_isNameAt_8 hz ?_
  refine x_iload_n dX11_isNameAt_9 rfl ?_
  refine x_si32 (i := 1) rfl (fun hk1 => ?_)
  obtain ⟨hz, F⟩ := F
  have hz := hz hk1
  refine x_iadd dX11_isNameAt_10 hz ?_
  obtain ⟨hi, F⟩ := F
  refine x_iald (e := (v 61 ((400 * a1) + a2))) dX11_isNameAt_11 (sW61 hW) (gW61 hW) hi rfl ?_
  refine x_iconst dX11_isNameAt_12 rfl (i32_of rfl) ?_
  refine x_icmp_ne 39 dX11_isNameAt_13 rfl (fun hc => ?_) (fun hc => ?_)
  · have F := F.1 hc
    refine x_iconst dX11_isNameAt_39 rfl (i32_of rfl) ?_
    exact x_ret (some (0, 0)) rfl ⟨dX11_isNameAt_40, Or.inr ⟨rfl, Or.inl rfl⟩⟩ F
  · have F := F.2 hc
    refine x_aload_n dX11_isNameAt_16 rfl ?_
    refine x_getr (r' := 61) flX11_51 dX11_isNameAt_17 (sW47 hW) (gW47 hW) (rW47_14 hW) rfl (Nat.le_of_ble_eq_true rfl) ?_
    refine x_sipush dX11_isNameAt_20 ks_400 (i32_of rfl) ?_
    refine x_iload_n dX11_isNameAt_23 rfl ?_
    obtain ⟨hz, F⟩ := F
    refine x_imul dX11_isNameAt_24 hz ?_
    refine x_iload_n dX11_isNameAt_25 rfl ?_
    refine x_si32 (i := 1) rfl (fun hk1 => ?_)
    obtain ⟨hz, F⟩ := F
    have hz := hz hk1
    refine x_iadd dX11_isNameAt_26 hz ?_
    refine x_iconst dX11_isNameAt_27 rfl (i32_of rfl) ?_
    refine x_si32 (i := 1) rfl (fun hk1 => ?_)
    obtain ⟨hz, F⟩ := F
    have hz := hz hk1
    refine x_iadd dX11_isNameAt_28 hz ?_
    obtain ⟨hi, F⟩ := F
    refine x_iald (e := (v 61 (((400 * a1) + a2) + 1))) dX11_isNameAt_29 (sW61 hW) (gW61 hW) hi rfl ?_
    refine x_bipush dX11_isNameAt_30 kb_46 (i32_of rfl) ?_
    refine x_icmp_ne 39 dX11_isNameAt_32 rfl (fun hc => ?_) (fun hc => ?_)
    · have F := F.1 hc
      refine x_iconst dX11_isNameAt_39 rfl (i32_of rfl) ?_
      exact x_ret (some (0, 0)) rfl ⟨dX11_isNameAt_40, Or.inr ⟨rfl, Or.inl rfl⟩⟩ F
    · have F := F.2 hc
      refine x_iconst dX11_isNameAt_35 rfl (i32_of rfl) ?_
      refine x_goto 40 dX11_isNameAt_36 rfl ?_
      exact x_ret (some (0, 1)) rfl ⟨dX11_isNameAt_40, Or.inr ⟨rfl, Or.inr rfl⟩⟩ F

set_option maxRecDepth 100000 in
set_option maxHeartbeats 4000000 in
theorem bX11_usesMarked_0 {d mc ms : Nat} {X : XX} {v : VV} {Q : QQ} (a1 : Int) (a2 : Int) (hd : 2 ≤ d) (hW : SW X) (F : i32 a1 → i32 a2 → i32 (8 * a1) ∧ (i32 (8 * a1) → i32 ((8 * a1) + a2)) ∧ (0 ≤ ((8 * a1) + a2) ∧ ((8 * a1) + a2) < 136) ∧ Ex mX11_usesMarked d 12 [(2, 47), (0, a1), (0, a2), (0, (v 65 ((8 * a1) + a2)))] [] X v mc ms Q) : Ex mX11_usesMarked d 0 [(2, 47), (0, a1), (0, a2), (3, 0)] [] X v mc ms Q := by
  refine x_li32 (i := 1) rfl (fun ha1 => ?_)
  have F := F ha1
  refine x_li32 (i := 2) rfl (fun ha2 => ?_)
  have F := F ha2
  refine x_aload_n dX11_usesMarked_0 rfl ?_
  refine x_getr (r' := 65) flX11_63 dX11_usesMarked_1 (sW47 hW) (gW47 hW) (rW47_18 hW) rfl (Nat.le_of_ble_eq_true rfl) ?_
  refine x_bipush dX11_usesMarked_4 kb_8 (i32_of rfl) ?_
  refine x_iload_n dX11_usesMarked_6 rfl ?_
  obtain ⟨hz, F⟩ := F
  refine x_imul dX11_usesMarked_7 hz ?_
  refine x_iload_n dX11_usesMarked_8 rfl ?_
  refine x_si32 (i := 1) rfl (fun hk1 => ?_)
  obtain ⟨hz, F⟩ := F
  have hz := hz hk1
  refine x_iadd dX11_usesMarked_9 hz ?_
  obtain ⟨hi, F⟩ := F
  refine x_iald (e := (v 65 ((8 * a1) + a2))) dX11_usesMarked_10 (sW65 hW) (gW65 hW) hi rfl ?_
  refine x_istore_n [(2, 47), (0, a1), (0, a2), (0, (v 65 ((8 * a1) + a2)))] dX11_usesMarked_11 rfl (Nat.le_of_ble_eq_true rfl) ?_
  exact F

set_option maxRecDepth 100000 in
set_option maxHeartbeats 4000000 in
theorem bX11_usesMarked_12 {d mc ms : Nat} {X : XX} {v : VV} {Q : QQ} (a1 : Int) (a2 : Int) (x3 : Int) (hd : 2 ≤ d) (hW : SW X) (F : i32 a1 → i32 a2 → i32 x3 → i32 (8 * a1) ∧ (i32 (8 * a1) → i32 ((8 * a1) + a2)) ∧ (0 ≤ ((8 * a1) + a2) ∧ ((8 * a1) + a2) < 136) ∧ ((((v 66 ((8 * a1) + a2)) ≤ x3) → Q (some (0, 0)) X v) ∧ ((x3 < (v 66 ((8 * a1) + a2))) → ∃ P1 : Option AV → VV → Prop, Con mX11_isNameAt 0 0 0 [(2, 47), (0, a1), (0, x3)] X v (fun o X1 v1 => X1 = X ∧ P1 o v1) ∧ ∀ (r2 : Int) (w3 : VV), P1 (some (0, r2)) w3 → (((¬ r2 = 0) → ∃ P5 : Option AV → VV → Prop, Con mX11_usedAt 1 0 0 [(2, 47), (0, a1), (0, x3)] X w3 (fun o X1 v1 => X1 = X ∧ P5 o v1) ∧ ∀ (r6 : Int) (w7 : VV), P5 (some (0, r6)) w7 → (0 ≤ r6 ∧ r6 < 136) ∧ ((((w7 80 r6) = 0) → i32 (x3 + 2) ∧ i32 ((x3 + 2) + 1) ∧ Ex mX11_usesMarked d 12 [(2, 47), (0, a1), (0, a2), (0, ((x3 + 2) + 1))] [] X w7 mc ms Q) ∧ ((¬ (w7 80 r6) = 0) → Q (some (0, 1)) X w7))) ∧ ((r2 = 0) → i32 (x3 + 1) ∧ Ex mX11_usesMarked d 12 [(2, 47), (0, a1), (0, a2), (0, (x3 + 1))] [] X w3 mc ms Q))))) : Ex mX11_usesMarked d 12 [(2, 47), (0, a1), (0, a2), (0, x3)] [] X v mc ms Q := by
  refine x_li32 (i := 1) rfl (fun ha1 => ?_)
  have F := F ha1
  refine x_li32 (i := 2) rfl (fun ha2 => ?_)
  have F := F ha2
  refine x_li32 (i := 3) rfl (fun hx3 => ?_)
  have F := F hx3
  refine x_iload_n dX11_usesMarked_12 rfl ?_
  refine x_aload_n dX11_usesMarked_13 rfl ?_
  refine x_getr (r' := 66) flX11_66 dX11_usesMarked_14 (sW47 hW) (gW47 hW) (rW47_19 hW) rfl (Nat.le_of_ble_eq_true rfl) ?_
  refine x_bipush dX11_usesMarked_17 kb_8 (i32_of rfl) ?_
  refine x_iload_n dX11_usesMarked_19 rfl ?_
  obtain ⟨hz, F⟩ := F
  refine x_imul dX11_usesMarked_20 hz ?_
  refine x_iload_n dX11_usesMarked_21 rfl ?_
  refine x_si32 (i := 1) rfl (fun hk1 => ?_)
  obtain ⟨hz, F⟩ := F
  have hz := hz hk1
  refine x_iadd dX11_usesMarked_22 hz ?_
  obtain ⟨hi, F⟩ := F
  refine x_iald (e := (v 66 ((8 * a1) + a2))) dX11_usesMarked_23 (sW66 hW) (gW66 hW) hi rfl ?_
  refine x_icmp_ge 64 dX11_usesMarked_24 rfl (fun hc => ?_) (fun hc => ?_)
  · have F := F.1 hc
    refine x_iconst dX11_usesMarked_64 rfl (i32_of rfl) ?_
    exact x_ret (some (0, 0)) rfl ⟨dX11_usesMarked_65, Or.inr ⟨rfl, Or.inl rfl⟩⟩ F
  · have F := F.2 hc
    refine x_aload_n dX11_usesMarked_27 rfl ?_
    refine x_iload_n dX11_usesMarked_28 rfl ?_
    refine x_iload_n dX11_usesMarked_29 rfl ?_
    obtain ⟨P1, hC, F⟩ := F
    refine x_inv dX11_usesMarked_30 mlX11_327 hC (sW47 hW) (Nat.le_of_ble_eq_true rfl) (gW47 hW) rfl rfl (by omega) (Nat.zero_le _) (Nat.zero_le _) (Nat.le_of_ble_eq_true rfl) (fun o1 Y4 w3 ht hP => ?_)
    obtain ⟨r2, rfl⟩ : ∃ i, o1 = some (0, i) := ht
    obtain ⟨rfl, hP⟩ := hP
    have F := F r2 w3 hP
    refine x_if_ne 39 dX11_usesMarked_33 rfl (fun hc => ?_) (fun hc => ?_)
    · have F := F.1 hc
      refine x_aload_n dX11_usesMarked_39 rfl ?_
      refine x_getr (r' := 80) flX11_138 dX11_usesMarked_40 (sW47 hW) (gW47 hW) (rW47_56 hW) rfl (Nat.le_of_ble_eq_true rfl) ?_
      refine x_aload_n dX11_usesMarked_43 rfl ?_
      refine x_iload_n dX11_usesMarked_44 rfl ?_
      refine x_iload_n dX11_usesMarked_45 rfl ?_
      obtain ⟨P5, hC, F⟩ := F
      refine x_inv dX11_usesMarked_46 mlX11_330 hC (sW47 hW) (Nat.le_of_ble_eq_true rfl) (gW47 hW) rfl rfl (by omega) (Nat.zero_le _) (Nat.zero_le _) (Nat.le_of_ble_eq_true rfl) (fun o1 Y8 w7 ht hP => ?_)
      obtain ⟨r6, rfl⟩ : ∃ i, o1 = some (0, i) := ht
      obtain ⟨rfl, hP⟩ := hP
      have F := F r6 w7 hP
      obtain ⟨hi, F⟩ := F
      refine x_zald (e := (w7 80 r6)) dX11_usesMarked_49 (sW80 hW) (gW80 hW) hi rfl ?_
      refine x_if_eq 55 dX11_usesMarked_50 rfl (fun hc => ?_) (fun hc => ?_)
      · have F := F.1 hc
        obtain ⟨hz, F⟩ := F
        refine x_iinc [(2, 47), (0, a1), (0, a2), (0, (x3 + 2))] dX11_usesMarked_55 rfl rfl (Nat.le_of_ble_eq_true rfl) hz ?_
        obtain ⟨hz, F⟩ := F
        refine x_iinc [(2, 47), (0, a1), (0, a2), (0, ((x3 + 2) + 1))] dX11_usesMarked_58 rfl rfl (Nat.le_of_ble_eq_true rfl) hz ?_
        refine x_goto 12 dX11_usesMarked_61 rfl ?_
        exact F
      · have F := F.2 hc
        refine x_iconst dX11_usesMarked_53 rfl (i32_of rfl) ?_
        exact x_ret (some (0, 1)) rfl ⟨dX11_usesMarked_54, Or.inr ⟨rfl, Or.inr rfl⟩⟩ F
    · have F := F.2 hc
      refine x_goto 58 dX11_usesMarked_36 rfl ?_
      obtain ⟨hz, F⟩ := F
      refine x_iinc [(2, 47), (0, a1), (0, a2), (0, (x3 + 1))] dX11_usesMarked_58 rfl rfl (Nat.le_of_ble_eq_true rfl) hz ?_
      refine x_goto 12 dX11_usesMarked_61 rfl ?_
      exact F

set_option maxRecDepth 100000 in
set_option maxHeartbeats 4000000 in
theorem bX11_marksUsed_0 {d mc ms : Nat} {X : XX} {v : VV} {Q : QQ} (a1 : Int) (a2 : Int) (hd : 2 ≤ d) (hW : SW X) (F : i32 a1 → i32 a2 → i32 (8 * a1) ∧ (i32 (8 * a1) → i32 ((8 * a1) + a2)) ∧ (0 ≤ ((8 * a1) + a2) ∧ ((8 * a1) + a2) < 136) ∧ Ex mX11_marksUsed d 12 [(2, 47), (0, a1), (0, a2), (0, (v 65 ((8 * a1) + a2)))] [] X v mc ms Q) : Ex mX11_marksUsed d 0 [(2, 47), (0, a1), (0, a2), (3, 0)] [] X v mc ms Q := by
  refine x_li32 (i := 1) rfl (fun ha1 => ?_)
  have F := F ha1
  refine x_li32 (i := 2) rfl (fun ha2 => ?_)
  have F := F ha2
  refine x_aload_n dX11_marksUsed_0 rfl ?_
  refine x_getr (r' := 65) flX11_63 dX11_marksUsed_1 (sW47 hW) (gW47 hW) (rW47_18 hW) rfl (Nat.le_of_ble_eq_true rfl) ?_
  refine x_bipush dX11_marksUsed_4 kb_8 (i32_of rfl) ?_
  refine x_iload_n dX11_marksUsed_6 rfl ?_
  obtain ⟨hz, F⟩ := F
  refine x_imul dX11_marksUsed_7 hz ?_
  refine x_iload_n dX11_marksUsed_8 rfl ?_
  refine x_si32 (i := 1) rfl (fun hk1 => ?_)
  obtain ⟨hz, F⟩ := F
  have hz := hz hk1
  refine x_iadd dX11_marksUsed_9 hz ?_
  obtain ⟨hi, F⟩ := F
  refine x_iald (e := (v 65 ((8 * a1) + a2))) dX11_marksUsed_10 (sW65 hW) (gW65 hW) hi rfl ?_
  refine x_istore_n [(2, 47), (0, a1), (0, a2), (0, (v 65 ((8 * a1) + a2)))] dX11_marksUsed_11 rfl (Nat.le_of_ble_eq_true rfl) ?_
  exact F

set_option maxRecDepth 100000 in
set_option maxHeartbeats 4000000 in
theorem bX11_marksUsed_12 {d mc ms : Nat} {X : XX} {v : VV} {Q : QQ} (a1 : Int) (a2 : Int) (x3 : Int) (hd : 2 ≤ d) (hW : SW X) (F : i32 a1 → i32 a2 → i32 x3 → i32 (8 * a1) ∧ (i32 (8 * a1) → i32 ((8 * a1) + a2)) ∧ (0 ≤ ((8 * a1) + a2) ∧ ((8 * a1) + a2) < 136) ∧ ((((v 66 ((8 * a1) + a2)) ≤ x3) → Q none X v) ∧ ((x3 < (v 66 ((8 * a1) + a2))) → ∃ P1 : Option AV → VV → Prop, Con mX11_isNameAt 0 0 0 [(2, 47), (0, a1), (0, x3)] X v (fun o X1 v1 => X1 = X ∧ P1 o v1) ∧ ∀ (r2 : Int) (w3 : VV), P1 (some (0, r2)) w3 → (((¬ r2 = 0) → ∃ P5 : Option AV → VV → Prop, Con mX11_usedAt 1 0 0 [(2, 47), (0, a1), (0, x3)] X w3 (fun o X1 v1 => X1 = X ∧ P5 o v1) ∧ ∀ (r6 : Int) (w7 : VV), P5 (some (0, r6)) w7 → (0 ≤ r6 ∧ r6 < 136) ∧ i32 (x3 + 2) ∧ i32 ((x3 + 2) + 1) ∧ Ex mX11_marksUsed d 12 [(2, 47), (0, a1), (0, a2), (0, ((x3 + 2) + 1))] [] X (upd2 w7 80 r6 1) mc ms Q) ∧ ((r2 = 0) → i32 (x3 + 1) ∧ Ex mX11_marksUsed d 12 [(2, 47), (0, a1), (0, a2), (0, (x3 + 1))] [] X w3 mc ms Q))))) : Ex mX11_marksUsed d 12 [(2, 47), (0, a1), (0, a2), (0, x3)] [] X v mc ms Q := by
  refine x_li32 (i := 1) rfl (fun ha1 => ?_)
  have F := F ha1
  refine x_li32 (i := 2) rfl (fun ha2 => ?_)
  have F := F ha2
  refine x_li32 (i := 3) rfl (fun hx3 => ?_)
  have F := F hx3
  refine x_iload_n dX11_marksUsed_12 rfl ?_
  refine x_aload_n dX11_marksUsed_13 rfl ?_
  refine x_getr (r' := 66) flX11_66 dX11_marksUsed_14 (sW47 hW) (gW47 hW) (rW47_19 hW) rfl (Nat.le_of_ble_eq_true rfl) ?_
  refine x_bipush dX11_marksUsed_17 kb_8 (i32_of rfl) ?_
  refine x_iload_n dX11_marksUsed_19 rfl ?_
  obtain ⟨hz, F⟩ := F
  refine x_imul dX11_marksUsed_20 hz ?_
  refine x_iload_n dX11_marksUsed_21 rfl ?_
  refine x_si32 (i := 1) rfl (fun hk1 => ?_)
  obtain ⟨hz, F⟩ := F
  have hz := hz hk1
  refine x_iadd dX11_marksUsed_22 hz ?_
  obtain ⟨hi, F⟩ := F
  refine x_iald (e := (v 66 ((8 * a1) + a2))) dX11_marksUsed_23 (sW66 hW) (gW66 hW) hi rfl ?_
  refine x_icmp_ge 60 dX11_marksUsed_24 rfl (fun hc => ?_) (fun hc => ?_)
  · have F := F.1 hc
    exact x_ret none rfl ⟨dX11_marksUsed_60, rfl⟩ F
  · have F := F.2 hc
    refine x_aload_n dX11_marksUsed_27 rfl ?_
    refine x_iload_n dX11_marksUsed_28 rfl ?_
    refine x_iload_n dX11_marksUsed_29 rfl ?_
    obtain ⟨P1, hC, F⟩ := F
    refine x_inv dX11_marksUsed_30 mlX11_327 hC (sW47 hW) (Nat.le_of_ble_eq_true rfl) (gW47 hW) rfl rfl (by omega) (Nat.zero_le _) (Nat.zero_le _) (Nat.le_of_ble_eq_true rfl) (fun o1 Y4 w3 ht hP => ?_)
    obtain ⟨r2, rfl⟩ : ∃ i, o1 = some (0, i) := ht
    obtain ⟨rfl, hP⟩ := hP
    have F := F r2 w3 hP
    refine x_if_ne 39 dX11_marksUsed_33 rfl (fun hc => ?_) (fun hc => ?_)
    · have F := F.1 hc
      refine x_aload_n dX11_marksUsed_39 rfl ?_
      refine x_getr (r' := 80) flX11_138 dX11_marksUsed_40 (sW47 hW) (gW47 hW) (rW47_56 hW) rfl (Nat.le_of_ble_eq_true rfl) ?_
      refine x_aload_n dX11_marksUsed_43 rfl ?_
      refine x_iload_n dX11_marksUsed_44 rfl ?_
      refine x_iload_n dX11_marksUsed_45 rfl ?_
      obtain ⟨P5, hC, F⟩ := F
      refine x_inv dX11_marksUsed_46 mlX11_330 hC (sW47 hW) (Nat.le_of_ble_eq_true rfl) (gW47 hW) rfl rfl (by omega) (Nat.zero_le _) (Nat.zero_le _) (Nat.le_of_ble_eq_true rfl) (fun o1 Y8 w7 ht hP => ?_)
      obtain ⟨r6, rfl⟩ : ∃ i, o1 = some (0, i) := ht
      obtain ⟨rfl, hP⟩ := hP
      have F := F r6 w7 hP
      refine x_iconst dX11_marksUsed_49 rfl (i32_of rfl) ?_
      obtain ⟨hi, F⟩ := F
      refine x_zast dX11_marksUsed_50 (sW80 hW) (gW80 hW) hi (Or.inr rfl) ?_
      obtain ⟨hz, F⟩ := F
      refine x_iinc [(2, 47), (0, a1), (0, a2), (0, (x3 + 2))] dX11_marksUsed_51 rfl rfl (Nat.le_of_ble_eq_true rfl) hz ?_
      obtain ⟨hz, F⟩ := F
      refine x_iinc [(2, 47), (0, a1), (0, a2), (0, ((x3 + 2) + 1))] dX11_marksUsed_54 rfl rfl (Nat.le_of_ble_eq_true rfl) hz ?_
      refine x_goto 12 dX11_marksUsed_57 rfl ?_
      exact F
    · have F := F.2 hc
      refine x_goto 54 dX11_marksUsed_36 rfl ?_
      obtain ⟨hz, F⟩ := F
      refine x_iinc [(2, 47), (0, a1), (0, a2), (0, (x3 + 1))] dX11_marksUsed_54 rfl rfl (Nat.le_of_ble_eq_true rfl) hz ?_
      refine x_goto 12 dX11_marksUsed_57 rfl ?_
      exact F

set_option maxRecDepth 100000 in
set_option maxHeartbeats 4000000 in
theorem bX11_clears_0 {d mc ms : Nat} {X : XX} {v : VV} {Q : QQ} (hd : 0 ≤ d) (hW : SW X) (F : Ex mX11_clears d 2 [(2, 47), (0, 0)] [] X v mc ms Q) : Ex mX11_clears d 0 [(2, 47), (3, 0)] [] X v mc ms Q := by
  refine x_iconst dX11_clears_0 rfl (i32_of rfl) ?_
  refine x_istore_n [(2, 47), (0, 0)] dX11_clears_1 rfl (Nat.le_of_ble_eq_true rfl) ?_
  exact F

set_option maxRecDepth 100000 in
set_option maxHeartbeats 4000000 in
theorem bX11_clears_2 {d mc ms : Nat} {X : XX} {v : VV} {Q : QQ} (x1 : Int) (hd : 0 ≤ d) (hW : SW X) (F : i32 x1 → (((136 ≤ x1) → Q none X v) ∧ ((x1 < 136) → (0 ≤ x1 ∧ x1 < 136) ∧ i32 (x1 + 1) ∧ Ex mX11_clears d 2 [(2, 47), (0, (x1 + 1))] [] X (upd2 v 80 x1 0) mc ms Q))) : Ex mX11_clears d 2 [(2, 47), (0, x1)] [] X v mc ms Q := by
  refine x_li32 (i := 1) rfl (fun hx1 => ?_)
  have F := F hx1
  refine x_iload_n dX11_clears_2 rfl ?_
  refine x_sipush dX11_clears_3 ks_136 (i32_of rfl) ?_
  refine x_icmp_ge 22 dX11_clears_6 rfl (fun hc => ?_) (fun hc => ?_)
  · have F := F.1 hc
    exact x_ret none rfl ⟨dX11_clears_22, rfl⟩ F
  · have F := F.2 hc
    refine x_aload_n dX11_clears_9 rfl ?_
    refine x_getr (r' := 80) flX11_138 dX11_clears_10 (sW47 hW) (gW47 hW) (rW47_56 hW) rfl (Nat.le_of_ble_eq_true rfl) ?_
    refine x_iload_n dX11_clears_13 rfl ?_
    refine x_iconst dX11_clears_14 rfl (i32_of rfl) ?_
    obtain ⟨hi, F⟩ := F
    refine x_zast dX11_clears_15 (sW80 hW) (gW80 hW) hi (Or.inl rfl) ?_
    obtain ⟨hz, F⟩ := F
    refine x_iinc [(2, 47), (0, (x1 + 1))] dX11_clears_16 rfl rfl (Nat.le_of_ble_eq_true rfl) hz ?_
    refine x_goto 2 dX11_clears_19 rfl ?_
    exact F

set_option maxRecDepth 100000 in
set_option maxHeartbeats 4000000 in
theorem bX11_from_0 {d mc ms : Nat} {X : XX} {v : VV} {Q : QQ} (a1 : Int) (a2 : Int) (a3 : Int) (hd : 3 ≤ d) (hW : SW X) (F : i32 a1 → i32 a2 → i32 a3 → ∃ P1 : Option AV → VV → Prop, Con mX11_isColumn 1 0 0 [(2, 47), (0, a1), (0, a2)] X v (fun o X1 v1 => X1 = X ∧ P1 o v1) ∧ ∀ (r2 : Int) (w3 : VV), P1 (some (0, r2)) w3 → (((r2 = 0) → Q (some (0, (-1))) X w3) ∧ ((¬ r2 = 0) → (((a3 < 0) → Q (some (0, (-1))) X w3) ∧ ((0 ≤ a3) → (((a3 ≤ 2) → ∃ P5 : Option AV → VV → Prop, Con mX11_clears 0 0 0 [(2, 47)] X w3 (fun o X1 v1 => X1 = X ∧ P5 o v1) ∧ ∀ (w7 : VV), P5 none w7 → (0 ≤ a1 ∧ a1 < 17) ∧ ((((w7 50 a1) = 1) → Ex mX11_from d 44 [(2, 47), (0, a1), (0, a2), (0, a3), (3, 0), (3, 0)] [] X w7 mc ms Q) ∧ ((¬ (w7 50 a1) = 1) → (0 ≤ a1 ∧ a1 < 17) ∧ (((¬ (w7 50 a1) = 2) → i32 (a1 - 1) ∧ Ex mX11_from d 55 [(2, 47), (0, a1), (0, a2), (0, a3), (0, (a1 - 1)), (3, 0)] [] X w7 mc ms Q) ∧ (((w7 50 a1) = 2) → Ex mX11_from d 44 [(2, 47), (0, a1), (0, a2), (0, a3), (3, 0), (3, 0)] [] X w7 mc ms Q))))) ∧ ((2 < a3) → Q (some (0, (-1))) X w3))))))) : Ex mX11_from d 0 [(2, 47), (0, a1), (0, a2), (0, a3), (3, 0), (3, 0)] [] X v mc ms Q := by
  refine x_li32 (i := 1) rfl (fun ha1 => ?_)
  have F := F ha1
  refine x_li32 (i := 2) rfl (fun ha2 => ?_)
  have F := F ha2
  refine x_li32 (i := 3) rfl (fun ha3 => ?_)
  have F := F ha3
  refine x_aload_n dX11_from_0 rfl ?_
  refine x_iload_n dX11_from_1 rfl ?_
  refine x_iload_n dX11_from_2 rfl ?_
  obtain ⟨P1, hC, F⟩ := F
  refine x_inv dX11_from_3 mlX11_320 hC (sW47 hW) (Nat.le_of_ble_eq_true rfl) (gW47 hW) rfl rfl (by omega) (Nat.zero_le _) (Nat.zero_le _) (Nat.le_of_ble_eq_true rfl) (fun o1 Y4 w3 ht hP => ?_)
  obtain ⟨r2, rfl⟩ : ∃ i, o1 = some (0, i) := ht
  obtain ⟨rfl, hP⟩ := hP
  have F := F r2 w3 hP
  refine x_if_eq 18 dX11_from_6 rfl (fun hc => ?_) (fun hc => ?_)
  · have F := F.1 hc
    refine x_iconst dX11_from_18 rfl (i32_of rfl) ?_
    exact x_ret (some (0, (-1))) rfl ⟨dX11_from_19, Or.inl rfl⟩ F
  · have F := F.2 hc
    refine x_iload_n dX11_from_9 rfl ?_
    refine x_if_lt 18 dX11_from_10 rfl (fun hc => ?_) (fun hc => ?_)
    · have F := F.1 hc
      refine x_iconst dX11_from_18 rfl (i32_of rfl) ?_
      exact x_ret (some (0, (-1))) rfl ⟨dX11_from_19, Or.inl rfl⟩ F
    · have F := F.2 hc
      refine x_iload_n dX11_from_13 rfl ?_
      refine x_iconst dX11_from_14 rfl (i32_of rfl) ?_
      refine x_icmp_le 20 dX11_from_15 rfl (fun hc => ?_) (fun hc => ?_)
      · have F := F.1 hc
        refine x_aload_n dX11_from_20 rfl ?_
        obtain ⟨P5, hC, F⟩ := F
        refine x_inv dX11_from_21 mlX11_333 hC (sW47 hW) (Nat.le_of_ble_eq_true rfl) (gW47 hW) rfl rfl (by omega) (Nat.zero_le _) (Nat.zero_le _) (Nat.le_of_ble_eq_true rfl) (fun o1 Y8 w7 ht hP => ?_)
        obtain rfl : o1 = none := ht
        obtain ⟨rfl, hP⟩ := hP
        have F := F w7 hP
        refine x_aload_n dX11_from_24 rfl ?_
        refine x_getr (r' := 50) flX11_17 dX11_from_25 (sW47 hW) (gW47 hW) (rW47_3 hW) rfl (Nat.le_of_ble_eq_true rfl) ?_
        refine x_iload_n dX11_from_28 rfl ?_
        obtain ⟨hi, F⟩ := F
        refine x_iald (e := (w7 50 a1)) dX11_from_29 (sW50 hW) (gW50 hW) hi rfl ?_
        refine x_iconst dX11_from_30 rfl (i32_of rfl) ?_
        refine x_icmp_eq 44 dX11_from_31 rfl (fun hc => ?_) (fun hc => ?_)
        · have F := F.1 hc
          exact F
        · have F := F.2 hc
          refine x_aload_n dX11_from_34 rfl ?_
          refine x_getr (r' := 50) flX11_17 dX11_from_35 (sW47 hW) (gW47 hW) (rW47_3 hW) rfl (Nat.le_of_ble_eq_true rfl) ?_
          refine x_iload_n dX11_from_38 rfl ?_
          obtain ⟨hi, F⟩ := F
          refine x_iald (e := (w7 50 a1)) dX11_from_39 (sW50 hW) (gW50 hW) hi rfl ?_
          refine x_iconst dX11_from_40 rfl (i32_of rfl) ?_
          refine x_icmp_ne 50 dX11_from_41 rfl (fun hc => ?_) (fun hc => ?_)
          · have F := F.1 hc
            refine x_iload_n dX11_from_50 rfl ?_
            refine x_iconst dX11_from_51 rfl (i32_of rfl) ?_
            obtain ⟨hz, F⟩ := F
            refine x_isub dX11_from_52 hz ?_
            refine x_istore [(2, 47), (0, a1), (0, a2), (0, a3), (0, (a1 - 1)), (3, 0)] dX11_from_53 rfl (Nat.le_of_ble_eq_true rfl) ?_
            exact F
          · have F := F.2 hc
            exact F
      · have F := F.2 hc
        refine x_iconst dX11_from_18 rfl (i32_of rfl) ?_
        exact x_ret (some (0, (-1))) rfl ⟨dX11_from_19, Or.inl rfl⟩ F

set_option maxRecDepth 100000 in
set_option maxHeartbeats 4000000 in
theorem bX11_from_44 {d mc ms : Nat} {X : XX} {v : VV} {Q : QQ} (a1 : Int) (a2 : Int) (a3 : Int) (hd : 3 ≤ d) (hW : SW X) (F : i32 a1 → i32 a2 → i32 a3 → ∃ P9 : Option AV → VV → Prop, Con mX11_marksUsed 2 0 0 [(2, 47), (0, a1), (0, a2)] X v (fun o X1 v1 => X1 = X ∧ P9 o v1) ∧ ∀ (w11 : VV), P9 none w11 → i32 (a1 - 1) ∧ Ex mX11_from d 55 [(2, 47), (0, a1), (0, a2), (0, a3), (0, (a1 - 1)), (3, 0)] [] X w11 mc ms Q) : Ex mX11_from d 44 [(2, 47), (0, a1), (0, a2), (0, a3), (3, 0), (3, 0)] [] X v mc ms Q := by
  refine x_li32 (i := 1) rfl (fun ha1 => ?_)
  have F := F ha1
  refine x_li32 (i := 2) rfl (fun ha2 => ?_)
  have F := F ha2
  refine x_li32 (i := 3) rfl (fun ha3 => ?_)
  have F := F ha3
  refine x_aload_n dX11_from_44 rfl ?_
  refine x_iload_n dX11_from_45 rfl ?_
  refine x_iload_n dX11_from_46 rfl ?_
  obtain ⟨P9, hC, F⟩ := F
  refine x_inv dX11_from_47 mlX11_336 hC (sW47 hW) (Nat.le_of_ble_eq_true rfl) (gW47 hW) rfl rfl (by omega) (Nat.zero_le _) (Nat.zero_le _) (Nat.le_of_ble_eq_true rfl) (fun o1 Y12 w11 ht hP => ?_)
  obtain rfl : o1 = none := ht
  obtain ⟨rfl, hP⟩ := hP
  have F := F w11 hP
  refine x_iload_n dX11_from_50 rfl ?_
  refine x_iconst dX11_from_51 rfl (i32_of rfl) ?_
  obtain ⟨hz, F⟩ := F
  refine x_isub dX11_from_52 hz ?_
  refine x_istore [(2, 47), (0, a1), (0, a2), (0, a3), (0, (a1 - 1)), (3, 0)] dX11_from_53 rfl (Nat.le_of_ble_eq_true rfl) ?_
  exact F

set_option maxRecDepth 100000 in
set_option maxHeartbeats 4000000 in
theorem bX11_from_55 {d mc ms : Nat} {X : XX} {v : VV} {Q : QQ} (a1 : Int) (a2 : Int) (a3 : Int) (x4 : Int) (hd : 3 ≤ d) (hW : SW X) (F : i32 a1 → i32 a2 → i32 a3 → i32 x4 → (((x4 < 0) → Ex mX11_from d 157 [(2, 47), (0, a1), (0, a2), (0, a3), (0, 0), (3, 0)] [] X (upd2 v 47 57 0) mc ms Q) ∧ ((0 ≤ x4) → (((a3 ≤ 0) → Ex mX11_from d 157 [(2, 47), (0, a1), (0, a2), (0, a3), (0, 0), (3, 0)] [] X (upd2 v 47 57 0) mc ms Q) ∧ ((0 < a3) → (0 ≤ x4 ∧ x4 < 17) ∧ ((((v 50 x4) = 0) → i32 (x4 + (-1)) ∧ Ex mX11_from d 55 [(2, 47), (0, a1), (0, a2), (0, a3), (0, (x4 + (-1))), (3, 0)] [] X v mc ms Q) ∧ ((¬ (v 50 x4) = 0) → (0 ≤ x4 ∧ x4 < 17) ∧ ((((v 50 x4) = 3) → i32 (x4 + (-1)) ∧ Ex mX11_from d 55 [(2, 47), (0, a1), (0, a2), (0, a3), (0, (x4 + (-1))), (3, 0)] [] X v mc ms Q) ∧ ((¬ (v 50 x4) = 3) → (0 ≤ x4 ∧ x4 < 17) ∧ (((¬ (v 48 x4) = 0) → Ex mX11_from d 101 [(2, 47), (0, a1), (0, a2), (0, a3), (0, x4), (0, 0)] [] X v mc ms Q) ∧ (((v 48 x4) = 0) → i32 (x4 + (-1)) ∧ Ex mX11_from d 55 [(2, 47), (0, a1), (0, a2), (0, a3), (0, (x4 + (-1))), (3, 0)] [] X v mc ms Q))))))))))) : Ex mX11_from d 55 [(2, 47), (0, a1), (0, a2), (0, a3), (0, x4), (3, 0)] [] X v mc ms Q := by
  refine x_li32 (i := 1) rfl (fun ha1 => ?_)
  have F := F ha1
  refine x_li32 (i := 2) rfl (fun ha2 => ?_)
  have F := F ha2
  refine x_li32 (i := 3) rfl (fun ha3 => ?_)
  have F := F ha3
  refine x_li32 (i := 4) rfl (fun hx4 => ?_)
  have F := F hx4
  refine x_iload dX11_from_55 rfl ?_
  refine x_if_lt 149 dX11_from_57 rfl (fun hc => ?_) (fun hc => ?_)
  · have F := F.1 hc
    refine x_aload_n dX11_from_149 rfl ?_
    refine x_iconst dX11_from_150 rfl (i32_of rfl) ?_
    refine x_puti 0 fwX11_324 dX11_from_151 (sW47 hW) (gW47 hW) (fun h => Bool.noConfusion h) (Nat.le_of_ble_eq_true rfl) rfl (Or.inl ⟨rfl, Or.inl rfl⟩) ?_
    refine x_iconst dX11_from_154 rfl (i32_of rfl) ?_
    refine x_istore [(2, 47), (0, a1), (0, a2), (0, a3), (0, 0), (3, 0)] dX11_from_155 rfl (Nat.le_of_ble_eq_true rfl) ?_
    exact F
  · have F := F.2 hc
    refine x_iload_n dX11_from_60 rfl ?_
    refine x_if_le 149 dX11_from_61 rfl (fun hc => ?_) (fun hc => ?_)
    · have F := F.1 hc
      refine x_aload_n dX11_from_149 rfl ?_
      refine x_iconst dX11_from_150 rfl (i32_of rfl) ?_
      refine x_puti 0 fwX11_324 dX11_from_151 (sW47 hW) (gW47 hW) (fun h => Bool.noConfusion h) (Nat.le_of_ble_eq_true rfl) rfl (Or.inl ⟨rfl, Or.inl rfl⟩) ?_
      refine x_iconst dX11_from_154 rfl (i32_of rfl) ?_
      refine x_istore [(2, 47), (0, a1), (0, a2), (0, a3), (0, 0), (3, 0)] dX11_from_155 rfl (Nat.le_of_ble_eq_true rfl) ?_
      exact F
    · have F := F.2 hc
      refine x_aload_n dX11_from_64 rfl ?_
      refine x_getr (r' := 50) flX11_17 dX11_from_65 (sW47 hW) (gW47 hW) (rW47_3 hW) rfl (Nat.le_of_ble_eq_true rfl) ?_
      refine x_iload dX11_from_68 rfl ?_
      obtain ⟨hi, F⟩ := F
      refine x_iald (e := (v 50 x4)) dX11_from_70 (sW50 hW) (gW50 hW) hi rfl ?_
      refine x_if_eq 143 dX11_from_71 rfl (fun hc => ?_) (fun hc => ?_)
      · have F := F.1 hc
        obtain ⟨hz, F⟩ := F
        refine x_iinc [(2, 47), (0, a1), (0, a2), (0, a3), (0, (x4 + (-1))), (3, 0)] dX11_from_143 rfl rfl (Nat.le_of_ble_eq_true rfl) hz ?_
        refine x_goto 55 dX11_from_146 rfl ?_
        exact F
      · have F := F.2 hc
        refine x_aload_n dX11_from_74 rfl ?_
        refine x_getr (r' := 50) flX11_17 dX11_from_75 (sW47 hW) (gW47 hW) (rW47_3 hW) rfl (Nat.le_of_ble_eq_true rfl) ?_
        refine x_iload dX11_from_78 rfl ?_
        obtain ⟨hi, F⟩ := F
        refine x_iald (e := (v 50 x4)) dX11_from_80 (sW50 hW) (gW50 hW) hi rfl ?_
        refine x_iconst dX11_from_81 rfl (i32_of rfl) ?_
        refine x_icmp_eq 143 dX11_from_82 rfl (fun hc => ?_) (fun hc => ?_)
        · have F := F.1 hc
          obtain ⟨hz, F⟩ := F
          refine x_iinc [(2, 47), (0, a1), (0, a2), (0, a3), (0, (x4 + (-1))), (3, 0)] dX11_from_143 rfl rfl (Nat.le_of_ble_eq_true rfl) hz ?_
          refine x_goto 55 dX11_from_146 rfl ?_
          exact F
        · have F := F.2 hc
          refine x_aload_n dX11_from_85 rfl ?_
          refine x_getr (r' := 48) flX11_7 dX11_from_86 (sW47 hW) (gW47 hW) (rW47_1 hW) rfl (Nat.le_of_ble_eq_true rfl) ?_
          refine x_iload dX11_from_89 rfl ?_
          obtain ⟨hi, F⟩ := F
          refine x_zald (e := (v 48 x4)) dX11_from_91 (sW48 hW) (gW48 hW) hi rfl ?_
          refine x_if_ne 98 dX11_from_92 rfl (fun hc => ?_) (fun hc => ?_)
          · have F := F.1 hc
            refine x_iconst dX11_from_98 rfl (i32_of rfl) ?_
            refine x_istore [(2, 47), (0, a1), (0, a2), (0, a3), (0, x4), (0, 0)] dX11_from_99 rfl (Nat.le_of_ble_eq_true rfl) ?_
            exact F
          · have F := F.2 hc
            refine x_goto 143 dX11_from_95 rfl ?_
            obtain ⟨hz, F⟩ := F
            refine x_iinc [(2, 47), (0, a1), (0, a2), (0, a3), (0, (x4 + (-1))), (3, 0)] dX11_from_143 rfl rfl (Nat.le_of_ble_eq_true rfl) hz ?_
            refine x_goto 55 dX11_from_146 rfl ?_
            exact F

set_option maxRecDepth 100000 in
set_option maxHeartbeats 4000000 in
theorem bX11_from_101 {d mc ms : Nat} {X : XX} {v : VV} {Q : QQ} (a1 : Int) (a2 : Int) (a3 : Int) (x4 : Int) (x5 : Int) (hd : 3 ≤ d) (hW : SW X) (F : i32 a1 → i32 a2 → i32 a3 → i32 x4 → i32 x5 → (0 ≤ x4 ∧ x4 < 17) ∧ ((((v 51 x4) ≤ x5) → i32 (x4 + (-1)) ∧ Ex mX11_from d 55 [(2, 47), (0, a1), (0, a2), (0, a3), (0, (x4 + (-1))), (3, 0)] [] X v mc ms Q) ∧ ((x5 < (v 51 x4)) → i32 (8 * x4) ∧ (i32 (8 * x4) → i32 ((8 * x4) + x5)) ∧ (0 ≤ ((8 * x4) + x5) ∧ ((8 * x4) + x5) < 136) ∧ ((((v 80 ((8 * x4) + x5)) = 0) → i32 (x5 + 1) ∧ Ex mX11_from d 101 [(2, 47), (0, a1), (0, a2), (0, a3), (0, x4), (0, (x5 + 1))] [] X v mc ms Q) ∧ ((¬ (v 80 ((8 * x4) + x5)) = 0) → ∃ P13 : Option AV → VV → Prop, Con mX11_marksUsed 2 0 0 [(2, 47), (0, x4), (0, x5)] X v (fun o X1 v1 => X1 = X ∧ P13 o v1) ∧ ∀ (w15 : VV), P13 none w15 → i32 (x5 + 1) ∧ Ex mX11_from d 101 [(2, 47), (0, a1), (0, a2), (0, a3), (0, x4), (0, (x5 + 1))] [] X w15 mc ms Q))))) : Ex mX11_from d 101 [(2, 47), (0, a1), (0, a2), (0, a3), (0, x4), (0, x5)] [] X v mc ms Q := by
  refine x_li32 (i := 1) rfl (fun ha1 => ?_)
  have F := F ha1
  refine x_li32 (i := 2) rfl (fun ha2 => ?_)
  have F := F ha2
  refine x_li32 (i := 3) rfl (fun ha3 => ?_)
  have F := F ha3
  refine x_li32 (i := 4) rfl (fun hx4 => ?_)
  have F := F hx4
  refine x_li32 (i := 5) rfl (fun hx5 => ?_)
  have F := F hx5
  refine x_iload dX11_from_101 rfl ?_
  refine x_aload_n dX11_from_103 rfl ?_
  refine x_getr (r' := 51) flX11_21 dX11_from_104 (sW47 hW) (gW47 hW) (rW47_4 hW) rfl (Nat.le_of_ble_eq_true rfl) ?_
  refine x_iload dX11_from_107 rfl ?_
  obtain ⟨hi, F⟩ := F
  refine x_iald (e := (v 51 x4)) dX11_from_109 (sW51 hW) (gW51 hW) hi rfl ?_
  refine x_icmp_ge 143 dX11_from_110 rfl (fun hc => ?_) (fun hc => ?_)
  · have F := F.1 hc
    obtain ⟨hz, F⟩ := F
    refine x_iinc [(2, 47), (0, a1), (0, a2), (0, a3), (0, (x4 + (-1))), (0, x5)] dX11_from_143 rfl rfl (Nat.le_of_ble_eq_true rfl) hz ?_
    refine x_goto 55 dX11_from_146 rfl ?_
    exact x_less [(2, 47), (0, a1), (0, a2), (0, a3), (0, (x4 + (-1))), (3, 0)] ⟨Or.inr rfl, ⟨Or.inr rfl, ⟨Or.inr rfl, ⟨Or.inr rfl, ⟨Or.inr rfl, ⟨Or.inl rfl, trivial⟩⟩⟩⟩⟩⟩ F
  · have F := F.2 hc
    refine x_aload_n dX11_from_113 rfl ?_
    refine x_getr (r' := 80) flX11_138 dX11_from_114 (sW47 hW) (gW47 hW) (rW47_56 hW) rfl (Nat.le_of_ble_eq_true rfl) ?_
    refine x_bipush dX11_from_117 kb_8 (i32_of rfl) ?_
    refine x_iload dX11_from_119 rfl ?_
    obtain ⟨hz, F⟩ := F
    refine x_imul dX11_from_121 hz ?_
    refine x_iload dX11_from_122 rfl ?_
    refine x_si32 (i := 1) rfl (fun hk1 => ?_)
    obtain ⟨hz, F⟩ := F
    have hz := hz hk1
    refine x_iadd dX11_from_124 hz ?_
    obtain ⟨hi, F⟩ := F
    refine x_zald (e := (v 80 ((8 * x4) + x5))) dX11_from_125 (sW80 hW) (gW80 hW) hi rfl ?_
    refine x_if_eq 137 dX11_from_126 rfl (fun hc => ?_) (fun hc => ?_)
    · have F := F.1 hc
      obtain ⟨hz, F⟩ := F
      refine x_iinc [(2, 47), (0, a1), (0, a2), (0, a3), (0, x4), (0, (x5 + 1))] dX11_from_137 rfl rfl (Nat.le_of_ble_eq_true rfl) hz ?_
      refine x_goto 101 dX11_from_140 rfl ?_
      exact F
    · have F := F.2 hc
      refine x_aload_n dX11_from_129 rfl ?_
      refine x_iload dX11_from_130 rfl ?_
      refine x_iload dX11_from_132 rfl ?_
      obtain ⟨P13, hC, F⟩ := F
      refine x_inv dX11_from_134 mlX11_336 hC (sW47 hW) (Nat.le_of_ble_eq_true rfl) (gW47 hW) rfl rfl (by omega) (Nat.zero_le _) (Nat.zero_le _) (Nat.le_of_ble_eq_true rfl) (fun o1 Y16 w15 ht hP => ?_)
      obtain rfl : o1 = none := ht
      obtain ⟨rfl, hP⟩ := hP
      have F := F w15 hP
      obtain ⟨hz, F⟩ := F
      refine x_iinc [(2, 47), (0, a1), (0, a2), (0, a3), (0, x4), (0, (x5 + 1))] dX11_from_137 rfl rfl (Nat.le_of_ble_eq_true rfl) hz ?_
      refine x_goto 101 dX11_from_140 rfl ?_
      exact F

set_option maxRecDepth 100000 in
set_option maxHeartbeats 4000000 in
theorem bX11_from_157 {d mc ms : Nat} {X : XX} {v : VV} {Q : QQ} (a1 : Int) (a2 : Int) (a3 : Int) (x4 : Int) (hd : 3 ≤ d) (hW : SW X) (F : i32 a1 → i32 a2 → i32 a3 → i32 x4 → (((136 ≤ x4) → Q (some (0, (v 47 57))) X v) ∧ ((x4 < 136) → (0 ≤ x4 ∧ x4 < 136) ∧ ((((v 80 x4) = 0) → i32 (x4 + 1) ∧ Ex mX11_from d 157 [(2, 47), (0, a1), (0, a2), (0, a3), (0, (x4 + 1)), (3, 0)] [] X v mc ms Q) ∧ ((¬ (v 80 x4) = 0) → (((a3 < 2) → ∃ P17 : Option AV → VV → Prop, Con mX11_finds 0 0 0 [(2, 47), (0, x4)] X v (fun o X1 v1 => X1 = X ∧ P17 o v1) ∧ ∀ (w19 : VV), P17 none w19 → i32 (x4 + 1) ∧ Ex mX11_from d 157 [(2, 47), (0, a1), (0, a2), (0, a3), (0, (x4 + 1)), (3, 0)] [] X w19 mc ms Q) ∧ ((2 ≤ a3) → (0 ≤ x4) ∧ (0 ≤ (x4 / 8) ∧ (x4 / 8) < 17) ∧ (((¬ (v 50 (x4 / 8)) = 0) → i32 (x4 + 1) ∧ Ex mX11_from d 157 [(2, 47), (0, a1), (0, a2), (0, a3), (0, (x4 + 1)), (3, 0)] [] X v mc ms Q) ∧ (((v 50 (x4 / 8)) = 0) → ∃ P21 : Option AV → VV → Prop, Con mX11_finds 0 0 0 [(2, 47), (0, x4)] X v (fun o X1 v1 => X1 = X ∧ P21 o v1) ∧ ∀ (w23 : VV), P21 none w23 → i32 (x4 + 1) ∧ Ex mX11_from d 157 [(2, 47), (0, a1), (0, a2), (0, a3), (0, (x4 + 1)), (3, 0)] [] X w23 mc ms Q))))))))) : Ex mX11_from d 157 [(2, 47), (0, a1), (0, a2), (0, a3), (0, x4), (3, 0)] [] X v mc ms Q := by
  refine x_li32 (i := 1) rfl (fun ha1 => ?_)
  have F := F ha1
  refine x_li32 (i := 2) rfl (fun ha2 => ?_)
  have F := F ha2
  refine x_li32 (i := 3) rfl (fun ha3 => ?_)
  have F := F ha3
  refine x_li32 (i := 4) rfl (fun hx4 => ?_)
  have F := F hx4
  refine x_iload dX11_from_157 rfl ?_
  refine x_sipush dX11_from_159 ks_136 (i32_of rfl) ?_
  refine x_icmp_ge 205 dX11_from_162 rfl (fun hc => ?_) (fun hc => ?_)
  · have F := F.1 hc
    refine x_aload_n dX11_from_205 rfl ?_
    refine x_geti (e := (v 47 57)) 0 flX11_324 dX11_from_206 (sW47 hW) (gW47 hW) rfl rfl (Nat.le_of_ble_eq_true rfl) (tagn2 rfl) ?_
    exact x_ret (some (0, (v 47 57))) rfl ⟨dX11_from_209, Or.inl rfl⟩ F
  · have F := F.2 hc
    refine x_aload_n dX11_from_165 rfl ?_
    refine x_getr (r' := 80) flX11_138 dX11_from_166 (sW47 hW) (gW47 hW) (rW47_56 hW) rfl (Nat.le_of_ble_eq_true rfl) ?_
    refine x_iload dX11_from_169 rfl ?_
    obtain ⟨hi, F⟩ := F
    refine x_zald (e := (v 80 x4)) dX11_from_171 (sW80 hW) (gW80 hW) hi rfl ?_
    refine x_if_eq 199 dX11_from_172 rfl (fun hc => ?_) (fun hc => ?_)
    · have F := F.1 hc
      obtain ⟨hz, F⟩ := F
      refine x_iinc [(2, 47), (0, a1), (0, a2), (0, a3), (0, (x4 + 1)), (3, 0)] dX11_from_199 rfl rfl (Nat.le_of_ble_eq_true rfl) hz ?_
      refine x_goto 157 dX11_from_202 rfl ?_
      exact F
    · have F := F.2 hc
      refine x_iload_n dX11_from_175 rfl ?_
      refine x_iconst dX11_from_176 rfl (i32_of rfl) ?_
      refine x_icmp_lt 193 dX11_from_177 rfl (fun hc => ?_) (fun hc => ?_)
      · have F := F.1 hc
        refine x_aload_n dX11_from_193 rfl ?_
        refine x_iload dX11_from_194 rfl ?_
        obtain ⟨P17, hC, F⟩ := F
        refine x_inv dX11_from_196 mlX11_339 hC (sW47 hW) (Nat.le_of_ble_eq_true rfl) (gW47 hW) rfl rfl (by omega) (Nat.zero_le _) (Nat.zero_le _) (Nat.le_of_ble_eq_true rfl) (fun o1 Y20 w19 ht hP => ?_)
        obtain rfl : o1 = none := ht
        obtain ⟨rfl, hP⟩ := hP
        have F := F w19 hP
        obtain ⟨hz, F⟩ := F
        refine x_iinc [(2, 47), (0, a1), (0, a2), (0, a3), (0, (x4 + 1)), (3, 0)] dX11_from_199 rfl rfl (Nat.le_of_ble_eq_true rfl) hz ?_
        refine x_goto 157 dX11_from_202 rfl ?_
        exact F
      · have F := F.2 hc
        refine x_aload_n dX11_from_180 rfl ?_
        refine x_getr (r' := 50) flX11_17 dX11_from_181 (sW47 hW) (gW47 hW) (rW47_3 hW) rfl (Nat.le_of_ble_eq_true rfl) ?_
        refine x_iload dX11_from_184 rfl ?_
        refine x_bipush dX11_from_186 kb_8 (i32_of rfl) ?_
        obtain ⟨hz, F⟩ := F
        refine x_si32 (i := 0) rfl (fun hk0 => ?_)
        refine x_si32 (i := 1) rfl (fun hk1 => ?_)
        refine x_idiv (z := (x4 / 8)) dX11_from_188 (idiv_ne hk0 (by decide)) (idiv_nn hk1 hk0 hz (by decide)) (idiv_ok hk1 hk0 hz (by decide)) ?_
        obtain ⟨hi, F⟩ := F
        refine x_iald (e := (v 50 (x4 / 8))) dX11_from_189 (sW50 hW) (gW50 hW) hi rfl ?_
        refine x_if_ne 199 dX11_from_190 rfl (fun hc => ?_) (fun hc => ?_)
        · have F := F.1 hc
          obtain ⟨hz, F⟩ := F
          refine x_iinc [(2, 47), (0, a1), (0, a2), (0, a3), (0, (x4 + 1)), (3, 0)] dX11_from_199 rfl rfl (Nat.le_of_ble_eq_true rfl) hz ?_
          refine x_goto 157 dX11_from_202 rfl ?_
          exact F
        · have F := F.2 hc
          refine x_aload_n dX11_from_193 rfl ?_
          refine x_iload dX11_from_194 rfl ?_
          obtain ⟨P21, hC, F⟩ := F
          refine x_inv dX11_from_196 mlX11_339 hC (sW47 hW) (Nat.le_of_ble_eq_true rfl) (gW47 hW) rfl rfl (by omega) (Nat.zero_le _) (Nat.zero_le _) (Nat.le_of_ble_eq_true rfl) (fun o1 Y24 w23 ht hP => ?_)
          obtain rfl : o1 = none := ht
          obtain ⟨rfl, hP⟩ := hP
          have F := F w23 hP
          obtain ⟨hz, F⟩ := F
          refine x_iinc [(2, 47), (0, a1), (0, a2), (0, a3), (0, (x4 + 1)), (3, 0)] dX11_from_199 rfl rfl (Nat.le_of_ble_eq_true rfl) hz ?_
          refine x_goto 157 dX11_from_202 rfl ?_
          exact F

set_option maxRecDepth 100000 in
set_option maxHeartbeats 4000000 in
theorem bX11_touches_0 {d mc ms : Nat} {X : XX} {v : VV} {Q : QQ} (a1 : Int) (a2 : Int) (hd : 3 ≤ d) (hW : SW X) (F : i32 a1 → i32 a2 → ∃ P1 : Option AV → VV → Prop, Con mX11_clears 0 0 0 [(2, 47)] X v (fun o X1 v1 => X1 = X ∧ P1 o v1) ∧ ∀ (w3 : VV), P1 none w3 → i32 (8 * a1) ∧ (i32 (8 * a1) → i32 ((8 * a1) + a2)) ∧ (0 ≤ ((8 * a1) + a2) ∧ ((8 * a1) + a2) < 136) ∧ i32 (a1 + 1) ∧ Ex mX11_touches d 20 [(2, 47), (0, a1), (0, a2), (0, (a1 + 1)), (3, 0), (3, 0)] [] X (upd2 w3 80 ((8 * a1) + a2) 1) mc ms Q) : Ex mX11_touches d 0 [(2, 47), (0, a1), (0, a2), (3, 0), (3, 0), (3, 0)] [] X v mc ms Q := by
  refine x_li32 (i := 1) rfl (fun ha1 => ?_)
  have F := F ha1
  refine x_li32 (i := 2) rfl (fun ha2 => ?_)
  have F := F ha2
  refine x_aload_n dX11_touches_0 rfl ?_
  obtain ⟨P1, hC, F⟩ := F
  refine x_inv dX11_touches_1 mlX11_333 hC (sW47 hW) (Nat.le_of_ble_eq_true rfl) (gW47 hW) rfl rfl (by omega) (Nat.zero_le _) (Nat.zero_le _) (Nat.le_of_ble_eq_true rfl) (fun o1 Y4 w3 ht hP => ?_)
  obtain rfl : o1 = none := ht
  obtain ⟨rfl, hP⟩ := hP
  have F := F w3 hP
  refine x_aload_n dX11_touches_4 rfl ?_
  refine x_getr (r' := 80) flX11_138 dX11_touches_5 (sW47 hW) (gW47 hW) (rW47_56 hW) rfl (Nat.le_of_ble_eq_true rfl) ?_
  refine x_bipush dX11_touches_8 kb_8 (i32_of rfl) ?_
  refine x_iload_n dX11_touches_10 rfl ?_
  obtain ⟨hz, F⟩ := F
  refine x_imul dX11_touches_11 hz ?_
  refine x_iload_n dX11_touches_12 rfl ?_
  refine x_si32 (i := 1) rfl (fun hk1 => ?_)
  obtain ⟨hz, F⟩ := F
  have hz := hz hk1
  refine x_iadd dX11_touches_13 hz ?_
  refine x_iconst dX11_touches_14 rfl (i32_of rfl) ?_
  obtain ⟨hi, F⟩ := F
  refine x_zast dX11_touches_15 (sW80 hW) (gW80 hW) hi (Or.inr rfl) ?_
  refine x_iload_n dX11_touches_16 rfl ?_
  refine x_iconst dX11_touches_17 rfl (i32_of rfl) ?_
  obtain ⟨hz, F⟩ := F
  refine x_iadd dX11_touches_18 hz ?_
  refine x_istore_n [(2, 47), (0, a1), (0, a2), (0, (a1 + 1)), (3, 0), (3, 0)] dX11_touches_19 rfl (Nat.le_of_ble_eq_true rfl) ?_
  exact F

set_option maxRecDepth 100000 in
set_option maxHeartbeats 4000000 in
theorem bX11_touches_20 {d mc ms : Nat} {X : XX} {v : VV} {Q : QQ} (a1 : Int) (a2 : Int) (x3 : Int) (hd : 3 ≤ d) (hW : SW X) (F : i32 a1 → i32 a2 → i32 x3 → ((((v 47 0) ≤ x3) → Q none X v) ∧ ((x3 < (v 47 0)) → (0 ≤ x3 ∧ x3 < 17) ∧ ((((v 48 x3) = 0) → i32 (x3 + 1) ∧ Ex mX11_touches d 20 [(2, 47), (0, a1), (0, a2), (0, (x3 + 1)), (3, 0), (3, 0)] [] X v mc ms Q) ∧ ((¬ (v 48 x3) = 0) → (0 ≤ x3 ∧ x3 < 17) ∧ ((((v 50 x3) = 0) → i32 (x3 + 1) ∧ Ex mX11_touches d 20 [(2, 47), (0, a1), (0, a2), (0, (x3 + 1)), (3, 0), (3, 0)] [] X v mc ms Q) ∧ ((¬ (v 50 x3) = 0) → (0 ≤ x3 ∧ x3 < 17) ∧ (((¬ (v 50 x3) = 3) → ∃ P5 : Option AV → VV → Prop, Con mX11_hasWhere 0 0 0 [(2, 47), (0, x3)] X v (fun o X1 v1 => X1 = X ∧ P5 o v1) ∧ ∀ (r6 : Int) (w7 : VV), P5 (some (0, r6)) w7 → (((r6 = 0) → Ex mX11_touches d 97 [(2, 47), (0, a1), (0, a2), (0, x3), (0, 0), (0, 0)] [] X w7 mc ms Q) ∧ ((¬ r6 = 0) → ∃ P9 : Option AV → VV → Prop, Con mX11_usesMarked 2 0 0 [(2, 47), (0, x3), (0, 6)] X w7 (fun o X1 v1 => X1 = X ∧ P9 o v1) ∧ ∀ (r10 : Int) (w11 : VV), P9 (some (0, r10)) w11 → (((¬ r10 = 0) → Ex mX11_touches d 97 [(2, 47), (0, a1), (0, a2), (0, x3), (0, 1), (0, 0)] [] X w11 mc ms Q) ∧ ((r10 = 0) → ∃ P13 : Option AV → VV → Prop, Con mX11_usesMarked 2 0 0 [(2, 47), (0, x3), (0, 7)] X w11 (fun o X1 v1 => X1 = X ∧ P13 o v1) ∧ ∀ (r14 : Int) (w15 : VV), P13 (some (0, r14)) w15 → (((r14 = 0) → Ex mX11_touches d 97 [(2, 47), (0, a1), (0, a2), (0, x3), (0, 0), (0, 0)] [] X w15 mc ms Q) ∧ ((¬ r14 = 0) → Ex mX11_touches d 97 [(2, 47), (0, a1), (0, a2), (0, x3), (0, 1), (0, 0)] [] X w15 mc ms Q))))))) ∧ (((v 50 x3) = 3) → i32 (x3 + 1) ∧ Ex mX11_touches d 20 [(2, 47), (0, a1), (0, a2), (0, (x3 + 1)), (3, 0), (3, 0)] [] X v mc ms Q))))))))) : Ex mX11_touches d 20 [(2, 47), (0, a1), (0, a2), (0, x3), (3, 0), (3, 0)] [] X v mc ms Q := by
  refine x_li32 (i := 1) rfl (fun ha1 => ?_)
  have F := F ha1
  refine x_li32 (i := 2) rfl (fun ha2 => ?_)
  have F := F ha2
  refine x_li32 (i := 3) rfl (fun hx3 => ?_)
  have F := F hx3
  refine x_iload_n dX11_touches_20 rfl ?_
  refine x_aload_n dX11_touches_21 rfl ?_
  refine x_geti (e := (v 47 0)) 0 flX11_159 dX11_touches_22 (sW47 hW) (gW47 hW) rfl rfl (Nat.le_of_ble_eq_true rfl) (tagn2 rfl) ?_
  refine x_icmp_ge 148 dX11_touches_25 rfl (fun hc => ?_) (fun hc => ?_)
  · have F := F.1 hc
    exact x_ret none rfl ⟨dX11_touches_148, rfl⟩ F
  · have F := F.2 hc
    refine x_aload_n dX11_touches_28 rfl ?_
    refine x_getr (r' := 48) flX11_7 dX11_touches_29 (sW47 hW) (gW47 hW) (rW47_1 hW) rfl (Nat.le_of_ble_eq_true rfl) ?_
    refine x_iload_n dX11_touches_32 rfl ?_
    obtain ⟨hi, F⟩ := F
    refine x_zald (e := (v 48 x3)) dX11_touches_33 (sW48 hW) (gW48 hW) hi rfl ?_
    refine x_if_eq 142 dX11_touches_34 rfl (fun hc => ?_) (fun hc => ?_)
    · have F := F.1 hc
      obtain ⟨hz, F⟩ := F
      refine x_iinc [(2, 47), (0, a1), (0, a2), (0, (x3 + 1)), (3, 0), (3, 0)] dX11_touches_142 rfl rfl (Nat.le_of_ble_eq_true rfl) hz ?_
      refine x_goto 20 dX11_touches_145 rfl ?_
      exact F
    · have F := F.2 hc
      refine x_aload_n dX11_touches_37 rfl ?_
      refine x_getr (r' := 50) flX11_17 dX11_touches_38 (sW47 hW) (gW47 hW) (rW47_3 hW) rfl (Nat.le_of_ble_eq_true rfl) ?_
      refine x_iload_n dX11_touches_41 rfl ?_
      obtain ⟨hi, F⟩ := F
      refine x_iald (e := (v 50 x3)) dX11_touches_42 (sW50 hW) (gW50 hW) hi rfl ?_
      refine x_if_eq 142 dX11_touches_43 rfl (fun hc => ?_) (fun hc => ?_)
      · have F := F.1 hc
        obtain ⟨hz, F⟩ := F
        refine x_iinc [(2, 47), (0, a1), (0, a2), (0, (x3 + 1)), (3, 0), (3, 0)] dX11_touches_142 rfl rfl (Nat.le_of_ble_eq_true rfl) hz ?_
        refine x_goto 20 dX11_touches_145 rfl ?_
        exact F
      · have F := F.2 hc
        refine x_aload_n dX11_touches_46 rfl ?_
        refine x_getr (r' := 50) flX11_17 dX11_touches_47 (sW47 hW) (gW47 hW) (rW47_3 hW) rfl (Nat.le_of_ble_eq_true rfl) ?_
        refine x_iload_n dX11_touches_50 rfl ?_
        obtain ⟨hi, F⟩ := F
        refine x_iald (e := (v 50 x3)) dX11_touches_51 (sW50 hW) (gW50 hW) hi rfl ?_
        refine x_iconst dX11_touches_52 rfl (i32_of rfl) ?_
        refine x_icmp_ne 59 dX11_touches_53 rfl (fun hc => ?_) (fun hc => ?_)
        · have F := F.1 hc
          refine x_aload_n dX11_touches_59 rfl ?_
          refine x_iload_n dX11_touches_60 rfl ?_
          obtain ⟨P5, hC, F⟩ := F
          refine x_inv dX11_touches_61 mlX11_295 hC (sW47 hW) (Nat.le_of_ble_eq_true rfl) (gW47 hW) rfl rfl (by omega) (Nat.zero_le _) (Nat.zero_le _) (Nat.le_of_ble_eq_true rfl) (fun o1 Y8 w7 ht hP => ?_)
          obtain ⟨r6, rfl⟩ : ∃ i, o1 = some (0, i) := ht
          obtain ⟨rfl, hP⟩ := hP
          have F := F r6 w7 hP
          refine x_if_eq 91 dX11_touches_64 rfl (fun hc => ?_) (fun hc => ?_)
          · have F := F.1 hc
            refine x_iconst dX11_touches_91 rfl (i32_of rfl) ?_
            refine x_istore [(2, 47), (0, a1), (0, a2), (0, x3), (0, 0), (3, 0)] dX11_touches_92 rfl (Nat.le_of_ble_eq_true rfl) ?_
            refine x_iconst dX11_touches_94 rfl (i32_of rfl) ?_
            refine x_istore [(2, 47), (0, a1), (0, a2), (0, x3), (0, 0), (0, 0)] dX11_touches_95 rfl (Nat.le_of_ble_eq_true rfl) ?_
            exact F
          · have F := F.2 hc
            refine x_aload_n dX11_touches_67 rfl ?_
            refine x_iload_n dX11_touches_68 rfl ?_
            refine x_bipush dX11_touches_69 kb_6 (i32_of rfl) ?_
            obtain ⟨P9, hC, F⟩ := F
            refine x_inv dX11_touches_71 mlX11_342 hC (sW47 hW) (Nat.le_of_ble_eq_true rfl) (gW47 hW) rfl rfl (by omega) (Nat.zero_le _) (Nat.zero_le _) (Nat.le_of_ble_eq_true rfl) (fun o1 Y12 w11 ht hP => ?_)
            obtain ⟨r10, rfl⟩ : ∃ i, o1 = some (0, i) := ht
            obtain ⟨rfl, hP⟩ := hP
            have F := F r10 w11 hP
            refine x_if_ne 87 dX11_touches_74 rfl (fun hc => ?_) (fun hc => ?_)
            · have F := F.1 hc
              refine x_iconst dX11_touches_87 rfl (i32_of rfl) ?_
              refine x_goto 92 dX11_touches_88 rfl ?_
              refine x_istore [(2, 47), (0, a1), (0, a2), (0, x3), (0, 1), (3, 0)] dX11_touches_92 rfl (Nat.le_of_ble_eq_true rfl) ?_
              refine x_iconst dX11_touches_94 rfl (i32_of rfl) ?_
              refine x_istore [(2, 47), (0, a1), (0, a2), (0, x3), (0, 1), (0, 0)] dX11_touches_95 rfl (Nat.le_of_ble_eq_true rfl) ?_
              exact F
            · have F := F.2 hc
              refine x_aload_n dX11_touches_77 rfl ?_
              refine x_iload_n dX11_touches_78 rfl ?_
              refine x_bipush dX11_touches_79 kb_7 (i32_of rfl) ?_
              obtain ⟨P13, hC, F⟩ := F
              refine x_inv dX11_touches_81 mlX11_342 hC (sW47 hW) (Nat.le_of_ble_eq_true rfl) (gW47 hW) rfl rfl (by omega) (Nat.zero_le _) (Nat.zero_le _) (Nat.le_of_ble_eq_true rfl) (fun o1 Y16 w15 ht hP => ?_)
              obtain ⟨r14, rfl⟩ : ∃ i, o1 = some (0, i) := ht
              obtain ⟨rfl, hP⟩ := hP
              have F := F r14 w15 hP
              refine x_if_eq 91 dX11_touches_84 rfl (fun hc => ?_) (fun hc => ?_)
              · have F := F.1 hc
                refine x_iconst dX11_touches_91 rfl (i32_of rfl) ?_
                refine x_istore [(2, 47), (0, a1), (0, a2), (0, x3), (0, 0), (3, 0)] dX11_touches_92 rfl (Nat.le_of_ble_eq_true rfl) ?_
                refine x_iconst dX11_touches_94 rfl (i32_of rfl) ?_
                refine x_istore [(2, 47), (0, a1), (0, a2), (0, x3), (0, 0), (0, 0)] dX11_touches_95 rfl (Nat.le_of_ble_eq_true rfl) ?_
                exact F
              · have F := F.2 hc
                refine x_iconst dX11_touches_87 rfl (i32_of rfl) ?_
                refine x_goto 92 dX11_touches_88 rfl ?_
                refine x_istore [(2, 47), (0, a1), (0, a2), (0, x3), (0, 1), (3, 0)] dX11_touches_92 rfl (Nat.le_of_ble_eq_true rfl) ?_
                refine x_iconst dX11_touches_94 rfl (i32_of rfl) ?_
                refine x_istore [(2, 47), (0, a1), (0, a2), (0, x3), (0, 1), (0, 0)] dX11_touches_95 rfl (Nat.le_of_ble_eq_true rfl) ?_
                exact F
        · have F := F.2 hc
          refine x_goto 142 dX11_touches_56 rfl ?_
          obtain ⟨hz, F⟩ := F
          refine x_iinc [(2, 47), (0, a1), (0, a2), (0, (x3 + 1)), (3, 0), (3, 0)] dX11_touches_142 rfl rfl (Nat.le_of_ble_eq_true rfl) hz ?_
          refine x_goto 20 dX11_touches_145 rfl ?_
          exact F

set_option maxRecDepth 100000 in
set_option maxHeartbeats 4000000 in
theorem bX11_touches_97 {d mc ms : Nat} {X : XX} {v : VV} {Q : QQ} (a1 : Int) (a2 : Int) (x3 : Int) (x4 : Int) (x5 : Int) (hd : 3 ≤ d) (hW : SW X) (F : i32 a1 → i32 a2 → i32 x3 → i32 x4 → i32 x5 → (0 ≤ x3 ∧ x3 < 17) ∧ ((((v 51 x3) ≤ x5) → i32 (x3 + 1) ∧ Ex mX11_touches d 20 [(2, 47), (0, a1), (0, a2), (0, (x3 + 1)), (3, 0), (3, 0)] [] X v mc ms Q) ∧ ((x5 < (v 51 x3)) → (((¬ x4 = 0) → Ex mX11_touches d 123 [(2, 47), (0, a1), (0, a2), (0, x3), (0, x4), (0, x5)] [] X v mc ms Q) ∧ ((x4 = 0) → ∃ P17 : Option AV → VV → Prop, Con mX11_usesMarked 2 0 0 [(2, 47), (0, x3), (0, x5)] X v (fun o X1 v1 => X1 = X ∧ P17 o v1) ∧ ∀ (r18 : Int) (w19 : VV), P17 (some (0, r18)) w19 → (((r18 = 0) → i32 (x5 + 1) ∧ Ex mX11_touches d 97 [(2, 47), (0, a1), (0, a2), (0, x3), (0, x4), (0, (x5 + 1))] [] X w19 mc ms Q) ∧ ((¬ r18 = 0) → Ex mX11_touches d 123 [(2, 47), (0, a1), (0, a2), (0, x3), (0, x4), (0, x5)] [] X w19 mc ms Q))))))) : Ex mX11_touches d 97 [(2, 47), (0, a1), (0, a2), (0, x3), (0, x4), (0, x5)] [] X v mc ms Q := by
  refine x_li32 (i := 1) rfl (fun ha1 => ?_)
  have F := F ha1
  refine x_li32 (i := 2) rfl (fun ha2 => ?_)
  have F := F ha2
  refine x_li32 (i := 3) rfl (fun hx3 => ?_)
  have F := F hx3
  refine x_li32 (i := 4) rfl (fun hx4 => ?_)
  have F := F hx4
  refine x_li32 (i := 5) rfl (fun hx5 => ?_)
  have F := F hx5
  refine x_iload dX11_touches_97 rfl ?_
  refine x_aload_n dX11_touches_99 rfl ?_
  refine x_getr (r' := 51) flX11_21 dX11_touches_100 (sW47 hW) (gW47 hW) (rW47_4 hW) rfl (Nat.le_of_ble_eq_true rfl) ?_
  refine x_iload_n dX11_touches_103 rfl ?_
  obtain ⟨hi, F⟩ := F
  refine x_iald (e := (v 51 x3)) dX11_touches_104 (sW51 hW) (gW51 hW) hi rfl ?_
  refine x_icmp_ge 142 dX11_touches_105 rfl (fun hc => ?_) (fun hc => ?_)
  · have F := F.1 hc
    obtain ⟨hz, F⟩ := F
    refine x_iinc [(2, 47), (0, a1), (0, a2), (0, (x3 + 1)), (0, x4), (0, x5)] dX11_touches_142 rfl rfl (Nat.le_of_ble_eq_true rfl) hz ?_
    refine x_goto 20 dX11_touches_145 rfl ?_
    exact x_less [(2, 47), (0, a1), (0, a2), (0, (x3 + 1)), (3, 0), (3, 0)] ⟨Or.inr rfl, ⟨Or.inr rfl, ⟨Or.inr rfl, ⟨Or.inr rfl, ⟨Or.inl rfl, ⟨Or.inl rfl, trivial⟩⟩⟩⟩⟩⟩ F
  · have F := F.2 hc
    refine x_iload dX11_touches_108 rfl ?_
    refine x_if_ne 123 dX11_touches_110 rfl (fun hc => ?_) (fun hc => ?_)
    · have F := F.1 hc
      exact F
    · have F := F.2 hc
      refine x_aload_n dX11_touches_113 rfl ?_
      refine x_iload_n dX11_touches_114 rfl ?_
      refine x_iload dX11_touches_115 rfl ?_
      obtain ⟨P17, hC, F⟩ := F
      refine x_inv dX11_touches_117 mlX11_342 hC (sW47 hW) (Nat.le_of_ble_eq_true rfl) (gW47 hW) rfl rfl (by omega) (Nat.zero_le _) (Nat.zero_le _) (Nat.le_of_ble_eq_true rfl) (fun o1 Y20 w19 ht hP => ?_)
      obtain ⟨r18, rfl⟩ : ∃ i, o1 = some (0, i) := ht
      obtain ⟨rfl, hP⟩ := hP
      have F := F r18 w19 hP
      refine x_if_eq 136 dX11_touches_120 rfl (fun hc => ?_) (fun hc => ?_)
      · have F := F.1 hc
        obtain ⟨hz, F⟩ := F
        refine x_iinc [(2, 47), (0, a1), (0, a2), (0, x3), (0, x4), (0, (x5 + 1))] dX11_touches_136 rfl rfl (Nat.le_of_ble_eq_true rfl) hz ?_
        refine x_goto 97 dX11_touches_139 rfl ?_
        exact F
      · have F := F.2 hc
        exact F

set_option maxRecDepth 100000 in
set_option maxHeartbeats 4000000 in
theorem bX11_touches_123 {d mc ms : Nat} {X : XX} {v : VV} {Q : QQ} (a1 : Int) (a2 : Int) (x3 : Int) (x4 : Int) (x5 : Int) (hd : 3 ≤ d) (hW : SW X) (F : i32 a1 → i32 a2 → i32 x3 → i32 x4 → i32 x5 → i32 (8 * x3) ∧ (i32 (8 * x3) → i32 ((8 * x3) + x5)) ∧ (0 ≤ ((8 * x3) + x5) ∧ ((8 * x3) + x5) < 136) ∧ i32 (x5 + 1) ∧ Ex mX11_touches d 97 [(2, 47), (0, a1), (0, a2), (0, x3), (0, x4), (0, (x5 + 1))] [] X (upd2 v 80 ((8 * x3) + x5) 1) mc ms Q) : Ex mX11_touches d 123 [(2, 47), (0, a1), (0, a2), (0, x3), (0, x4), (0, x5)] [] X v mc ms Q := by
  refine x_li32 (i := 1) rfl (fun ha1 => ?_)
  have F := F ha1
  refine x_li32 (i := 2) rfl (fun ha2 => ?_)
  have F := F ha2
  refine x_li32 (i := 3) rfl (fun hx3 => ?_)
  have F := F hx3
  refine x_li32 (i := 4) rfl (fun hx4 => ?_)
  have F := F hx4
  refine x_li32 (i := 5) rfl (fun hx5 => ?_)
  have F := F hx5
  refine x_aload_n dX11_touches_123 rfl ?_
  refine x_getr (r' := 80) flX11_138 dX11_touches_124 (sW47 hW) (gW47 hW) (rW47_56 hW) rfl (Nat.le_of_ble_eq_true rfl) ?_
  refine x_bipush dX11_touches_127 kb_8 (i32_of rfl) ?_
  refine x_iload_n dX11_touches_129 rfl ?_
  obtain ⟨hz, F⟩ := F
  refine x_imul dX11_touches_130 hz ?_
  refine x_iload dX11_touches_131 rfl ?_
  refine x_si32 (i := 1) rfl (fun hk1 => ?_)
  obtain ⟨hz, F⟩ := F
  have hz := hz hk1
  refine x_iadd dX11_touches_133 hz ?_
  refine x_iconst dX11_touches_134 rfl (i32_of rfl) ?_
  obtain ⟨hi, F⟩ := F
  refine x_zast dX11_touches_135 (sW80 hW) (gW80 hW) hi (Or.inr rfl) ?_
  obtain ⟨hz, F⟩ := F
  refine x_iinc [(2, 47), (0, a1), (0, a2), (0, x3), (0, x4), (0, (x5 + 1))] dX11_touches_136 rfl rfl (Nat.le_of_ble_eq_true rfl) hz ?_
  refine x_goto 97 dX11_touches_139 rfl ?_
  exact F

set_option maxRecDepth 100000 in
set_option maxHeartbeats 4000000 in
theorem bX11_touch_0 {d mc ms : Nat} {X : XX} {v : VV} {Q : QQ} (a1 : Int) (a2 : Int) (hd : 4 ≤ d) (hW : SW X) (F : i32 a1 → i32 a2 → ∃ P1 : Option AV → VV → Prop, Con mX11_isColumn 1 0 0 [(2, 47), (0, a1), (0, a2)] X v (fun o X1 v1 => X1 = X ∧ P1 o v1) ∧ ∀ (r2 : Int) (w3 : VV), P1 (some (0, r2)) w3 → (((¬ r2 = 0) → ∃ P5 : Option AV → VV → Prop, Con mX11_touches 3 0 0 [(2, 47), (0, a1), (0, a2)] X w3 (fun o X1 v1 => X1 = X ∧ P5 o v1) ∧ ∀ (w7 : VV), P5 none w7 → Ex mX11_touch d 24 [(2, 47), (0, a1), (0, a2), (0, 0)] [] X (upd2 w7 47 57 0) mc ms Q) ∧ ((r2 = 0) → Q (some (0, (-1))) X w3))) : Ex mX11_touch d 0 [(2, 47), (0, a1), (0, a2), (3, 0)] [] X v mc ms Q := by
  refine x_li32 (i := 1) rfl (fun ha1 => ?_)
  have F := F ha1
  refine x_li32 (i := 2) rfl (fun ha2 => ?_)
  have F := F ha2
  refine x_aload_n dX11_touch_0 rfl ?_
  refine x_iload_n dX11_touch_1 rfl ?_
  refine x_iload_n dX11_touch_2 rfl ?_
  obtain ⟨P1, hC, F⟩ := F
  refine x_inv dX11_touch_3 mlX11_320 hC (sW47 hW) (Nat.le_of_ble_eq_true rfl) (gW47 hW) rfl rfl (by omega) (Nat.zero_le _) (Nat.zero_le _) (Nat.le_of_ble_eq_true rfl) (fun o1 Y4 w3 ht hP => ?_)
  obtain ⟨r2, rfl⟩ : ∃ i, o1 = some (0, i) := ht
  obtain ⟨rfl, hP⟩ := hP
  have F := F r2 w3 hP
  refine x_if_ne 11 dX11_touch_6 rfl (fun hc => ?_) (fun hc => ?_)
  · have F := F.1 hc
    refine x_aload_n dX11_touch_11 rfl ?_
    refine x_iload_n dX11_touch_12 rfl ?_
    refine x_iload_n dX11_touch_13 rfl ?_
    obtain ⟨P5, hC, F⟩ := F
    refine x_inv dX11_touch_14 mlX11_345 hC (sW47 hW) (Nat.le_of_ble_eq_true rfl) (gW47 hW) rfl rfl (by omega) (Nat.zero_le _) (Nat.zero_le _) (Nat.le_of_ble_eq_true rfl) (fun o1 Y8 w7 ht hP => ?_)
    obtain rfl : o1 = none := ht
    obtain ⟨rfl, hP⟩ := hP
    have F := F w7 hP
    refine x_aload_n dX11_touch_17 rfl ?_
    refine x_iconst dX11_touch_18 rfl (i32_of rfl) ?_
    refine x_puti 0 fwX11_324 dX11_touch_19 (sW47 hW) (gW47 hW) (fun h => Bool.noConfusion h) (Nat.le_of_ble_eq_true rfl) rfl (Or.inl ⟨rfl, Or.inl rfl⟩) ?_
    refine x_iconst dX11_touch_22 rfl (i32_of rfl) ?_
    refine x_istore_n [(2, 47), (0, a1), (0, a2), (0, 0)] dX11_touch_23 rfl (Nat.le_of_ble_eq_true rfl) ?_
    exact F
  · have F := F.2 hc
    refine x_iconst dX11_touch_9 rfl (i32_of rfl) ?_
    exact x_ret (some (0, (-1))) rfl ⟨dX11_touch_10, Or.inl rfl⟩ F

set_option maxRecDepth 100000 in
set_option maxHeartbeats 4000000 in
theorem bX11_touch_24 {d mc ms : Nat} {X : XX} {v : VV} {Q : QQ} (a1 : Int) (a2 : Int) (x3 : Int) (hd : 4 ≤ d) (hW : SW X) (F : i32 a1 → i32 a2 → i32 x3 → (((136 ≤ x3) → Q (some (0, (v 47 57))) X v) ∧ ((x3 < 136) → (0 ≤ x3 ∧ x3 < 136) ∧ ((((v 80 x3) = 0) → i32 (x3 + 1) ∧ Ex mX11_touch d 24 [(2, 47), (0, a1), (0, a2), (0, (x3 + 1))] [] X v mc ms Q) ∧ ((¬ (v 80 x3) = 0) → i32 (8 * a1) ∧ (i32 (8 * a1) → i32 ((8 * a1) + a2)) ∧ (((x3 = ((8 * a1) + a2)) → i32 (x3 + 1) ∧ Ex mX11_touch d 24 [(2, 47), (0, a1), (0, a2), (0, (x3 + 1))] [] X v mc ms Q) ∧ ((¬ x3 = ((8 * a1) + a2)) → ∃ P9 : Option AV → VV → Prop, Con mX11_finds 0 0 0 [(2, 47), (0, x3)] X v (fun o X1 v1 => X1 = X ∧ P9 o v1) ∧ ∀ (w11 : VV), P9 none w11 → i32 (x3 + 1) ∧ Ex mX11_touch d 24 [(2, 47), (0, a1), (0, a2), (0, (x3 + 1))] [] X w11 mc ms Q))))))) : Ex mX11_touch d 24 [(2, 47), (0, a1), (0, a2), (0, x3)] [] X v mc ms Q := by
  refine x_li32 (i := 1) rfl (fun ha1 => ?_)
  have F := F ha1
  refine x_li32 (i := 2) rfl (fun ha2 => ?_)
  have F := F ha2
  refine x_li32 (i := 3) rfl (fun hx3 => ?_)
  have F := F hx3
  refine x_iload_n dX11_touch_24 rfl ?_
  refine x_sipush dX11_touch_25 ks_136 (i32_of rfl) ?_
  refine x_icmp_ge 61 dX11_touch_28 rfl (fun hc => ?_) (fun hc => ?_)
  · have F := F.1 hc
    refine x_aload_n dX11_touch_61 rfl ?_
    refine x_geti (e := (v 47 57)) 0 flX11_324 dX11_touch_62 (sW47 hW) (gW47 hW) rfl rfl (Nat.le_of_ble_eq_true rfl) (tagn2 rfl) ?_
    exact x_ret (some (0, (v 47 57))) rfl ⟨dX11_touch_65, Or.inl rfl⟩ F
  · have F := F.2 hc
    refine x_aload_n dX11_touch_31 rfl ?_
    refine x_getr (r' := 80) flX11_138 dX11_touch_32 (sW47 hW) (gW47 hW) (rW47_56 hW) rfl (Nat.le_of_ble_eq_true rfl) ?_
    refine x_iload_n dX11_touch_35 rfl ?_
    obtain ⟨hi, F⟩ := F
    refine x_zald (e := (v 80 x3)) dX11_touch_36 (sW80 hW) (gW80 hW) hi rfl ?_
    refine x_if_eq 55 dX11_touch_37 rfl (fun hc => ?_) (fun hc => ?_)
    · have F := F.1 hc
      obtain ⟨hz, F⟩ := F
      refine x_iinc [(2, 47), (0, a1), (0, a2), (0, (x3 + 1))] dX11_touch_55 rfl rfl (Nat.le_of_ble_eq_true rfl) hz ?_
      refine x_goto 24 dX11_touch_58 rfl ?_
      exact F
    · have F := F.2 hc
      refine x_iload_n dX11_touch_40 rfl ?_
      refine x_bipush dX11_touch_41 kb_8 (i32_of rfl) ?_
      refine x_iload_n dX11_touch_43 rfl ?_
      obtain ⟨hz, F⟩ := F
      refine x_imul dX11_touch_44 hz ?_
      refine x_iload_n dX11_touch_45 rfl ?_
      refine x_si32 (i := 1) rfl (fun hk1 => ?_)
      obtain ⟨hz, F⟩ := F
      have hz := hz hk1
      refine x_iadd dX11_touch_46 hz ?_
      refine x_icmp_eq 55 dX11_touch_47 rfl (fun hc => ?_) (fun hc => ?_)
      · have F := F.1 hc
        obtain ⟨hz, F⟩ := F
        refine x_iinc [(2, 47), (0, a1), (0, a2), (0, (x3 + 1))] dX11_touch_55 rfl rfl (Nat.le_of_ble_eq_true rfl) hz ?_
        refine x_goto 24 dX11_touch_58 rfl ?_
        exact F
      · have F := F.2 hc
        refine x_aload_n dX11_touch_50 rfl ?_
        refine x_iload_n dX11_touch_51 rfl ?_
        obtain ⟨P9, hC, F⟩ := F
        refine x_inv dX11_touch_52 mlX11_339 hC (sW47 hW) (Nat.le_of_ble_eq_true rfl) (gW47 hW) rfl rfl (by omega) (Nat.zero_le _) (Nat.zero_le _) (Nat.le_of_ble_eq_true rfl) (fun o1 Y12 w11 ht hP => ?_)
        obtain rfl : o1 = none := ht
        obtain ⟨rfl, hP⟩ := hP
        have F := F w11 hP
        obtain ⟨hz, F⟩ := F
        refine x_iinc [(2, 47), (0, a1), (0, a2), (0, (x3 + 1))] dX11_touch_55 rfl rfl (Nat.le_of_ble_eq_true rfl) hz ?_
        refine x_goto 24 dX11_touch_58 rfl ?_
        exact F

set_option maxRecDepth 100000 in
set_option maxHeartbeats 4000000 in
theorem bX11_asked_0 {d mc ms : Nat} {X : XX} {v : VV} {Q : QQ} (a1 : Int) (a2 : Int) (hd : 4 ≤ d) (hW : SW X) (F : i32 a1 → i32 a2 → ∃ P1 : Option AV → VV → Prop, Con mX11_isColumn 1 0 0 [(2, 47), (0, a1), (0, a2)] X v (fun o X1 v1 => X1 = X ∧ P1 o v1) ∧ ∀ (r2 : Int) (w3 : VV), P1 (some (0, r2)) w3 → (((¬ r2 = 0) → ∃ P5 : Option AV → VV → Prop, Con mX11_touches 3 0 0 [(2, 47), (0, a1), (0, a2)] X w3 (fun o X1 v1 => X1 = X ∧ P5 o v1) ∧ ∀ (w7 : VV), P5 none w7 → Ex mX11_asked d 24 [(2, 47), (0, a1), (0, a2), (0, 0), (3, 0), (3, 0)] [] X (upd2 w7 47 57 0) mc ms Q) ∧ ((r2 = 0) → Q (some (0, (-1))) X w3))) : Ex mX11_asked d 0 [(2, 47), (0, a1), (0, a2), (3, 0), (3, 0), (3, 0)] [] X v mc ms Q := by
  refine x_li32 (i := 1) rfl (fun ha1 => ?_)
  have F := F ha1
  refine x_li32 (i := 2) rfl (fun ha2 => ?_)
  have F := F ha2
  refine x_aload_n dX11_asked_0 rfl ?_
  refine x_iload_n dX11_asked_1 rfl ?_
  refine x_iload_n dX11_asked_2 rfl ?_
  obtain ⟨P1, hC, F⟩ := F
  refine x_inv dX11_asked_3 mlX11_320 hC (sW47 hW) (Nat.le_of_ble_eq_true rfl) (gW47 hW) rfl rfl (by omega) (Nat.zero_le _) (Nat.zero_le _) (Nat.le_of_ble_eq_true rfl) (fun o1 Y4 w3 ht hP => ?_)
  obtain ⟨r2, rfl⟩ : ∃ i, o1 = some (0, i) := ht
  obtain ⟨rfl, hP⟩ := hP
  have F := F r2 w3 hP
  refine x_if_ne 11 dX11_asked_6 rfl (fun hc => ?_) (fun hc => ?_)
  · have F := F.1 hc
    refine x_aload_n dX11_asked_11 rfl ?_
    refine x_iload_n dX11_asked_12 rfl ?_
    refine x_iload_n dX11_asked_13 rfl ?_
    obtain ⟨P5, hC, F⟩ := F
    refine x_inv dX11_asked_14 mlX11_345 hC (sW47 hW) (Nat.le_of_ble_eq_true rfl) (gW47 hW) rfl rfl (by omega) (Nat.zero_le _) (Nat.zero_le _) (Nat.le_of_ble_eq_true rfl) (fun o1 Y8 w7 ht hP => ?_)
    obtain rfl : o1 = none := ht
    obtain ⟨rfl, hP⟩ := hP
    have F := F w7 hP
    refine x_aload_n dX11_asked_17 rfl ?_
    refine x_iconst dX11_asked_18 rfl (i32_of rfl) ?_
    refine x_puti 0 fwX11_324 dX11_asked_19 (sW47 hW) (gW47 hW) (fun h => Bool.noConfusion h) (Nat.le_of_ble_eq_true rfl) rfl (Or.inl ⟨rfl, Or.inl rfl⟩) ?_
    refine x_iconst dX11_asked_22 rfl (i32_of rfl) ?_
    refine x_istore_n [(2, 47), (0, a1), (0, a2), (0, 0), (3, 0), (3, 0)] dX11_asked_23 rfl (Nat.le_of_ble_eq_true rfl) ?_
    exact F
  · have F := F.2 hc
    refine x_iconst dX11_asked_9 rfl (i32_of rfl) ?_
    exact x_ret (some (0, (-1))) rfl ⟨dX11_asked_10, Or.inl rfl⟩ F

set_option maxRecDepth 100000 in
set_option maxHeartbeats 4000000 in
theorem bX11_asked_24 {d mc ms : Nat} {X : XX} {v : VV} {Q : QQ} (a1 : Int) (a2 : Int) (x3 : Int) (hd : 4 ≤ d) (hW : SW X) (F : i32 a1 → i32 a2 → i32 x3 → ((((v 47 59) ≤ x3) → Q (some (0, (v 47 57))) X v) ∧ ((x3 < (v 47 59)) → Ex mX11_asked d 38 [(2, 47), (0, a1), (0, a2), (0, x3), (0, 0), (0, 0)] [] X v mc ms Q))) : Ex mX11_asked d 24 [(2, 47), (0, a1), (0, a2), (0, x3), (3, 0), (3, 0)] [] X v mc ms Q := by
  refine x_li32 (i := 1) rfl (fun ha1 => ?_)
  have F := F ha1
  refine x_li32 (i := 2) rfl (fun ha2 => ?_)
  have F := F ha2
  refine x_li32 (i := 3) rfl (fun hx3 => ?_)
  have F := F hx3
  refine x_iload_n dX11_asked_24 rfl ?_
  refine x_aload_n dX11_asked_25 rfl ?_
  refine x_geti (e := (v 47 59)) 0 flX11_348 dX11_asked_26 (sW47 hW) (gW47 hW) rfl rfl (Nat.le_of_ble_eq_true rfl) (tagn2 rfl) ?_
  refine x_icmp_ge 114 dX11_asked_29 rfl (fun hc => ?_) (fun hc => ?_)
  · have F := F.1 hc
    refine x_aload_n dX11_asked_114 rfl ?_
    refine x_geti (e := (v 47 57)) 0 flX11_324 dX11_asked_115 (sW47 hW) (gW47 hW) rfl rfl (Nat.le_of_ble_eq_true rfl) (tagn2 rfl) ?_
    exact x_ret (some (0, (v 47 57))) rfl ⟨dX11_asked_118, Or.inl rfl⟩ F
  · have F := F.2 hc
    refine x_iconst dX11_asked_32 rfl (i32_of rfl) ?_
    refine x_istore [(2, 47), (0, a1), (0, a2), (0, x3), (0, 0), (3, 0)] dX11_asked_33 rfl (Nat.le_of_ble_eq_true rfl) ?_
    refine x_iconst dX11_asked_35 rfl (i32_of rfl) ?_
    refine x_istore [(2, 47), (0, a1), (0, a2), (0, x3), (0, 0), (0, 0)] dX11_asked_36 rfl (Nat.le_of_ble_eq_true rfl) ?_
    exact F

set_option maxRecDepth 100000 in
set_option maxHeartbeats 4000000 in
theorem bX11_asked_38 {d mc ms : Nat} {X : XX} {v : VV} {Q : QQ} (a1 : Int) (a2 : Int) (x3 : Int) (x4 : Int) (x5 : Int) (hd : 4 ≤ d) (hW : SW X) (F : i32 a1 → i32 a2 → i32 x3 → i32 x4 → i32 x5 → (((6 ≤ x5) → (((x4 = 0) → i32 (x3 + 1) ∧ Ex mX11_asked d 24 [(2, 47), (0, a1), (0, a2), (0, (x3 + 1)), (3, 0), (3, 0)] [] X v mc ms Q) ∧ ((¬ x4 = 0) → ∃ P9 : Option AV → VV → Prop, Con mX11_finds 0 0 0 [(2, 47), (0, x3)] X v (fun o X1 v1 => X1 = X ∧ P9 o v1) ∧ ∀ (w11 : VV), P9 none w11 → i32 (x3 + 1) ∧ Ex mX11_asked d 24 [(2, 47), (0, a1), (0, a2), (0, (x3 + 1)), (3, 0), (3, 0)] [] X w11 mc ms Q))) ∧ ((x5 < 6) → (((¬ x4 = 0) → i32 (x5 + 1) ∧ Ex mX11_asked d 38 [(2, 47), (0, a1), (0, a2), (0, x3), (0, 1), (0, (x5 + 1))] [] X v mc ms Q) ∧ ((x4 = 0) → (0 ≤ x3 ∧ x3 < 40) ∧ ∀ z13 : Int, Int32.ofInt (v 84 x3) >>> (Int32.ofInt x5 &&& 31) = Int32.ofInt z13 → i32 z13 → ∀ z14 : Int, Int32.ofInt z13 &&& Int32.ofInt 1 = Int32.ofInt z14 → i32 z14 → (((¬ z14 = 1) → i32 (x5 + 1) ∧ Ex mX11_asked d 38 [(2, 47), (0, a1), (0, a2), (0, x3), (0, 0), (0, (x5 + 1))] [] X v mc ms Q) ∧ ((z14 = 1) → (0 ≤ x3 ∧ x3 < 40) ∧ (i32 (v 83 x3) → i32 (8 * (v 83 x3))) ∧ (i32 (8 * (v 83 x3)) → i32 ((8 * (v 83 x3)) + x5)) ∧ (0 ≤ ((8 * (v 83 x3)) + x5) ∧ ((8 * (v 83 x3)) + x5) < 136) ∧ ((((v 80 ((8 * (v 83 x3)) + x5)) = 0) → i32 (x5 + 1) ∧ Ex mX11_asked d 38 [(2, 47), (0, a1), (0, a2), (0, x3), (0, 0), (0, (x5 + 1))] [] X v mc ms Q) ∧ ((¬ (v 80 ((8 * (v 83 x3)) + x5)) = 0) → i32 (x5 + 1) ∧ Ex mX11_asked d 38 [(2, 47), (0, a1), (0, a2), (0, x3), (0, 1), (0, (x5 + 1))] [] X v mc ms Q))))))))) : Ex mX11_asked d 38 [(2, 47), (0, a1), (0, a2), (0, x3), (0, x4), (0, x5)] [] X v mc ms Q := by
  refine x_li32 (i := 1) rfl (fun ha1 => ?_)
  have F := F ha1
  refine x_li32 (i := 2) rfl (fun ha2 => ?_)
  have F := F ha2
  refine x_li32 (i := 3) rfl (fun hx3 => ?_)
  have F := F hx3
  refine x_li32 (i := 4) rfl (fun hx4 => ?_)
  have F := F hx4
  refine x_li32 (i := 5) rfl (fun hx5 => ?_)
  have F := F hx5
  refine x_iload dX11_asked_38 rfl ?_
  refine x_bipush dX11_asked_40 kb_6 (i32_of rfl) ?_
  refine x_icmp_ge 98 dX11_asked_42 rfl (fun hc => ?_) (fun hc => ?_)
  · have F := F.1 hc
    refine x_iload dX11_asked_98 rfl ?_
    refine x_if_eq 108 dX11_asked_100 rfl (fun hc => ?_) (fun hc => ?_)
    · have F := F.1 hc
      obtain ⟨hz, F⟩ := F
      refine x_iinc [(2, 47), (0, a1), (0, a2), (0, (x3 + 1)), (0, x4), (0, x5)] dX11_asked_108 rfl rfl (Nat.le_of_ble_eq_true rfl) hz ?_
      refine x_goto 24 dX11_asked_111 rfl ?_
      exact x_less [(2, 47), (0, a1), (0, a2), (0, (x3 + 1)), (3, 0), (3, 0)] ⟨Or.inr rfl, ⟨Or.inr rfl, ⟨Or.inr rfl, ⟨Or.inr rfl, ⟨Or.inl rfl, ⟨Or.inl rfl, trivial⟩⟩⟩⟩⟩⟩ F
    · have F := F.2 hc
      refine x_aload_n dX11_asked_103 rfl ?_
      refine x_iload_n dX11_asked_104 rfl ?_
      obtain ⟨P9, hC, F⟩ := F
      refine x_inv dX11_asked_105 mlX11_339 hC (sW47 hW) (Nat.le_of_ble_eq_true rfl) (gW47 hW) rfl rfl (by omega) (Nat.zero_le _) (Nat.zero_le _) (Nat.le_of_ble_eq_true rfl) (fun o1 Y12 w11 ht hP => ?_)
      obtain rfl : o1 = none := ht
      obtain ⟨rfl, hP⟩ := hP
      have F := F w11 hP
      obtain ⟨hz, F⟩ := F
      refine x_iinc [(2, 47), (0, a1), (0, a2), (0, (x3 + 1)), (0, x4), (0, x5)] dX11_asked_108 rfl rfl (Nat.le_of_ble_eq_true rfl) hz ?_
      refine x_goto 24 dX11_asked_111 rfl ?_
      exact x_less [(2, 47), (0, a1), (0, a2), (0, (x3 + 1)), (3, 0), (3, 0)] ⟨Or.inr rfl, ⟨Or.inr rfl, ⟨Or.inr rfl, ⟨Or.inr rfl, ⟨Or.inl rfl, ⟨Or.inl rfl, trivial⟩⟩⟩⟩⟩⟩ F
  · have F := F.2 hc
    refine x_iload dX11_asked_45 rfl ?_
    refine x_if_ne 85 dX11_asked_47 rfl (fun hc => ?_) (fun hc => ?_)
    · have F := F.1 hc
      refine x_iconst dX11_asked_85 rfl (i32_of rfl) ?_
      refine x_goto 90 dX11_asked_86 rfl ?_
      refine x_istore [(2, 47), (0, a1), (0, a2), (0, x3), (0, 1), (0, x5)] dX11_asked_90 rfl (Nat.le_of_ble_eq_true rfl) ?_
      obtain ⟨hz, F⟩ := F
      refine x_iinc [(2, 47), (0, a1), (0, a2), (0, x3), (0, 1), (0, (x5 + 1))] dX11_asked_92 rfl rfl (Nat.le_of_ble_eq_true rfl) hz ?_
      refine x_goto 38 dX11_asked_95 rfl ?_
      exact F
    · have F := F.2 hc
      refine x_aload_n dX11_asked_50 rfl ?_
      refine x_getr (r' := 84) flX11_150 dX11_asked_51 (sW47 hW) (gW47 hW) (rW47_62 hW) rfl (Nat.le_of_ble_eq_true rfl) ?_
      refine x_iload_n dX11_asked_54 rfl ?_
      obtain ⟨hi, F⟩ := F
      refine x_iald (e := (v 84 x3)) dX11_asked_55 (sW84 hW) (gW84 hW) hi rfl ?_
      refine x_iload dX11_asked_56 rfl ?_
      obtain ⟨z13, ez13, hz13⟩ := i32_ex (Int32.ofInt (v 84 x3) >>> (Int32.ofInt x5 &&& 31))
      have F := F z13 ez13 hz13
      refine x_ishr (z := z13) dX11_asked_58 ez13 hz13 ?_
      refine x_iconst dX11_asked_59 rfl (i32_of rfl) ?_
      obtain ⟨z14, ez14, hz14⟩ := i32_ex (Int32.ofInt z13 &&& Int32.ofInt 1)
      have F := F z14 ez14 hz14
      refine x_iand (z := z14) dX11_asked_60 ez14 hz14 ?_
      refine x_iconst dX11_asked_61 rfl (i32_of rfl) ?_
      refine x_icmp_ne 89 dX11_asked_62 rfl (fun hc => ?_) (fun hc => ?_)
      · have F := F.1 hc
        refine x_iconst dX11_asked_89 rfl (i32_of rfl) ?_
        refine x_istore [(2, 47), (0, a1), (0, a2), (0, x3), (0, 0), (0, x5)] dX11_asked_90 rfl (Nat.le_of_ble_eq_true rfl) ?_
        obtain ⟨hz, F⟩ := F
        refine x_iinc [(2, 47), (0, a1), (0, a2), (0, x3), (0, 0), (0, (x5 + 1))] dX11_asked_92 rfl rfl (Nat.le_of_ble_eq_true rfl) hz ?_
        refine x_goto 38 dX11_asked_95 rfl ?_
        exact F
      · have F := F.2 hc
        refine x_aload_n dX11_asked_65 rfl ?_
        refine x_getr (r' := 80) flX11_138 dX11_asked_66 (sW47 hW) (gW47 hW) (rW47_56 hW) rfl (Nat.le_of_ble_eq_true rfl) ?_
        refine x_bipush dX11_asked_69 kb_8 (i32_of rfl) ?_
        refine x_aload_n dX11_asked_71 rfl ?_
        refine x_getr (r' := 83) flX11_147 dX11_asked_72 (sW47 hW) (gW47 hW) (rW47_61 hW) rfl (Nat.le_of_ble_eq_true rfl) ?_
        refine x_iload_n dX11_asked_75 rfl ?_
        obtain ⟨hi, F⟩ := F
        refine x_iald (e := (v 83 x3)) dX11_asked_76 (sW83 hW) (gW83 hW) hi rfl ?_
        refine x_si32 (i := 0) rfl (fun hk0 => ?_)
        obtain ⟨hz, F⟩ := F
        have hz := hz hk0
        refine x_imul dX11_asked_77 hz ?_
        refine x_iload dX11_asked_78 rfl ?_
        refine x_si32 (i := 1) rfl (fun hk1 => ?_)
        obtain ⟨hz, F⟩ := F
        have hz := hz hk1
        refine x_iadd dX11_asked_80 hz ?_
        obtain ⟨hi, F⟩ := F
        refine x_zald (e := (v 80 ((8 * (v 83 x3)) + x5))) dX11_asked_81 (sW80 hW) (gW80 hW) hi rfl ?_
        refine x_if_eq 89 dX11_asked_82 rfl (fun hc => ?_) (fun hc => ?_)
        · have F := F.1 hc
          refine x_iconst dX11_asked_89 rfl (i32_of rfl) ?_
          refine x_istore [(2, 47), (0, a1), (0, a2), (0, x3), (0, 0), (0, x5)] dX11_asked_90 rfl (Nat.le_of_ble_eq_true rfl) ?_
          obtain ⟨hz, F⟩ := F
          refine x_iinc [(2, 47), (0, a1), (0, a2), (0, x3), (0, 0), (0, (x5 + 1))] dX11_asked_92 rfl rfl (Nat.le_of_ble_eq_true rfl) hz ?_
          refine x_goto 38 dX11_asked_95 rfl ?_
          exact F
        · have F := F.2 hc
          refine x_iconst dX11_asked_85 rfl (i32_of rfl) ?_
          refine x_goto 90 dX11_asked_86 rfl ?_
          refine x_istore [(2, 47), (0, a1), (0, a2), (0, x3), (0, 1), (0, x5)] dX11_asked_90 rfl (Nat.le_of_ble_eq_true rfl) ?_
          obtain ⟨hz, F⟩ := F
          refine x_iinc [(2, 47), (0, a1), (0, a2), (0, x3), (0, 1), (0, (x5 + 1))] dX11_asked_92 rfl rfl (Nat.le_of_ble_eq_true rfl) hz ?_
          refine x_goto 38 dX11_asked_95 rfl ?_
          exact F

set_option maxRecDepth 100000 in
set_option maxHeartbeats 4000000 in
theorem bX11_ask_0 {d mc ms : Nat} {X : XX} {v : VV} {Q : QQ} (a1 : Int) (a2 : Int) (a3 : Int) (hd : 1 ≤ d) (hW : SW X) (F : i32 a1 → i32 a2 → i32 a3 → (((a1 < 0) → Q (some (0, (-1))) X v) ∧ ((0 ≤ a1) → (((9 < a1) → Q (some (0, (-1))) X v) ∧ ((a1 ≤ 9) → ∃ P1 : Option AV → VV → Prop, Con mX11_isTable 0 0 0 [(2, 47), (0, a2)] X v (fun o X1 v1 => X1 = X ∧ P1 o v1) ∧ ∀ (r2 : Int) (w3 : VV), P1 (some (0, r2)) w3 → (((r2 = 0) → Q (some (0, (-1))) X w3) ∧ ((¬ r2 = 0) → (((a3 < 1) → Q (some (0, (-1))) X w3) ∧ ((1 ≤ a3) → (0 ≤ a2 ∧ a2 < 17) ∧ ∀ z5 : Int, Int32.ofInt 1 <<< (Int32.ofInt (w3 51 a2) &&& 31) = Int32.ofInt z5 → i32 z5 → (((z5 ≤ a3) → Q (some (0, (-1))) X w3) ∧ ((a3 < z5) → (((¬ (w3 47 59) = 40) → (0 ≤ (w3 47 59) ∧ (w3 47 59) < 40) ∧ (0 ≤ (w3 47 59) ∧ (w3 47 59) < 40) ∧ (0 ≤ (w3 47 59) ∧ (w3 47 59) < 40) ∧ (0 ≤ (w3 47 59) ∧ (w3 47 59) < 40) ∧ (i32 (w3 47 59) → i32 ((w3 47 59) + 1)) ∧ (i32 ((w3 47 59) + 1) → i32 (((w3 47 59) + 1) - 1)) ∧ Q (some (0, (((w3 47 59) + 1) - 1))) X (upd2 (upd2 (upd2 (upd2 (upd2 w3 82 (w3 47 59) a1) 83 (w3 47 59) a2) 84 (w3 47 59) a3) 85 (w3 47 59) (w3 47 64)) 47 59 ((w3 47 59) + 1))) ∧ (((w3 47 59) = 40) → Q (some (0, (-1))) X w3))))))))))))) : Ex mX11_ask d 0 [(2, 47), (0, a1), (0, a2), (0, a3)] [] X v mc ms Q := by
  refine x_li32 (i := 1) rfl (fun ha1 => ?_)
  have F := F ha1
  refine x_li32 (i := 2) rfl (fun ha2 => ?_)
  have F := F ha2
  refine x_li32 (i := 3) rfl (fun ha3 => ?_)
  have F := F ha3
  refine x_iload_n dX11_ask_0 rfl ?_
  refine x_if_lt 44 dX11_ask_1 rfl (fun hc => ?_) (fun hc => ?_)
  · have F := F.1 hc
    refine x_iconst dX11_ask_44 rfl (i32_of rfl) ?_
    exact x_ret (some (0, (-1))) rfl ⟨dX11_ask_45, Or.inl rfl⟩ F
  · have F := F.2 hc
    refine x_iload_n dX11_ask_4 rfl ?_
    refine x_bipush dX11_ask_5 kb_9 (i32_of rfl) ?_
    refine x_icmp_gt 44 dX11_ask_7 rfl (fun hc => ?_) (fun hc => ?_)
    · have F := F.1 hc
      refine x_iconst dX11_ask_44 rfl (i32_of rfl) ?_
      exact x_ret (some (0, (-1))) rfl ⟨dX11_ask_45, Or.inl rfl⟩ F
    · have F := F.2 hc
      refine x_aload_n dX11_ask_10 rfl ?_
      refine x_iload_n dX11_ask_11 rfl ?_
      obtain ⟨P1, hC, F⟩ := F
      refine x_inv dX11_ask_12 mlX11_162 hC (sW47 hW) (Nat.le_of_ble_eq_true rfl) (gW47 hW) rfl rfl (by omega) (Nat.zero_le _) (Nat.zero_le _) (Nat.le_of_ble_eq_true rfl) (fun o1 Y4 w3 ht hP => ?_)
      obtain ⟨r2, rfl⟩ : ∃ i, o1 = some (0, i) := ht
      obtain ⟨rfl, hP⟩ := hP
      have F := F r2 w3 hP
      refine x_if_eq 44 dX11_ask_15 rfl (fun hc => ?_) (fun hc => ?_)
      · have F := F.1 hc
        refine x_iconst dX11_ask_44 rfl (i32_of rfl) ?_
        exact x_ret (some (0, (-1))) rfl ⟨dX11_ask_45, Or.inl rfl⟩ F
      · have F := F.2 hc
        refine x_iload_n dX11_ask_18 rfl ?_
        refine x_iconst dX11_ask_19 rfl (i32_of rfl) ?_
        refine x_icmp_lt 44 dX11_ask_20 rfl (fun hc => ?_) (fun hc => ?_)
        · have F := F.1 hc
          refine x_iconst dX11_ask_44 rfl (i32_of rfl) ?_
          exact x_ret (some (0, (-1))) rfl ⟨dX11_ask_45, Or.inl rfl⟩ F
        · have F := F.2 hc
          refine x_iload_n dX11_ask_23 rfl ?_
          refine x_iconst dX11_ask_24 rfl (i32_of rfl) ?_
          refine x_aload_n dX11_ask_25 rfl ?_
          refine x_getr (r' := 51) flX11_21 dX11_ask_26 (sW47 hW) (gW47 hW) (rW47_4 hW) rfl (Nat.le_of_ble_eq_true rfl) ?_
          refine x_iload_n dX11_ask_29 rfl ?_
          obtain ⟨hi, F⟩ := F
          refine x_iald (e := (w3 51 a2)) dX11_ask_30 (sW51 hW) (gW51 hW) hi rfl ?_
          obtain ⟨z5, ez5, hz5⟩ := i32_ex (Int32.ofInt 1 <<< (Int32.ofInt (w3 51 a2) &&& 31))
          have F := F z5 ez5 hz5
          refine x_ishl (z := z5) dX11_ask_31 ez5 hz5 ?_
          refine x_icmp_ge 44 dX11_ask_32 rfl (fun hc => ?_) (fun hc => ?_)
          · have F := F.1 hc
            refine x_iconst dX11_ask_44 rfl (i32_of rfl) ?_
            exact x_ret (some (0, (-1))) rfl ⟨dX11_ask_45, Or.inl rfl⟩ F
          · have F := F.2 hc
            refine x_aload_n dX11_ask_35 rfl ?_
            refine x_geti (e := (w3 47 59)) 0 flX11_348 dX11_ask_36 (sW47 hW) (gW47 hW) rfl rfl (Nat.le_of_ble_eq_true rfl) (tagn2 rfl) ?_
            refine x_bipush dX11_ask_39 kb_40 (i32_of rfl) ?_
            refine x_icmp_ne 46 dX11_ask_41 rfl (fun hc => ?_) (fun hc => ?_)
            · have F := F.1 hc
              refine x_aload_n dX11_ask_46 rfl ?_
              refine x_getr (r' := 82) flX11_144 dX11_ask_47 (sW47 hW) (gW47 hW) (rW47_60 hW) rfl (Nat.le_of_ble_eq_true rfl) ?_
              refine x_aload_n dX11_ask_50 rfl ?_
              refine x_geti (e := (w3 47 59)) 0 flX11_348 dX11_ask_51 (sW47 hW) (gW47 hW) rfl rfl (Nat.le_of_ble_eq_true rfl) (tagn2 rfl) ?_
              refine x_iload_n dX11_ask_54 rfl ?_
              obtain ⟨hi, F⟩ := F
              refine x_iast dX11_ask_55 (sW82 hW) (gW82 hW) hi ?_
              refine x_aload_n dX11_ask_56 rfl ?_
              refine x_getr (r' := 83) flX11_147 dX11_ask_57 (sW47 hW) (gW47 hW) (rW47_61 hW) rfl (Nat.le_of_ble_eq_true rfl) ?_
              refine x_aload_n dX11_ask_60 rfl ?_
              refine x_geti (e := (w3 47 59)) 0 flX11_348 dX11_ask_61 (sW47 hW) (gW47 hW) rfl rfl (Nat.le_of_ble_eq_true rfl) (tagn2 rfl) ?_
              refine x_iload_n dX11_ask_64 rfl ?_
              obtain ⟨hi, F⟩ := F
              refine x_iast dX11_ask_65 (sW83 hW) (gW83 hW) hi ?_
              refine x_aload_n dX11_ask_66 rfl ?_
              refine x_getr (r' := 84) flX11_150 dX11_ask_67 (sW47 hW) (gW47 hW) (rW47_62 hW) rfl (Nat.le_of_ble_eq_true rfl) ?_
              refine x_aload_n dX11_ask_70 rfl ?_
              refine x_geti (e := (w3 47 59)) 0 flX11_348 dX11_ask_71 (sW47 hW) (gW47 hW) rfl rfl (Nat.le_of_ble_eq_true rfl) (tagn2 rfl) ?_
              refine x_iload_n dX11_ask_74 rfl ?_
              obtain ⟨hi, F⟩ := F
              refine x_iast dX11_ask_75 (sW84 hW) (gW84 hW) hi ?_
              refine x_aload_n dX11_ask_76 rfl ?_
              refine x_getr (r' := 85) flX11_153 dX11_ask_77 (sW47 hW) (gW47 hW) (rW47_63 hW) rfl (Nat.le_of_ble_eq_true rfl) ?_
              refine x_aload_n dX11_ask_80 rfl ?_
              refine x_geti (e := (w3 47 59)) 0 flX11_348 dX11_ask_81 (sW47 hW) (gW47 hW) rfl rfl (Nat.le_of_ble_eq_true rfl) (tagn2 rfl) ?_
              refine x_aload_n dX11_ask_84 rfl ?_
              refine x_geti (e := (w3 47 64)) 0 flX11_351 dX11_ask_85 (sW47 hW) (gW47 hW) rfl rfl (Nat.le_of_ble_eq_true rfl) (tagn2 rfl) ?_
              obtain ⟨hi, F⟩ := F
              refine x_iast dX11_ask_88 (sW85 hW) (gW85 hW) hi ?_
              refine x_aload_n dX11_ask_89 rfl ?_
              refine x_dup dX11_ask_90 (tag1 rfl) ?_
              refine x_geti (e := (w3 47 59)) 0 flX11_348 dX11_ask_91 (sW47 hW) (gW47 hW) rfl rfl (Nat.le_of_ble_eq_true rfl) (tagn2 rfl) ?_
              refine x_iconst dX11_ask_94 rfl (i32_of rfl) ?_
              refine x_si32 (i := 1) rfl (fun hk1 => ?_)
              obtain ⟨hz, F⟩ := F
              have hz := hz hk1
              refine x_iadd dX11_ask_95 hz ?_
              refine x_puti 0 fwX11_348 dX11_ask_96 (sW47 hW) (gW47 hW) (fun h => Bool.noConfusion h) (Nat.le_of_ble_eq_true rfl) rfl (Or.inl ⟨rfl, Or.inl rfl⟩) ?_
              refine x_aload_n dX11_ask_99 rfl ?_
              refine x_geti (e := ((w3 47 59) + 1)) 0 flX11_348 dX11_ask_100 (sW47 hW) (gW47 hW) rfl rfl (Nat.le_of_ble_eq_true rfl) (tagn2 rfl) ?_
              refine x_iconst dX11_ask_103 rfl (i32_of rfl) ?_
              refine x_si32 (i := 1) rfl (fun hk1 => ?_)
              obtain ⟨hz, F⟩ := F
              have hz := hz hk1
              refine x_isub dX11_ask_104 hz ?_
              exact x_ret (some (0, (((w3 47 59) + 1) - 1))) rfl ⟨dX11_ask_105, Or.inl rfl⟩ F
            · have F := F.2 hc
              refine x_iconst dX11_ask_44 rfl (i32_of rfl) ?_
              exact x_ret (some (0, (-1))) rfl ⟨dX11_ask_45, Or.inl rfl⟩ F

set_option maxRecDepth 100000 in
set_option maxHeartbeats 4000000 in
theorem bX11_retype_0 {d mc ms : Nat} {X : XX} {v : VV} {Q : QQ} (a1 : Int) (a2 : Int) (a3 : Int) (hd : 4 ≤ d) (hW : SW X) (F : i32 a1 → i32 a2 → i32 a3 → ∃ P1 : Option AV → VV → Prop, Con mX11_isColumn 1 0 0 [(2, 47), (0, a1), (0, a2)] X v (fun o X1 v1 => X1 = X ∧ P1 o v1) ∧ ∀ (r2 : Int) (w3 : VV), P1 (some (0, r2)) w3 → (((r2 = 0) → Q (some (0, (-1))) X w3) ∧ ((¬ r2 = 0) → (0 ≤ a1 ∧ a1 < 17) ∧ (((¬ (w3 50 a1) = 0) → Q (some (0, (-1))) X w3) ∧ (((w3 50 a1) = 0) → (((a3 = 110) → Ex mX11_retype d 41 [(2, 47), (0, a1), (0, a2), (0, a3), (0, 0), (3, 0), (3, 0), (3, 0), (3, 0)] [] X w3 mc ms Q) ∧ ((¬ a3 = 110) → (((a3 = 116) → Ex mX11_retype d 41 [(2, 47), (0, a1), (0, a2), (0, a3), (0, 0), (3, 0), (3, 0), (3, 0), (3, 0)] [] X w3 mc ms Q) ∧ ((¬ a3 = 116) → (((a3 = 100) → Ex mX11_retype d 41 [(2, 47), (0, a1), (0, a2), (0, a3), (0, 0), (3, 0), (3, 0), (3, 0), (3, 0)] [] X w3 mc ms Q) ∧ ((¬ a3 = 100) → Q (some (0, (-1))) X w3))))))))))) : Ex mX11_retype d 0 [(2, 47), (0, a1), (0, a2), (0, a3), (3, 0), (3, 0), (3, 0), (3, 0), (3, 0)] [] X v mc ms Q := by
  refine x_li32 (i := 1) rfl (fun ha1 => ?_)
  have F := F ha1
  refine x_li32 (i := 2) rfl (fun ha2 => ?_)
  have F := F ha2
  refine x_li32 (i := 3) rfl (fun ha3 => ?_)
  have F := F ha3
  refine x_aload_n dX11_retype_0 rfl ?_
  refine x_iload_n dX11_retype_1 rfl ?_
  refine x_iload_n dX11_retype_2 rfl ?_
  obtain ⟨P1, hC, F⟩ := F
  refine x_inv dX11_retype_3 mlX11_320 hC (sW47 hW) (Nat.le_of_ble_eq_true rfl) (gW47 hW) rfl rfl (by omega) (Nat.zero_le _) (Nat.zero_le _) (Nat.le_of_ble_eq_true rfl) (fun o1 Y4 w3 ht hP => ?_)
  obtain ⟨r2, rfl⟩ : ∃ i, o1 = some (0, i) := ht
  obtain ⟨rfl, hP⟩ := hP
  have F := F r2 w3 hP
  refine x_if_eq 36 dX11_retype_6 rfl (fun hc => ?_) (fun hc => ?_)
  · have F := F.1 hc
    refine x_iconst dX11_retype_36 rfl (i32_of rfl) ?_
    exact x_ret (some (0, (-1))) rfl ⟨dX11_retype_37, Or.inl rfl⟩ F
  · have F := F.2 hc
    refine x_aload_n dX11_retype_9 rfl ?_
    refine x_getr (r' := 50) flX11_17 dX11_retype_10 (sW47 hW) (gW47 hW) (rW47_3 hW) rfl (Nat.le_of_ble_eq_true rfl) ?_
    refine x_iload_n dX11_retype_13 rfl ?_
    obtain ⟨hi, F⟩ := F
    refine x_iald (e := (w3 50 a1)) dX11_retype_14 (sW50 hW) (gW50 hW) hi rfl ?_
    refine x_if_ne 36 dX11_retype_15 rfl (fun hc => ?_) (fun hc => ?_)
    · have F := F.1 hc
      refine x_iconst dX11_retype_36 rfl (i32_of rfl) ?_
      exact x_ret (some (0, (-1))) rfl ⟨dX11_retype_37, Or.inl rfl⟩ F
    · have F := F.2 hc
      refine x_iload_n dX11_retype_18 rfl ?_
      refine x_bipush dX11_retype_19 kb_110 (i32_of rfl) ?_
      refine x_icmp_eq 38 dX11_retype_21 rfl (fun hc => ?_) (fun hc => ?_)
      · have F := F.1 hc
        refine x_iconst dX11_retype_38 rfl (i32_of rfl) ?_
        refine x_istore [(2, 47), (0, a1), (0, a2), (0, a3), (0, 0), (3, 0), (3, 0), (3, 0), (3, 0)] dX11_retype_39 rfl (Nat.le_of_ble_eq_true rfl) ?_
        exact F
      · have F := F.2 hc
        refine x_iload_n dX11_retype_24 rfl ?_
        refine x_bipush dX11_retype_25 kb_116 (i32_of rfl) ?_
        refine x_icmp_eq 38 dX11_retype_27 rfl (fun hc => ?_) (fun hc => ?_)
        · have F := F.1 hc
          refine x_iconst dX11_retype_38 rfl (i32_of rfl) ?_
          refine x_istore [(2, 47), (0, a1), (0, a2), (0, a3), (0, 0), (3, 0), (3, 0), (3, 0), (3, 0)] dX11_retype_39 rfl (Nat.le_of_ble_eq_true rfl) ?_
          exact F
        · have F := F.2 hc
          refine x_iload_n dX11_retype_30 rfl ?_
          refine x_bipush dX11_retype_31 kb_100 (i32_of rfl) ?_
          refine x_icmp_eq 38 dX11_retype_33 rfl (fun hc => ?_) (fun hc => ?_)
          · have F := F.1 hc
            refine x_iconst dX11_retype_38 rfl (i32_of rfl) ?_
            refine x_istore [(2, 47), (0, a1), (0, a2), (0, a3), (0, 0), (3, 0), (3, 0), (3, 0), (3, 0)] dX11_retype_39 rfl (Nat.le_of_ble_eq_true rfl) ?_
            exact F
          · have F := F.2 hc
            refine x_iconst dX11_retype_36 rfl (i32_of rfl) ?_
            exact x_ret (some (0, (-1))) rfl ⟨dX11_retype_37, Or.inl rfl⟩ F

set_option maxRecDepth 100000 in
set_option maxHeartbeats 4000000 in
theorem bX11_retype_41 {d mc ms : Nat} {X : XX} {v : VV} {Q : QQ} (a1 : Int) (a2 : Int) (a3 : Int) (x4 : Int) (hd : 4 ≤ d) (hW : SW X) (F : i32 a1 → i32 a2 → i32 a3 → i32 x4 → (((136 ≤ x4) → i32 (8 * a1) ∧ (i32 (8 * a1) → i32 ((8 * a1) + a2)) ∧ (0 ≤ ((8 * a1) + a2) ∧ ((8 * a1) + a2) < 136) ∧ Ex mX11_retype d 98 [(2, 47), (0, a1), (0, a2), (0, a3), (0, (v 47 57)), (0, 0), (0, 0), (3, 0), (3, 0)] [] X (upd2 (upd2 v 77 ((8 * a1) + a2) a3) 47 57 0) mc ms Q) ∧ ((x4 < 136) → (0 ≤ x4 ∧ x4 < 136) ∧ (0 ≤ x4 ∧ x4 < 136) ∧ i32 (x4 + 1) ∧ Ex mX11_retype d 41 [(2, 47), (0, a1), (0, a2), (0, a3), (0, (x4 + 1)), (3, 0), (3, 0), (3, 0), (3, 0)] [] X (upd2 v 77 x4 (v 53 x4)) mc ms Q))) : Ex mX11_retype d 41 [(2, 47), (0, a1), (0, a2), (0, a3), (0, x4), (3, 0), (3, 0), (3, 0), (3, 0)] [] X v mc ms Q := by
  refine x_li32 (i := 1) rfl (fun ha1 => ?_)
  have F := F ha1
  refine x_li32 (i := 2) rfl (fun ha2 => ?_)
  have F := F ha2
  refine x_li32 (i := 3) rfl (fun ha3 => ?_)
  have F := F ha3
  refine x_li32 (i := 4) rfl (fun hx4 => ?_)
  have F := F hx4
  refine x_iload dX11_retype_41 rfl ?_
  refine x_sipush dX11_retype_43 ks_136 (i32_of rfl) ?_
  refine x_icmp_ge 69 dX11_retype_46 rfl (fun hc => ?_) (fun hc => ?_)
  · have F := F.1 hc
    refine x_aload_n dX11_retype_69 rfl ?_
    refine x_getr (r' := 77) flX11_129 dX11_retype_70 (sW47 hW) (gW47 hW) (rW47_53 hW) rfl (Nat.le_of_ble_eq_true rfl) ?_
    refine x_bipush dX11_retype_73 kb_8 (i32_of rfl) ?_
    refine x_iload_n dX11_retype_75 rfl ?_
    obtain ⟨hz, F⟩ := F
    refine x_imul dX11_retype_76 hz ?_
    refine x_iload_n dX11_retype_77 rfl ?_
    refine x_si32 (i := 1) rfl (fun hk1 => ?_)
    obtain ⟨hz, F⟩ := F
    have hz := hz hk1
    refine x_iadd dX11_retype_78 hz ?_
    refine x_iload_n dX11_retype_79 rfl ?_
    obtain ⟨hi, F⟩ := F
    refine x_iast dX11_retype_80 (sW77 hW) (gW77 hW) hi ?_
    refine x_aload_n dX11_retype_81 rfl ?_
    refine x_geti (e := (v 47 57)) 0 flX11_324 dX11_retype_82 (sW47 hW) (gW47 hW) rfl rfl (Nat.le_of_ble_eq_true rfl) (tagn2 rfl) ?_
    refine x_istore [(2, 47), (0, a1), (0, a2), (0, a3), (0, (v 47 57)), (3, 0), (3, 0), (3, 0), (3, 0)] dX11_retype_85 rfl (Nat.le_of_ble_eq_true rfl) ?_
    refine x_aload_n dX11_retype_87 rfl ?_
    refine x_iconst dX11_retype_88 rfl (i32_of rfl) ?_
    refine x_puti 0 fwX11_324 dX11_retype_89 (sW47 hW) (gW47 hW) (fun h => Bool.noConfusion h) (Nat.le_of_ble_eq_true rfl) rfl (Or.inl ⟨rfl, Or.inl rfl⟩) ?_
    refine x_iconst dX11_retype_92 rfl (i32_of rfl) ?_
    refine x_istore [(2, 47), (0, a1), (0, a2), (0, a3), (0, (v 47 57)), (0, 0), (3, 0), (3, 0), (3, 0)] dX11_retype_93 rfl (Nat.le_of_ble_eq_true rfl) ?_
    refine x_iconst dX11_retype_95 rfl (i32_of rfl) ?_
    refine x_istore [(2, 47), (0, a1), (0, a2), (0, a3), (0, (v 47 57)), (0, 0), (0, 0), (3, 0), (3, 0)] dX11_retype_96 rfl (Nat.le_of_ble_eq_true rfl) ?_
    exact F
  · have F := F.2 hc
    refine x_aload_n dX11_retype_49 rfl ?_
    refine x_getr (r' := 77) flX11_129 dX11_retype_50 (sW47 hW) (gW47 hW) (rW47_53 hW) rfl (Nat.le_of_ble_eq_true rfl) ?_
    refine x_iload dX11_retype_53 rfl ?_
    refine x_aload_n dX11_retype_55 rfl ?_
    refine x_getr (r' := 53) flX11_27 dX11_retype_56 (sW47 hW) (gW47 hW) (rW47_6 hW) rfl (Nat.le_of_ble_eq_true rfl) ?_
    refine x_iload dX11_retype_59 rfl ?_
    obtain ⟨hi, F⟩ := F
    refine x_iald (e := (v 53 x4)) dX11_retype_61 (sW53 hW) (gW53 hW) hi rfl ?_
    obtain ⟨hi, F⟩ := F
    refine x_iast dX11_retype_62 (sW77 hW) (gW77 hW) hi ?_
    obtain ⟨hz, F⟩ := F
    refine x_iinc [(2, 47), (0, a1), (0, a2), (0, a3), (0, (x4 + 1)), (3, 0), (3, 0), (3, 0), (3, 0)] dX11_retype_63 rfl rfl (Nat.le_of_ble_eq_true rfl) hz ?_
    refine x_goto 41 dX11_retype_66 rfl ?_
    exact F

set_option maxRecDepth 100000 in
set_option maxHeartbeats 4000000 in
theorem bX11_retype_98 {d mc ms : Nat} {X : XX} {v : VV} {Q : QQ} (a1 : Int) (a2 : Int) (a3 : Int) (x4 : Int) (x5 : Int) (x6 : Int) (hd : 4 ≤ d) (hW : SW X) (F : i32 a1 → i32 a2 → i32 a3 → i32 x4 → i32 x5 → i32 x6 → ((((v 47 0) ≤ x6) → ((((v 47 65) ≤ 0) → Ex mX11_retype d 379 [(2, 47), (0, a1), (0, a2), (0, a3), (0, x4), (0, x5), (0, 0), (3, 0), (3, 0)] [] X (upd2 v 47 57 x4) mc ms Q) ∧ ((0 < (v 47 65)) → Ex mX11_retype d 333 [(2, 47), (0, a1), (0, a2), (0, a3), (0, x4), (0, x5), (0, 0), (3, 0), (3, 0)] [] X (upd2 v 47 57 (v 47 65)) mc ms Q))) ∧ ((x6 < (v 47 0)) → (0 ≤ x6 ∧ x6 < 17) ∧ ((((v 48 x6) = 0) → i32 (x6 + 1) ∧ Ex mX11_retype d 98 [(2, 47), (0, a1), (0, a2), (0, a3), (0, x4), (0, x5), (0, (x6 + 1)), (3, 0), (3, 0)] [] X v mc ms Q) ∧ ((¬ (v 48 x6) = 0) → (0 ≤ x6 ∧ x6 < 17) ∧ ((((v 50 x6) = 0) → i32 (x6 + 1) ∧ Ex mX11_retype d 98 [(2, 47), (0, a1), (0, a2), (0, a3), (0, x4), (0, x5), (0, (x6 + 1)), (3, 0), (3, 0)] [] X v mc ms Q) ∧ ((¬ (v 50 x6) = 0) → (0 ≤ x6 ∧ x6 < 17) ∧ (((¬ (v 50 x6) = 3) → Ex mX11_retype d 144 [(2, 47), (0, a1), (0, a2), (0, a3), (0, x4), (0, x5), (0, x6), (0, 0), (3, 0)] [] X v mc ms Q) ∧ (((v 50 x6) = 3) → i32 (x6 + 1) ∧ Ex mX11_retype d 98 [(2, 47), (0, a1), (0, a2), (0, a3), (0, x4), (0, x5), (0, (x6 + 1)), (3, 0), (3, 0)] [] X v mc ms Q))))))))) : Ex mX11_retype d 98 [(2, 47), (0, a1), (0, a2), (0, a3), (0, x4), (0, x5), (0, x6), (3, 0), (3, 0)] [] X v mc ms Q := by
  refine x_li32 (i := 1) rfl (fun ha1 => ?_)
  have F := F ha1
  refine x_li32 (i := 2) rfl (fun ha2 => ?_)
  have F := F ha2
  refine x_li32 (i := 3) rfl (fun ha3 => ?_)
  have F := F ha3
  refine x_li32 (i := 4) rfl (fun hx4 => ?_)
  have F := F hx4
  refine x_li32 (i := 5) rfl (fun hx5 => ?_)
  have F := F hx5
  refine x_li32 (i := 6) rfl (fun hx6 => ?_)
  have F := F hx6
  refine x_iload dX11_retype_98 rfl ?_
  refine x_aload_n dX11_retype_100 rfl ?_
  refine x_geti (e := (v 47 0)) 0 flX11_159 dX11_retype_101 (sW47 hW) (gW47 hW) rfl rfl (Nat.le_of_ble_eq_true rfl) (tagn2 rfl) ?_
  refine x_icmp_ge 315 dX11_retype_104 rfl (fun hc => ?_) (fun hc => ?_)
  · have F := F.1 hc
    refine x_aload_n dX11_retype_315 rfl ?_
    refine x_geti (e := (v 47 65)) 0 flX11_357 dX11_retype_316 (sW47 hW) (gW47 hW) rfl rfl (Nat.le_of_ble_eq_true rfl) (tagn2 rfl) ?_
    refine x_if_le 370 dX11_retype_319 rfl (fun hc => ?_) (fun hc => ?_)
    · have F := F.1 hc
      refine x_aload_n dX11_retype_370 rfl ?_
      refine x_iload dX11_retype_371 rfl ?_
      refine x_puti 0 fwX11_324 dX11_retype_373 (sW47 hW) (gW47 hW) (fun h => Bool.noConfusion h) (Nat.le_of_ble_eq_true rfl) rfl (Or.inl ⟨rfl, Or.inl rfl⟩) ?_
      refine x_iconst dX11_retype_376 rfl (i32_of rfl) ?_
      refine x_istore [(2, 47), (0, a1), (0, a2), (0, a3), (0, x4), (0, x5), (0, 0), (3, 0), (3, 0)] dX11_retype_377 rfl (Nat.le_of_ble_eq_true rfl) ?_
      exact F
    · have F := F.2 hc
      refine x_aload_n dX11_retype_322 rfl ?_
      refine x_aload_n dX11_retype_323 rfl ?_
      refine x_geti (e := (v 47 65)) 0 flX11_357 dX11_retype_324 (sW47 hW) (gW47 hW) rfl rfl (Nat.le_of_ble_eq_true rfl) (tagn2 rfl) ?_
      refine x_puti 0 fwX11_324 dX11_retype_327 (sW47 hW) (gW47 hW) (fun h => Bool.noConfusion h) (Nat.le_of_ble_eq_true rfl) rfl (Or.inl ⟨rfl, Or.inl rfl⟩) ?_
      refine x_iconst dX11_retype_330 rfl (i32_of rfl) ?_
      refine x_istore [(2, 47), (0, a1), (0, a2), (0, a3), (0, x4), (0, x5), (0, 0), (3, 0), (3, 0)] dX11_retype_331 rfl (Nat.le_of_ble_eq_true rfl) ?_
      exact F
  · have F := F.2 hc
    refine x_aload_n dX11_retype_107 rfl ?_
    refine x_getr (r' := 48) flX11_7 dX11_retype_108 (sW47 hW) (gW47 hW) (rW47_1 hW) rfl (Nat.le_of_ble_eq_true rfl) ?_
    refine x_iload dX11_retype_111 rfl ?_
    obtain ⟨hi, F⟩ := F
    refine x_zald (e := (v 48 x6)) dX11_retype_113 (sW48 hW) (gW48 hW) hi rfl ?_
    refine x_if_eq 309 dX11_retype_114 rfl (fun hc => ?_) (fun hc => ?_)
    · have F := F.1 hc
      obtain ⟨hz, F⟩ := F
      refine x_iinc [(2, 47), (0, a1), (0, a2), (0, a3), (0, x4), (0, x5), (0, (x6 + 1)), (3, 0), (3, 0)] dX11_retype_309 rfl rfl (Nat.le_of_ble_eq_true rfl) hz ?_
      refine x_goto 98 dX11_retype_312 rfl ?_
      exact F
    · have F := F.2 hc
      refine x_aload_n dX11_retype_117 rfl ?_
      refine x_getr (r' := 50) flX11_17 dX11_retype_118 (sW47 hW) (gW47 hW) (rW47_3 hW) rfl (Nat.le_of_ble_eq_true rfl) ?_
      refine x_iload dX11_retype_121 rfl ?_
      obtain ⟨hi, F⟩ := F
      refine x_iald (e := (v 50 x6)) dX11_retype_123 (sW50 hW) (gW50 hW) hi rfl ?_
      refine x_if_eq 309 dX11_retype_124 rfl (fun hc => ?_) (fun hc => ?_)
      · have F := F.1 hc
        obtain ⟨hz, F⟩ := F
        refine x_iinc [(2, 47), (0, a1), (0, a2), (0, a3), (0, x4), (0, x5), (0, (x6 + 1)), (3, 0), (3, 0)] dX11_retype_309 rfl rfl (Nat.le_of_ble_eq_true rfl) hz ?_
        refine x_goto 98 dX11_retype_312 rfl ?_
        exact F
      · have F := F.2 hc
        refine x_aload_n dX11_retype_127 rfl ?_
        refine x_getr (r' := 50) flX11_17 dX11_retype_128 (sW47 hW) (gW47 hW) (rW47_3 hW) rfl (Nat.le_of_ble_eq_true rfl) ?_
        refine x_iload dX11_retype_131 rfl ?_
        obtain ⟨hi, F⟩ := F
        refine x_iald (e := (v 50 x6)) dX11_retype_133 (sW50 hW) (gW50 hW) hi rfl ?_
        refine x_iconst dX11_retype_134 rfl (i32_of rfl) ?_
        refine x_icmp_ne 141 dX11_retype_135 rfl (fun hc => ?_) (fun hc => ?_)
        · have F := F.1 hc
          refine x_iconst dX11_retype_141 rfl (i32_of rfl) ?_
          refine x_istore [(2, 47), (0, a1), (0, a2), (0, a3), (0, x4), (0, x5), (0, x6), (0, 0), (3, 0)] dX11_retype_142 rfl (Nat.le_of_ble_eq_true rfl) ?_
          exact F
        · have F := F.2 hc
          refine x_goto 309 dX11_retype_138 rfl ?_
          obtain ⟨hz, F⟩ := F
          refine x_iinc [(2, 47), (0, a1), (0, a2), (0, a3), (0, x4), (0, x5), (0, (x6 + 1)), (3, 0), (3, 0)] dX11_retype_309 rfl rfl (Nat.le_of_ble_eq_true rfl) hz ?_
          refine x_goto 98 dX11_retype_312 rfl ?_
          exact F

set_option maxRecDepth 100000 in
set_option maxHeartbeats 4000000 in
theorem bX11_retype_144 {d mc ms : Nat} {X : XX} {v : VV} {Q : QQ} (a1 : Int) (a2 : Int) (a3 : Int) (x4 : Int) (x5 : Int) (x6 : Int) (x7 : Int) (hd : 4 ≤ d) (hW : SW X) (F : i32 a1 → i32 a2 → i32 a3 → i32 x4 → i32 x5 → i32 x6 → i32 x7 → (0 ≤ x6 ∧ x6 < 17) ∧ ((((v 51 x6) ≤ x7) → ∃ P5 : Option AV → VV → Prop, Con mX11_hasWhere 0 0 0 [(2, 47), (0, x6)] X v (fun o X1 v1 => X1 = X ∧ P5 o v1) ∧ ∀ (r6 : Int) (w7 : VV), P5 (some (0, r6)) w7 → (((¬ r6 = 0) → ∃ P9 : Option AV → VV → Prop, Con mX11_typeOf 3 0 0 [(2, 47), (0, x6), (0, 6)] X (upd2 w7 47 50 0) (fun o X1 v1 => X1 = X ∧ P9 o v1) ∧ ∀ (r10 : Int) (w11 : VV), P9 (some (0, r10)) w11 → ∃ P13 : Option AV → VV → Prop, Con mX11_typeOf 3 0 0 [(2, 47), (0, x6), (0, 7)] X w11 (fun o X1 v1 => X1 = X ∧ P13 o v1) ∧ ∀ (r14 : Int) (w15 : VV), P13 (some (0, r14)) w15 → (((0 < (w15 47 50)) → Ex mX11_retype d 297 [(2, 47), (0, a1), (0, a2), (0, a3), (0, x4), (0, x5), (0, x6), (0, r10), (0, r14)] [] X w15 mc ms Q) ∧ (((w15 47 50) ≤ 0) → (((r10 = r14) → i32 (x6 + 1) ∧ Ex mX11_retype d 98 [(2, 47), (0, a1), (0, a2), (0, a3), (0, x4), (0, x5), (0, (x6 + 1)), (3, 0), (3, 0)] [] X w15 mc ms Q) ∧ ((¬ r10 = r14) → Ex mX11_retype d 297 [(2, 47), (0, a1), (0, a2), (0, a3), (0, x4), (0, x5), (0, x6), (0, r10), (0, r14)] [] X w15 mc ms Q))))) ∧ ((r6 = 0) → i32 (x6 + 1) ∧ Ex mX11_retype d 98 [(2, 47), (0, a1), (0, a2), (0, a3), (0, x4), (0, x5), (0, (x6 + 1)), (3, 0), (3, 0)] [] X w7 mc ms Q))) ∧ ((x7 < (v 51 x6)) → ∃ P17 : Option AV → VV → Prop, Con mX11_typeOf 3 0 0 [(2, 47), (0, x6), (0, x7)] X (upd2 v 47 50 0) (fun o X1 v1 => X1 = X ∧ P17 o v1) ∧ ∀ (r18 : Int) (w19 : VV), P17 (some (0, r18)) w19 → ((((w19 47 50) ≤ 0) → i32 (8 * x6) ∧ (i32 (8 * x6) → i32 ((8 * x6) + x7)) ∧ (0 ≤ ((8 * x6) + x7) ∧ ((8 * x6) + x7) < 136) ∧ Ex mX11_retype d 208 [(2, 47), (0, a1), (0, a2), (0, a3), (0, x4), (0, x5), (0, x6), (0, x7), (0, r18)] [] X (upd2 w19 77 ((8 * x6) + x7) r18) mc ms Q) ∧ ((0 < (w19 47 50)) → i32 (8 * x6) ∧ (i32 (8 * x6) → i32 ((8 * x6) + x7)) ∧ ∃ P21 : Option AV → VV → Prop, Con mX11_looks 0 0 0 [(2, 47), (0, ((8 * x6) + x7))] X w19 (fun o X1 v1 => X1 = X ∧ P21 o v1) ∧ ∀ (w23 : VV), P21 none w23 → Ex mX11_retype d 208 [(2, 47), (0, a1), (0, a2), (0, a3), (0, x4), (0, x5), (0, x6), (0, x7), (0, r18)] [] X w23 mc ms Q))))) : Ex mX11_retype d 144 [(2, 47), (0, a1), (0, a2), (0, a3), (0, x4), (0, x5), (0, x6), (0, x7), (3, 0)] [] X v mc ms Q := by
  refine x_li32 (i := 1) rfl (fun ha1 => ?_)
  have F := F ha1
  refine x_li32 (i := 2) rfl (fun ha2 => ?_)
  have F := F ha2
  refine x_li32 (i := 3) rfl (fun ha3 => ?_)
  have F := F ha3
  refine x_li32 (i := 4) rfl (fun hx4 => ?_)
  have F := F hx4
  refine x_li32 (i := 5) rfl (fun hx5 => ?_)
  have F := F hx5
  refine x_li32 (i := 6) rfl (fun hx6 => ?_)
  have F := F hx6
  refine x_li32 (i := 7) rfl (fun hx7 => ?_)
  have F := F hx7
  refine x_iload dX11_retype_144 rfl ?_
  refine x_aload_n dX11_retype_146 rfl ?_
  refine x_getr (r' := 51) flX11_21 dX11_retype_147 (sW47 hW) (gW47 hW) (rW47_4 hW) rfl (Nat.le_of_ble_eq_true rfl) ?_
  refine x_iload dX11_retype_150 rfl ?_
  obtain ⟨hi, F⟩ := F
  refine x_iald (e := (v 51 x6)) dX11_retype_152 (sW51 hW) (gW51 hW) hi rfl ?_
  refine x_icmp_ge 246 dX11_retype_153 rfl (fun hc => ?_) (fun hc => ?_)
  · have F := F.1 hc
    refine x_aload_n dX11_retype_246 rfl ?_
    refine x_iload dX11_retype_247 rfl ?_
    obtain ⟨P5, hC, F⟩ := F
    refine x_inv dX11_retype_249 mlX11_295 hC (sW47 hW) (Nat.le_of_ble_eq_true rfl) (gW47 hW) rfl rfl (by omega) (Nat.zero_le _) (Nat.zero_le _) (Nat.le_of_ble_eq_true rfl) (fun o1 Y8 w7 ht hP => ?_)
    obtain ⟨r6, rfl⟩ : ∃ i, o1 = some (0, i) := ht
    obtain ⟨rfl, hP⟩ := hP
    have F := F r6 w7 hP
    refine x_if_ne 258 dX11_retype_252 rfl (fun hc => ?_) (fun hc => ?_)
    · have F := F.1 hc
      refine x_aload_n dX11_retype_258 rfl ?_
      refine x_iconst dX11_retype_259 rfl (i32_of rfl) ?_
      refine x_puti 0 fwX11_255 dX11_retype_260 (sW47 hW) (gW47 hW) (fun h => Bool.noConfusion h) (Nat.le_of_ble_eq_true rfl) rfl (Or.inl ⟨rfl, Or.inl rfl⟩) ?_
      refine x_aload_n dX11_retype_263 rfl ?_
      refine x_iload dX11_retype_264 rfl ?_
      refine x_bipush dX11_retype_266 kb_6 (i32_of rfl) ?_
      obtain ⟨P9, hC, F⟩ := F
      refine x_inv dX11_retype_268 mlX11_292 hC (sW47 hW) (Nat.le_of_ble_eq_true rfl) (gW47 hW) rfl rfl (by omega) (Nat.zero_le _) (Nat.zero_le _) (Nat.le_of_ble_eq_true rfl) (fun o1 Y12 w11 ht hP => ?_)
      obtain ⟨r10, rfl⟩ : ∃ i, o1 = some (0, i) := ht
      obtain ⟨rfl, hP⟩ := hP
      have F := F r10 w11 hP
      refine x_istore [(2, 47), (0, a1), (0, a2), (0, a3), (0, x4), (0, x5), (0, x6), (0, r10), (3, 0)] dX11_retype_271 rfl (Nat.le_of_ble_eq_true rfl) ?_
      refine x_aload_n dX11_retype_273 rfl ?_
      refine x_iload dX11_retype_274 rfl ?_
      refine x_bipush dX11_retype_276 kb_7 (i32_of rfl) ?_
      obtain ⟨P13, hC, F⟩ := F
      refine x_inv dX11_retype_278 mlX11_292 hC (sW47 hW) (Nat.le_of_ble_eq_true rfl) (gW47 hW) rfl rfl (by omega) (Nat.zero_le _) (Nat.zero_le _) (Nat.le_of_ble_eq_true rfl) (fun o1 Y16 w15 ht hP => ?_)
      obtain ⟨r14, rfl⟩ : ∃ i, o1 = some (0, i) := ht
      obtain ⟨rfl, hP⟩ := hP
      have F := F r14 w15 hP
      refine x_istore [(2, 47), (0, a1), (0, a2), (0, a3), (0, x4), (0, x5), (0, x6), (0, r10), (0, r14)] dX11_retype_281 rfl (Nat.le_of_ble_eq_true rfl) ?_
      refine x_aload_n dX11_retype_283 rfl ?_
      refine x_geti (e := (w15 47 50)) 0 flX11_255 dX11_retype_284 (sW47 hW) (gW47 hW) rfl rfl (Nat.le_of_ble_eq_true rfl) (tagn2 rfl) ?_
      refine x_if_gt 297 dX11_retype_287 rfl (fun hc => ?_) (fun hc => ?_)
      · have F := F.1 hc
        exact F
      · have F := F.2 hc
        refine x_iload dX11_retype_290 rfl ?_
        refine x_iload dX11_retype_292 rfl ?_
        refine x_icmp_eq 309 dX11_retype_294 rfl (fun hc => ?_) (fun hc => ?_)
        · have F := F.1 hc
          obtain ⟨hz, F⟩ := F
          refine x_iinc [(2, 47), (0, a1), (0, a2), (0, a3), (0, x4), (0, x5), (0, (x6 + 1)), (0, r10), (0, r14)] dX11_retype_309 rfl rfl (Nat.le_of_ble_eq_true rfl) hz ?_
          refine x_goto 98 dX11_retype_312 rfl ?_
          exact x_less [(2, 47), (0, a1), (0, a2), (0, a3), (0, x4), (0, x5), (0, (x6 + 1)), (3, 0), (3, 0)] ⟨Or.inr rfl, ⟨Or.inr rfl, ⟨Or.inr rfl, ⟨Or.inr rfl, ⟨Or.inr rfl, ⟨Or.inr rfl, ⟨Or.inr rfl, ⟨Or.inl rfl, ⟨Or.inl rfl, trivial⟩⟩⟩⟩⟩⟩⟩⟩⟩ F
        · have F := F.2 hc
          exact F
    · have F := F.2 hc
      refine x_goto 309 dX11_retype_255 rfl ?_
      obtain ⟨hz, F⟩ := F
      refine x_iinc [(2, 47), (0, a1), (0, a2), (0, a3), (0, x4), (0, x5), (0, (x6 + 1)), (0, x7), (3, 0)] dX11_retype_309 rfl rfl (Nat.le_of_ble_eq_true rfl) hz ?_
      refine x_goto 98 dX11_retype_312 rfl ?_
      exact x_less [(2, 47), (0, a1), (0, a2), (0, a3), (0, x4), (0, x5), (0, (x6 + 1)), (3, 0), (3, 0)] ⟨Or.inr rfl, ⟨Or.inr rfl, ⟨Or.inr rfl, ⟨Or.inr rfl, ⟨Or.inr rfl, ⟨Or.inr rfl, ⟨Or.inr rfl, ⟨Or.inl rfl, ⟨Or.inr rfl, trivial⟩⟩⟩⟩⟩⟩⟩⟩⟩ F
  · have F := F.2 hc
    refine x_aload_n dX11_retype_156 rfl ?_
    refine x_iconst dX11_retype_157 rfl (i32_of rfl) ?_
    refine x_puti 0 fwX11_255 dX11_retype_158 (sW47 hW) (gW47 hW) (fun h => Bool.noConfusion h) (Nat.le_of_ble_eq_true rfl) rfl (Or.inl ⟨rfl, Or.inl rfl⟩) ?_
    refine x_aload_n dX11_retype_161 rfl ?_
    refine x_iload dX11_retype_162 rfl ?_
    refine x_iload dX11_retype_164 rfl ?_
    obtain ⟨P17, hC, F⟩ := F
    refine x_inv dX11_retype_166 mlX11_292 hC (sW47 hW) (Nat.le_of_ble_eq_true rfl) (gW47 hW) rfl rfl (by omega) (Nat.zero_le _) (Nat.zero_le _) (Nat.le_of_ble_eq_true rfl) (fun o1 Y20 w19 ht hP => ?_)
    obtain ⟨r18, rfl⟩ : ∃ i, o1 = some (0, i) := ht
    obtain ⟨rfl, hP⟩ := hP
    have F := F r18 w19 hP
    refine x_istore [(2, 47), (0, a1), (0, a2), (0, a3), (0, x4), (0, x5), (0, x6), (0, x7), (0, r18)] dX11_retype_169 rfl (Nat.le_of_ble_eq_true rfl) ?_
    refine x_aload_n dX11_retype_171 rfl ?_
    refine x_geti (e := (w19 47 50)) 0 flX11_255 dX11_retype_172 (sW47 hW) (gW47 hW) rfl rfl (Nat.le_of_ble_eq_true rfl) (tagn2 rfl) ?_
    refine x_if_le 193 dX11_retype_175 rfl (fun hc => ?_) (fun hc => ?_)
    · have F := F.1 hc
      refine x_aload_n dX11_retype_193 rfl ?_
      refine x_getr (r' := 77) flX11_129 dX11_retype_194 (sW47 hW) (gW47 hW) (rW47_53 hW) rfl (Nat.le_of_ble_eq_true rfl) ?_
      refine x_bipush dX11_retype_197 kb_8 (i32_of rfl) ?_
      refine x_iload dX11_retype_199 rfl ?_
      obtain ⟨hz, F⟩ := F
      refine x_imul dX11_retype_201 hz ?_
      refine x_iload dX11_retype_202 rfl ?_
      refine x_si32 (i := 1) rfl (fun hk1 => ?_)
      obtain ⟨hz, F⟩ := F
      have hz := hz hk1
      refine x_iadd dX11_retype_204 hz ?_
      refine x_iload dX11_retype_205 rfl ?_
      obtain ⟨hi, F⟩ := F
      refine x_iast dX11_retype_207 (sW77 hW) (gW77 hW) hi ?_
      exact F
    · have F := F.2 hc
      refine x_aload_n dX11_retype_178 rfl ?_
      refine x_bipush dX11_retype_179 kb_8 (i32_of rfl) ?_
      refine x_iload dX11_retype_181 rfl ?_
      obtain ⟨hz, F⟩ := F
      refine x_imul dX11_retype_183 hz ?_
      refine x_iload dX11_retype_184 rfl ?_
      refine x_si32 (i := 1) rfl (fun hk1 => ?_)
      obtain ⟨hz, F⟩ := F
      have hz := hz hk1
      refine x_iadd dX11_retype_186 hz ?_
      obtain ⟨P21, hC, F⟩ := F
      refine x_inv dX11_retype_187 mlX11_354 hC (sW47 hW) (Nat.le_of_ble_eq_true rfl) (gW47 hW) rfl rfl (by omega) (Nat.zero_le _) (Nat.zero_le _) (Nat.le_of_ble_eq_true rfl) (fun o1 Y24 w23 ht hP => ?_)
      obtain rfl : o1 = none := ht
      obtain ⟨rfl, hP⟩ := hP
      have F := F w23 hP
      refine x_goto 208 dX11_retype_190 rfl ?_
      exact F

set_option maxRecDepth 100000 in
set_option maxHeartbeats 4000000 in
theorem bX11_retype_208 {d mc ms : Nat} {X : XX} {v : VV} {Q : QQ} (a1 : Int) (a2 : Int) (a3 : Int) (x4 : Int) (x5 : Int) (x6 : Int) (x7 : Int) (x8 : Int) (hd : 4 ≤ d) (hW : SW X) (F : i32 a1 → i32 a2 → i32 a3 → i32 x4 → i32 x5 → i32 x6 → i32 x7 → i32 x8 → i32 (8 * x6) ∧ (i32 (8 * x6) → i32 ((8 * x6) + x7)) ∧ (0 ≤ ((8 * x6) + x7) ∧ ((8 * x6) + x7) < 136) ∧ i32 (8 * x6) ∧ (i32 (8 * x6) → i32 ((8 * x6) + x7)) ∧ (0 ≤ ((8 * x6) + x7) ∧ ((8 * x6) + x7) < 136) ∧ ((((v 77 ((8 * x6) + x7)) = (v 53 ((8 * x6) + x7))) → i32 (x7 + 1) ∧ Ex mX11_retype d 144 [(2, 47), (0, a1), (0, a2), (0, a3), (0, x4), (0, x5), (0, x6), (0, (x7 + 1)), (3, 0)] [] X v mc ms Q) ∧ ((¬ (v 77 ((8 * x6) + x7)) = (v 53 ((8 * x6) + x7))) → i32 (x5 + 1) ∧ i32 (x7 + 1) ∧ Ex mX11_retype d 144 [(2, 47), (0, a1), (0, a2), (0, a3), (0, x4), (0, (x5 + 1)), (0, x6), (0, (x7 + 1)), (3, 0)] [] X v mc ms Q))) : Ex mX11_retype d 208 [(2, 47), (0, a1), (0, a2), (0, a3), (0, x4), (0, x5), (0, x6), (0, x7), (0, x8)] [] X v mc ms Q := by
  refine x_li32 (i := 1) rfl (fun ha1 => ?_)
  have F := F ha1
  refine x_li32 (i := 2) rfl (fun ha2 => ?_)
  have F := F ha2
  refine x_li32 (i := 3) rfl (fun ha3 => ?_)
  have F := F ha3
  refine x_li32 (i := 4) rfl (fun hx4 => ?_)
  have F := F hx4
  refine x_li32 (i := 5) rfl (fun hx5 => ?_)
  have F := F hx5
  refine x_li32 (i := 6) rfl (fun hx6 => ?_)
  have F := F hx6
  refine x_li32 (i := 7) rfl (fun hx7 => ?_)
  have F := F hx7
  refine x_li32 (i := 8) rfl (fun hx8 => ?_)
  have F := F hx8
  refine x_aload_n dX11_retype_208 rfl ?_
  refine x_getr (r' := 77) flX11_129 dX11_retype_209 (sW47 hW) (gW47 hW) (rW47_53 hW) rfl (Nat.le_of_ble_eq_true rfl) ?_
  refine x_bipush dX11_retype_212 kb_8 (i32_of rfl) ?_
  refine x_iload dX11_retype_214 rfl ?_
  obtain ⟨hz, F⟩ := F
  refine x_imul dX11_retype_216 hz ?_
  refine x_iload dX11_retype_217 rfl ?_
  refine x_si32 (i := 1) rfl (fun hk1 => ?_)
  obtain ⟨hz, F⟩ := F
  have hz := hz hk1
  refine x_iadd dX11_retype_219 hz ?_
  obtain ⟨hi, F⟩ := F
  refine x_iald (e := (v 77 ((8 * x6) + x7))) dX11_retype_220 (sW77 hW) (gW77 hW) hi rfl ?_
  refine x_aload_n dX11_retype_221 rfl ?_
  refine x_getr (r' := 53) flX11_27 dX11_retype_222 (sW47 hW) (gW47 hW) (rW47_6 hW) rfl (Nat.le_of_ble_eq_true rfl) ?_
  refine x_bipush dX11_retype_225 kb_8 (i32_of rfl) ?_
  refine x_iload dX11_retype_227 rfl ?_
  obtain ⟨hz, F⟩ := F
  refine x_imul dX11_retype_229 hz ?_
  refine x_iload dX11_retype_230 rfl ?_
  refine x_si32 (i := 1) rfl (fun hk1 => ?_)
  obtain ⟨hz, F⟩ := F
  have hz := hz hk1
  refine x_iadd dX11_retype_232 hz ?_
  obtain ⟨hi, F⟩ := F
  refine x_iald (e := (v 53 ((8 * x6) + x7))) dX11_retype_233 (sW53 hW) (gW53 hW) hi rfl ?_
  refine x_icmp_eq 240 dX11_retype_234 rfl (fun hc => ?_) (fun hc => ?_)
  · have F := F.1 hc
    obtain ⟨hz, F⟩ := F
    refine x_iinc [(2, 47), (0, a1), (0, a2), (0, a3), (0, x4), (0, x5), (0, x6), (0, (x7 + 1)), (0, x8)] dX11_retype_240 rfl rfl (Nat.le_of_ble_eq_true rfl) hz ?_
    refine x_goto 144 dX11_retype_243 rfl ?_
    exact x_less [(2, 47), (0, a1), (0, a2), (0, a3), (0, x4), (0, x5), (0, x6), (0, (x7 + 1)), (3, 0)] ⟨Or.inr rfl, ⟨Or.inr rfl, ⟨Or.inr rfl, ⟨Or.inr rfl, ⟨Or.inr rfl, ⟨Or.inr rfl, ⟨Or.inr rfl, ⟨Or.inr rfl, ⟨Or.inl rfl, trivial⟩⟩⟩⟩⟩⟩⟩⟩⟩ F
  · have F := F.2 hc
    obtain ⟨hz, F⟩ := F
    refine x_iinc [(2, 47), (0, a1), (0, a2), (0, a3), (0, x4), (0, (x5 + 1)), (0, x6), (0, x7), (0, x8)] dX11_retype_237 rfl rfl (Nat.le_of_ble_eq_true rfl) hz ?_
    obtain ⟨hz, F⟩ := F
    refine x_iinc [(2, 47), (0, a1), (0, a2), (0, a3), (0, x4), (0, (x5 + 1)), (0, x6), (0, (x7 + 1)), (0, x8)] dX11_retype_240 rfl rfl (Nat.le_of_ble_eq_true rfl) hz ?_
    refine x_goto 144 dX11_retype_243 rfl ?_
    exact x_less [(2, 47), (0, a1), (0, a2), (0, a3), (0, x4), (0, (x5 + 1)), (0, x6), (0, (x7 + 1)), (3, 0)] ⟨Or.inr rfl, ⟨Or.inr rfl, ⟨Or.inr rfl, ⟨Or.inr rfl, ⟨Or.inr rfl, ⟨Or.inr rfl, ⟨Or.inr rfl, ⟨Or.inr rfl, ⟨Or.inl rfl, trivial⟩⟩⟩⟩⟩⟩⟩⟩⟩ F

set_option maxRecDepth 100000 in
set_option maxHeartbeats 4000000 in
theorem bX11_retype_297 {d mc ms : Nat} {X : XX} {v : VV} {Q : QQ} (a1 : Int) (a2 : Int) (a3 : Int) (x4 : Int) (x5 : Int) (x6 : Int) (x7 : Int) (x8 : Int) (hd : 4 ≤ d) (hW : SW X) (F : i32 a1 → i32 a2 → i32 a3 → i32 x4 → i32 x5 → i32 x6 → i32 x7 → i32 x8 → i32 (8 * x6) ∧ (i32 (8 * x6) → i32 ((8 * x6) + 6)) ∧ ∃ P25 : Option AV → VV → Prop, Con mX11_looks 0 0 0 [(2, 47), (0, ((8 * x6) + 6))] X v (fun o X1 v1 => X1 = X ∧ P25 o v1) ∧ ∀ (w27 : VV), P25 none w27 → i32 (x6 + 1) ∧ Ex mX11_retype d 98 [(2, 47), (0, a1), (0, a2), (0, a3), (0, x4), (0, x5), (0, (x6 + 1)), (3, 0), (3, 0)] [] X w27 mc ms Q) : Ex mX11_retype d 297 [(2, 47), (0, a1), (0, a2), (0, a3), (0, x4), (0, x5), (0, x6), (0, x7), (0, x8)] [] X v mc ms Q := by
  refine x_li32 (i := 1) rfl (fun ha1 => ?_)
  have F := F ha1
  refine x_li32 (i := 2) rfl (fun ha2 => ?_)
  have F := F ha2
  refine x_li32 (i := 3) rfl (fun ha3 => ?_)
  have F := F ha3
  refine x_li32 (i := 4) rfl (fun hx4 => ?_)
  have F := F hx4
  refine x_li32 (i := 5) rfl (fun hx5 => ?_)
  have F := F hx5
  refine x_li32 (i := 6) rfl (fun hx6 => ?_)
  have F := F hx6
  refine x_li32 (i := 7) rfl (fun hx7 => ?_)
  have F := F hx7
  refine x_li32 (i := 8) rfl (fun hx8 => ?_)
  have F := F hx8
  refine x_aload_n dX11_retype_297 rfl ?_
  refine x_bipush dX11_retype_298 kb_8 (i32_of rfl) ?_
  refine x_iload dX11_retype_300 rfl ?_
  obtain ⟨hz, F⟩ := F
  refine x_imul dX11_retype_302 hz ?_
  refine x_bipush dX11_retype_303 kb_6 (i32_of rfl) ?_
  refine x_si32 (i := 1) rfl (fun hk1 => ?_)
  obtain ⟨hz, F⟩ := F
  have hz := hz hk1
  refine x_iadd dX11_retype_305 hz ?_
  obtain ⟨P25, hC, F⟩ := F
  refine x_inv dX11_retype_306 mlX11_354 hC (sW47 hW) (Nat.le_of_ble_eq_true rfl) (gW47 hW) rfl rfl (by omega) (Nat.zero_le _) (Nat.zero_le _) (Nat.le_of_ble_eq_true rfl) (fun o1 Y28 w27 ht hP => ?_)
  obtain rfl : o1 = none := ht
  obtain ⟨rfl, hP⟩ := hP
  have F := F w27 hP
  obtain ⟨hz, F⟩ := F
  refine x_iinc [(2, 47), (0, a1), (0, a2), (0, a3), (0, x4), (0, x5), (0, (x6 + 1)), (0, x7), (0, x8)] dX11_retype_309 rfl rfl (Nat.le_of_ble_eq_true rfl) hz ?_
  refine x_goto 98 dX11_retype_312 rfl ?_
  exact x_less [(2, 47), (0, a1), (0, a2), (0, a3), (0, x4), (0, x5), (0, (x6 + 1)), (3, 0), (3, 0)] ⟨Or.inr rfl, ⟨Or.inr rfl, ⟨Or.inr rfl, ⟨Or.inr rfl, ⟨Or.inr rfl, ⟨Or.inr rfl, ⟨Or.inr rfl, ⟨Or.inl rfl, ⟨Or.inl rfl, trivial⟩⟩⟩⟩⟩⟩⟩⟩⟩ F

set_option maxRecDepth 100000 in
set_option maxHeartbeats 4000000 in
theorem bX11_retype_333 {d mc ms : Nat} {X : XX} {v : VV} {Q : QQ} (a1 : Int) (a2 : Int) (a3 : Int) (x4 : Int) (x5 : Int) (x6 : Int) (hd : 4 ≤ d) (hW : SW X) (F : i32 a1 → i32 a2 → i32 a3 → i32 x4 → i32 x5 → i32 x6 → ((((v 47 65) ≤ x6) → Q (some (0, (-2))) X (upd2 v 47 65 0)) ∧ ((x6 < (v 47 65)) → (0 ≤ x6 ∧ x6 < 136) ∧ (0 ≤ x6 ∧ x6 < 140) ∧ i32 (x6 + 1) ∧ Ex mX11_retype d 333 [(2, 47), (0, a1), (0, a2), (0, a3), (0, x4), (0, x5), (0, (x6 + 1)), (3, 0), (3, 0)] [] X (upd2 v 81 x6 (v 86 x6)) mc ms Q))) : Ex mX11_retype d 333 [(2, 47), (0, a1), (0, a2), (0, a3), (0, x4), (0, x5), (0, x6), (3, 0), (3, 0)] [] X v mc ms Q := by
  refine x_li32 (i := 1) rfl (fun ha1 => ?_)
  have F := F ha1
  refine x_li32 (i := 2) rfl (fun ha2 => ?_)
  have F := F ha2
  refine x_li32 (i := 3) rfl (fun ha3 => ?_)
  have F := F ha3
  refine x_li32 (i := 4) rfl (fun hx4 => ?_)
  have F := F hx4
  refine x_li32 (i := 5) rfl (fun hx5 => ?_)
  have F := F hx5
  refine x_li32 (i := 6) rfl (fun hx6 => ?_)
  have F := F hx6
  refine x_iload dX11_retype_333 rfl ?_
  refine x_aload_n dX11_retype_335 rfl ?_
  refine x_geti (e := (v 47 65)) 0 flX11_357 dX11_retype_336 (sW47 hW) (gW47 hW) rfl rfl (Nat.le_of_ble_eq_true rfl) (tagn2 rfl) ?_
  refine x_icmp_ge 362 dX11_retype_339 rfl (fun hc => ?_) (fun hc => ?_)
  · have F := F.1 hc
    refine x_aload_n dX11_retype_362 rfl ?_
    refine x_iconst dX11_retype_363 rfl (i32_of rfl) ?_
    refine x_puti 0 fwX11_357 dX11_retype_364 (sW47 hW) (gW47 hW) (fun h => Bool.noConfusion h) (Nat.le_of_ble_eq_true rfl) rfl (Or.inl ⟨rfl, Or.inl rfl⟩) ?_
    refine x_bipush dX11_retype_367 kb_m2 (i32_of rfl) ?_
    exact x_ret (some (0, (-2))) rfl ⟨dX11_retype_369, Or.inl rfl⟩ F
  · have F := F.2 hc
    refine x_aload_n dX11_retype_342 rfl ?_
    refine x_getr (r' := 81) flX11_141 dX11_retype_343 (sW47 hW) (gW47 hW) (rW47_58 hW) rfl (Nat.le_of_ble_eq_true rfl) ?_
    refine x_iload dX11_retype_346 rfl ?_
    refine x_aload_n dX11_retype_348 rfl ?_
    refine x_getr (r' := 86) flX11_156 dX11_retype_349 (sW47 hW) (gW47 hW) (rW47_66 hW) rfl (Nat.le_of_ble_eq_true rfl) ?_
    refine x_iload dX11_retype_352 rfl ?_
    obtain ⟨hi, F⟩ := F
    refine x_iald (e := (v 86 x6)) dX11_retype_354 (sW86 hW) (gW86 hW) hi rfl ?_
    obtain ⟨hi, F⟩ := F
    refine x_iast dX11_retype_355 (sW81 hW) (gW81 hW) hi ?_
    obtain ⟨hz, F⟩ := F
    refine x_iinc [(2, 47), (0, a1), (0, a2), (0, a3), (0, x4), (0, x5), (0, (x6 + 1)), (3, 0), (3, 0)] dX11_retype_356 rfl rfl (Nat.le_of_ble_eq_true rfl) hz ?_
    refine x_goto 333 dX11_retype_359 rfl ?_
    exact F

set_option maxRecDepth 100000 in
set_option maxHeartbeats 4000000 in
theorem bX11_retype_379 {d mc ms : Nat} {X : XX} {v : VV} {Q : QQ} (a1 : Int) (a2 : Int) (a3 : Int) (x4 : Int) (x5 : Int) (x6 : Int) (hd : 4 ≤ d) (hW : SW X) (F : i32 a1 → i32 a2 → i32 a3 → i32 x4 → i32 x5 → i32 x6 → (((136 ≤ x6) → Q (some (0, x5)) X v) ∧ ((x6 < 136) → (0 ≤ x6 ∧ x6 < 136) ∧ (0 ≤ x6 ∧ x6 < 136) ∧ i32 (x6 + 1) ∧ Ex mX11_retype d 379 [(2, 47), (0, a1), (0, a2), (0, a3), (0, x4), (0, x5), (0, (x6 + 1)), (3, 0), (3, 0)] [] X (upd2 v 53 x6 (v 77 x6)) mc ms Q))) : Ex mX11_retype d 379 [(2, 47), (0, a1), (0, a2), (0, a3), (0, x4), (0, x5), (0, x6), (3, 0), (3, 0)] [] X v mc ms Q := by
  refine x_li32 (i := 1) rfl (fun ha1 => ?_)
  have F := F ha1
  refine x_li32 (i := 2) rfl (fun ha2 => ?_)
  have F := F ha2
  refine x_li32 (i := 3) rfl (fun ha3 => ?_)
  have F := F ha3
  refine x_li32 (i := 4) rfl (fun hx4 => ?_)
  have F := F hx4
  refine x_li32 (i := 5) rfl (fun hx5 => ?_)
  have F := F hx5
  refine x_li32 (i := 6) rfl (fun hx6 => ?_)
  have F := F hx6
  refine x_iload dX11_retype_379 rfl ?_
  refine x_sipush dX11_retype_381 ks_136 (i32_of rfl) ?_
  refine x_icmp_ge 407 dX11_retype_384 rfl (fun hc => ?_) (fun hc => ?_)
  · have F := F.1 hc
    refine x_iload dX11_retype_407 rfl ?_
    exact x_ret (some (0, x5)) rfl ⟨dX11_retype_409, Or.inl rfl⟩ F
  · have F := F.2 hc
    refine x_aload_n dX11_retype_387 rfl ?_
    refine x_getr (r' := 53) flX11_27 dX11_retype_388 (sW47 hW) (gW47 hW) (rW47_6 hW) rfl (Nat.le_of_ble_eq_true rfl) ?_
    refine x_iload dX11_retype_391 rfl ?_
    refine x_aload_n dX11_retype_393 rfl ?_
    refine x_getr (r' := 77) flX11_129 dX11_retype_394 (sW47 hW) (gW47 hW) (rW47_53 hW) rfl (Nat.le_of_ble_eq_true rfl) ?_
    refine x_iload dX11_retype_397 rfl ?_
    obtain ⟨hi, F⟩ := F
    refine x_iald (e := (v 77 x6)) dX11_retype_399 (sW77 hW) (gW77 hW) hi rfl ?_
    obtain ⟨hi, F⟩ := F
    refine x_iast dX11_retype_400 (sW53 hW) (gW53 hW) hi ?_
    obtain ⟨hz, F⟩ := F
    refine x_iinc [(2, 47), (0, a1), (0, a2), (0, a3), (0, x4), (0, x5), (0, (x6 + 1)), (3, 0), (3, 0)] dX11_retype_401 rfl rfl (Nat.le_of_ble_eq_true rfl) hz ?_
    refine x_goto 379 dX11_retype_404 rfl ?_
    exact F
