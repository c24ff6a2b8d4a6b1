set_option maxRecDepth 100000 in
set_option maxHeartbeats 4000000 in
theorem bX4_readSource_0 {d mc ms : Nat} {X : XX} {v : VV} {Q : QQ} (hd : 2 ≤ d) (hW : SW X) (F : ∃ P1 : Option AV → VV → Prop, Con mX4_take 1 0 0 [(2, 3), (0, 40)] X v (fun o X1 v1 => X1 = X ∧ P1 o v1) ∧ ∀ (r2 : Int) (w3 : VV), P1 (some (0, r2)) w3 → (((¬ r2 = 0) → Ex mX4_readSource d 13 [(2, 3), (0, 0)] [] X w3 mc ms Q) ∧ ((r2 = 0) → Q (some (0, 0)) X w3))) : Ex mX4_readSource d 0 [(2, 3), (3, 0)] [] X v mc ms Q := by
  refine x_aload_n dX4_readSource_0 rfl ?_
  refine x_bipush dX4_readSource_1 kb_40 (i32_of rfl) ?_
  obtain ⟨P1, hC, F⟩ := F
  refine x_inv dX4_readSource_3 mlX4_38 hC (sW3 hW) (Nat.le_of_ble_eq_true rfl) (gW3 hW) rfl rfl (by omega) (Nat.zero_le _) (Nat.zero_le _) (Nat.le_of_ble_eq_true rfl) (fun o1 Y4 w3 ht hP => ?_)
  obtain ⟨r2, rfl⟩ : ∃ i, o1 = some (0, i) := ht
  obtain ⟨hX, hP⟩ := hP
  have hX := Eq.symm hX
  subst hX
  have F := F r2 w3 hP
  refine x_if_ne 11 dX4_readSource_6 rfl (fun hc => ?_) (fun hc => ?_)
  · have F := F.1 hc
    refine x_iconst dX4_readSource_11 rfl (i32_of rfl) ?_
    refine x_istore_n [(2, 3), (0, 0)] dX4_readSource_12 rfl (Nat.le_of_ble_eq_true rfl) ?_
    exact F
  · have F := F.2 hc
    refine x_iconst dX4_readSource_9 rfl (i32_of rfl) ?_
    exact x_ret (some (0, 0)) rfl ⟨dX4_readSource_10, Or.inr ⟨rfl, Or.inl rfl⟩⟩ F

set_option maxRecDepth 100000 in
set_option maxHeartbeats 4000000 in
theorem bX4_readSource_13 {d mc ms : Nat} {X : XX} {v : VV} {Q : QQ} (x1 : Int) (hd : 2 ≤ d) (hW : SW X) (F : i32 x1 → (((6 ≤ x1) → Q (some (0, 0)) X v) ∧ ((x1 < 6) → ∃ P5 : Option AV → VV → Prop, Con mX6_add 0 0 0 [(2, 17), (0, (v 3 1))] X v (fun o X1 v1 => X1 = X ∧ P5 o v1) ∧ ∀ (w7 : VV), P5 none w7 → ∃ P9 : Option AV → VV → Prop, Con mX4_takeName 1 0 0 [(2, 3)] X w7 (fun o X1 v1 => X1 = X ∧ P9 o v1) ∧ ∀ (r10 : Int) (w11 : VV), P9 (some (0, r10)) w11 → (((r10 = 0) → Q (some (0, 0)) X w11) ∧ ((¬ r10 = 0) → ∃ P13 : Option AV → VV → Prop, Con mX4_takeType 1 0 0 [(2, 3)] X w11 (fun o X1 v1 => X1 = X ∧ P13 o v1) ∧ ∀ (r14 : Int) (w15 : VV), P13 (some (0, r14)) w15 → (((¬ r14 = 0) → ∃ P17 : Option AV → VV → Prop, Con mX4_take 1 0 0 [(2, 3), (0, 44)] X w15 (fun o X1 v1 => X1 = X ∧ P17 o v1) ∧ ∀ (r18 : Int) (w19 : VV), P17 (some (0, r18)) w19 → (((¬ r18 = 0) → i32 (x1 + 1) ∧ Ex mX4_readSource d 13 [(2, 3), (0, (x1 + 1))] [] X w19 mc ms Q) ∧ ((r18 = 0) → ∃ P21 : Option AV → VV → Prop, Con mX4_take 1 0 0 [(2, 3), (0, 41)] X w19 (fun o X1 v1 => X1 = X ∧ P21 o v1) ∧ ∀ (r22 : Int) (w23 : VV), P21 (some (0, r22)) w23 → (r22 = 0 ∨ r22 = 1) ∧ Q (some (0, r22)) X w23))) ∧ ((r14 = 0) → Q (some (0, 0)) X w15))))))) : Ex mX4_readSource d 13 [(2, 3), (0, x1)] [] X v mc ms Q := by
  refine x_li32 (i := 1) rfl (fun hx1 => ?_)
  have F := F hx1
  refine x_iload_n dX4_readSource_13 rfl ?_
  refine x_bipush dX4_readSource_14 kb_6 (i32_of rfl) ?_
  refine x_icmp_ge 71 dX4_readSource_16 rfl (fun hc => ?_) (fun hc => ?_)
  · have F := F.1 hc
    refine x_iconst dX4_readSource_71 rfl (i32_of rfl) ?_
    exact x_ret (some (0, 0)) rfl ⟨dX4_readSource_72, Or.inr ⟨rfl, Or.inl rfl⟩⟩ F
  · have F := F.2 hc
    refine x_aload_n dX4_readSource_19 rfl ?_
    refine x_getr (r' := 4) flX4_12 dX4_readSource_20 (sW3 hW) (gW3 hW) (rW3_0 hW) rfl (Nat.le_of_ble_eq_true rfl) ?_
    refine x_getr (r' := 17) flX4_79 dX4_readSource_23 (sW4 hW) (gW4 hW) (rW4_1 hW) rfl (Nat.le_of_ble_eq_true rfl) ?_
    refine x_aload_n dX4_readSource_26 rfl ?_
    refine x_geti (e := (v 3 1)) 0 flX4_18 dX4_readSource_27 (sW3 hW) (gW3 hW) rfl rfl (Nat.le_of_ble_eq_true rfl) (tagn2 rfl) ?_
    obtain ⟨P5, hC, F⟩ := F
    refine x_inv dX4_readSource_30 mlX4_82 hC (sW17 hW) (Nat.le_of_ble_eq_true rfl) (gW17 hW) rfl rfl (by omega) (Nat.zero_le _) (Nat.zero_le _) (Nat.le_of_ble_eq_true rfl) (fun o1 Y8 w7 ht hP => ?_)
    obtain rfl : o1 = none := ht
    obtain ⟨hX, hP⟩ := hP
    have hX := Eq.symm hX
    subst hX
    have F := F w7 hP
    refine x_aload_n dX4_readSource_33 rfl ?_
    obtain ⟨P9, hC, F⟩ := F
    refine x_inv dX4_readSource_34 mlX4_76 hC (sW3 hW) (Nat.le_of_ble_eq_true rfl) (gW3 hW) rfl rfl (by omega) (Nat.zero_le _) (Nat.zero_le _) (Nat.le_of_ble_eq_true rfl) (fun o1 Y12 w11 ht hP => ?_)
    obtain ⟨r10, rfl⟩ : ∃ i, o1 = some (0, i) := ht
    obtain ⟨hX, hP⟩ := hP
    have hX := Eq.symm hX
    subst hX
    have F := F r10 w11 hP
    refine x_if_eq 47 dX4_readSource_37 rfl (fun hc => ?_) (fun hc => ?_)
    · have F := F.1 hc
      refine x_iconst dX4_readSource_47 rfl (i32_of rfl) ?_
      exact x_ret (some (0, 0)) rfl ⟨dX4_readSource_48, Or.inr ⟨rfl, Or.inl rfl⟩⟩ F
    · have F := F.2 hc
      refine x_aload_n dX4_readSource_40 rfl ?_
      obtain ⟨P13, hC, F⟩ := F
      refine x_inv dX4_readSource_41 mlX4_86 hC (sW3 hW) (Nat.le_of_ble_eq_true rfl) (gW3 hW) rfl rfl (by omega) (Nat.zero_le _) (Nat.zero_le _) (Nat.le_of_ble_eq_true rfl) (fun o1 Y16 w15 ht hP => ?_)
      obtain ⟨r14, rfl⟩ : ∃ i, o1 = some (0, i) := ht
      obtain ⟨hX, hP⟩ := hP
      have hX := Eq.symm hX
      subst hX
      have F := F r14 w15 hP
      refine x_if_ne 49 dX4_readSource_44 rfl (fun hc => ?_) (fun hc => ?_)
      · have F := F.1 hc
        refine x_aload_n dX4_readSource_49 rfl ?_
        refine x_bipush dX4_readSource_50 kb_44 (i32_of rfl) ?_
        obtain ⟨P17, hC, F⟩ := F
        refine x_inv dX4_readSource_52 mlX4_38 hC (sW3 hW) (Nat.le_of_ble_eq_true rfl) (gW3 hW) rfl rfl (by omega) (Nat.zero_le _) (Nat.zero_le _) (Nat.le_of_ble_eq_true rfl) (fun o1 Y20 w19 ht hP => ?_)
        obtain ⟨r18, rfl⟩ : ∃ i, o1 = some (0, i) := ht
        obtain ⟨hX, hP⟩ := hP
        have hX := Eq.symm hX
        subst hX
        have F := F r18 w19 hP
        refine x_if_ne 65 dX4_readSource_55 rfl (fun hc => ?_) (fun hc => ?_)
        · have F := F.1 hc
          obtain ⟨hz, F⟩ := F
          refine x_iinc [(2, 3), (0, (x1 + 1))] dX4_readSource_65 rfl rfl (Nat.le_of_ble_eq_true rfl) hz ?_
          refine x_goto 13 dX4_readSource_68 rfl ?_
          exact F
        · have F := F.2 hc
          refine x_aload_n dX4_readSource_58 rfl ?_
          refine x_bipush dX4_readSource_59 kb_41 (i32_of rfl) ?_
          obtain ⟨P21, hC, F⟩ := F
          refine x_inv dX4_readSource_61 mlX4_38 hC (sW3 hW) (Nat.le_of_ble_eq_true rfl) (gW3 hW) rfl rfl (by omega) (Nat.zero_le _) (Nat.zero_le _) (Nat.le_of_ble_eq_true rfl) (fun o1 Y24 w23 ht hP => ?_)
          obtain ⟨r22, rfl⟩ : ∃ i, o1 = some (0, i) := ht
          obtain ⟨hX, hP⟩ := hP
          have hX := Eq.symm hX
          subst hX
          have F := F r22 w23 hP
          exact x_ret (some (0, r22)) rfl ⟨dX4_readSource_64, Or.inr ⟨rfl, F.1⟩⟩ F.2
      · have F := F.2 hc
        refine x_iconst dX4_readSource_47 rfl (i32_of rfl) ?_
        exact x_ret (some (0, 0)) rfl ⟨dX4_readSource_48, Or.inr ⟨rfl, Or.inl rfl⟩⟩ F

set_option maxRecDepth 100000 in
set_option maxHeartbeats 4000000 in
theorem bX4_readResults_0 {d mc ms : Nat} {X : XX} {v : VV} {Q : QQ} (hd : 11 ≤ d) (hW : SW X) (F : Ex mX4_readResults d 2 [(2, 3), (0, 0)] [] X v mc ms Q) : Ex mX4_readResults d 0 [(2, 3), (3, 0)] [] X v mc ms Q := by
  refine x_iconst dX4_readResults_0 rfl (i32_of rfl) ?_
  refine x_istore_n [(2, 3), (0, 0)] dX4_readResults_1 rfl (Nat.le_of_ble_eq_true rfl) ?_
  exact F

set_option maxRecDepth 100000 in
set_option maxHeartbeats 4000000 in
theorem bX4_readResults_2 {d mc ms : Nat} {X : XX} {v : VV} {Q : QQ} (x1 : Int) (hd : 11 ≤ d) (hW : SW X) (F : i32 x1 → (((6 ≤ x1) → Q (some (0, 0)) X v) ∧ ((x1 < 6) → ∃ P1 : Option AV → VV → Prop, Con mX6_add 0 0 0 [(2, 17), (0, (v 3 1))] X v (fun o X1 v1 => X1 = X ∧ P1 o v1) ∧ ∀ (w3 : VV), P1 none w3 → ∃ P5 : Option AV → VV → Prop, Con mX4_takeName 1 0 0 [(2, 3)] X w3 (fun o X1 v1 => X1 = X ∧ P5 o v1) ∧ ∀ (r6 : Int) (w7 : VV), P5 (some (0, r6)) w7 → (((r6 = 0) → Q (some (0, 0)) X w7) ∧ ((¬ r6 = 0) → ∃ P9 : Option AV → VV → Prop, Con mX4_take 1 0 0 [(2, 3), (0, 58)] X w7 (fun o X1 v1 => X1 = X ∧ P9 o v1) ∧ ∀ (r10 : Int) (w11 : VV), P9 (some (0, r10)) w11 → (((r10 = 0) → Q (some (0, 0)) X w11) ∧ ((¬ r10 = 0) → ∃ e17 : Nat, e17 + 1 ≤ d ∧ ∃ P13 : Option AV → VV → Prop, Con mX4_readFormula e17 0 0 [(2, 3), (0, 0)] X w11 (fun o X1 v1 => X1 = X ∧ P13 o v1) ∧ ∀ (r14 : Int) (w15 : VV), P13 (some (0, r14)) w15 → (((¬ r14 = 0) → ∃ P18 : Option AV → VV → Prop, Con mX5_closePart 1 0 0 [(2, 25), (0, x1)] X w15 (fun o X1 v1 => X1 = X ∧ P18 o v1) ∧ ∀ (w20 : VV), P18 none w20 → ∃ P22 : Option AV → VV → Prop, Con mX4_take 1 0 0 [(2, 3), (0, 44)] X w20 (fun o X1 v1 => X1 = X ∧ P22 o v1) ∧ ∀ (r23 : Int) (w24 : VV), P22 (some (0, r23)) w24 → (((¬ r23 = 0) → i32 (x1 + 1) ∧ Ex mX4_readResults d 2 [(2, 3), (0, (x1 + 1))] [] X w24 mc ms Q) ∧ ((r23 = 0) → ∃ P26 : Option AV → VV → Prop, Con mX4_take 1 0 0 [(2, 3), (0, 264)] X w24 (fun o X1 v1 => X1 = X ∧ P26 o v1) ∧ ∀ (r27 : Int) (w28 : VV), P26 (some (0, r27)) w28 → (r27 = 0 ∨ r27 = 1) ∧ Q (some (0, r27)) X w28))) ∧ ((r14 = 0) → Q (some (0, 0)) X w15))))))))) : Ex mX4_readResults d 2 [(2, 3), (0, x1)] [] X v mc ms Q := by
  refine x_li32 (i := 1) rfl (fun hx1 => ?_)
  have F := F hx1
  refine x_iload_n dX4_readResults_2 rfl ?_
  refine x_bipush dX4_readResults_3 kb_6 (i32_of rfl) ?_
  refine x_icmp_ge 82 dX4_readResults_5 rfl (fun hc => ?_) (fun hc => ?_)
  · have F := F.1 hc
    refine x_iconst dX4_readResults_82 rfl (i32_of rfl) ?_
    exact x_ret (some (0, 0)) rfl ⟨dX4_readResults_83, Or.inr ⟨rfl, Or.inl rfl⟩⟩ F
  · have F := F.2 hc
    refine x_aload_n dX4_readResults_8 rfl ?_
    refine x_getr (r' := 4) flX4_12 dX4_readResults_9 (sW3 hW) (gW3 hW) (rW3_0 hW) rfl (Nat.le_of_ble_eq_true rfl) ?_
    refine x_getr (r' := 17) flX4_79 dX4_readResults_12 (sW4 hW) (gW4 hW) (rW4_1 hW) rfl (Nat.le_of_ble_eq_true rfl) ?_
    refine x_aload_n dX4_readResults_15 rfl ?_
    refine x_geti (e := (v 3 1)) 0 flX4_18 dX4_readResults_16 (sW3 hW) (gW3 hW) rfl rfl (Nat.le_of_ble_eq_true rfl) (tagn2 rfl) ?_
    obtain ⟨P1, hC, F⟩ := F
    refine x_inv dX4_readResults_19 mlX4_82 hC (sW17 hW) (Nat.le_of_ble_eq_true rfl) (gW17 hW) rfl rfl (by omega) (Nat.zero_le _) (Nat.zero_le _) (Nat.le_of_ble_eq_true rfl) (fun o1 Y4 w3 ht hP => ?_)
    obtain rfl : o1 = none := ht
    obtain ⟨hX, hP⟩ := hP
    have hX := Eq.symm hX
    subst hX
    have F := F w3 hP
    refine x_aload_n dX4_readResults_22 rfl ?_
    obtain ⟨P5, hC, F⟩ := F
    refine x_inv dX4_readResults_23 mlX4_76 hC (sW3 hW) (Nat.le_of_ble_eq_true rfl) (gW3 hW) rfl rfl (by omega) (Nat.zero_le _) (Nat.zero_le _) (Nat.le_of_ble_eq_true rfl) (fun o1 Y8 w7 ht hP => ?_)
    obtain ⟨r6, rfl⟩ : ∃ i, o1 = some (0, i) := ht
    obtain ⟨hX, hP⟩ := hP
    have hX := Eq.symm hX
    subst hX
    have F := F r6 w7 hP
    refine x_if_eq 46 dX4_readResults_26 rfl (fun hc => ?_) (fun hc => ?_)
    · have F := F.1 hc
      refine x_iconst dX4_readResults_46 rfl (i32_of rfl) ?_
      exact x_ret (some (0, 0)) rfl ⟨dX4_readResults_47, Or.inr ⟨rfl, Or.inl rfl⟩⟩ F
    · have F := F.2 hc
      refine x_aload_n dX4_readResults_29 rfl ?_
      refine x_bipush dX4_readResults_30 kb_58 (i32_of rfl) ?_
      obtain ⟨P9, hC, F⟩ := F
      refine x_inv dX4_readResults_32 mlX4_38 hC (sW3 hW) (Nat.le_of_ble_eq_true rfl) (gW3 hW) rfl rfl (by omega) (Nat.zero_le _) (Nat.zero_le _) (Nat.le_of_ble_eq_true rfl) (fun o1 Y12 w11 ht hP => ?_)
      obtain ⟨r10, rfl⟩ : ∃ i, o1 = some (0, i) := ht
      obtain ⟨hX, hP⟩ := hP
      have hX := Eq.symm hX
      subst hX
      have F := F r10 w11 hP
      refine x_if_eq 46 dX4_readResults_35 rfl (fun hc => ?_) (fun hc => ?_)
      · have F := F.1 hc
        refine x_iconst dX4_readResults_46 rfl (i32_of rfl) ?_
        exact x_ret (some (0, 0)) rfl ⟨dX4_readResults_47, Or.inr ⟨rfl, Or.inl rfl⟩⟩ F
      · have F := F.2 hc
        refine x_aload_n dX4_readResults_38 rfl ?_
        refine x_iconst dX4_readResults_39 rfl (i32_of rfl) ?_
        obtain ⟨e17, hdv, F⟩ := F
        obtain ⟨P13, hC, F⟩ := F
        refine x_inv dX4_readResults_40 mlX4_89 hC (sW3 hW) (Nat.le_of_ble_eq_true rfl) (gW3 hW) rfl rfl hdv (Nat.zero_le _) (Nat.zero_le _) (Nat.le_of_ble_eq_true rfl) (fun o1 Y16 w15 ht hP => ?_)
        obtain ⟨r14, rfl⟩ : ∃ i, o1 = some (0, i) := ht
        obtain ⟨hX, hP⟩ := hP
        have hX := Eq.symm hX
        subst hX
        have F := F r14 w15 hP
        refine x_if_ne 48 dX4_readResults_43 rfl (fun hc => ?_) (fun hc => ?_)
        · have F := F.1 hc
          refine x_aload_n dX4_readResults_48 rfl ?_
          refine x_getr (r' := 4) flX4_12 dX4_readResults_49 (sW3 hW) (gW3 hW) (rW3_0 hW) rfl (Nat.le_of_ble_eq_true rfl) ?_
          refine x_getr (r' := 25) flX4_92 dX4_readResults_52 (sW4 hW) (gW4 hW) (rW4_5 hW) rfl (Nat.le_of_ble_eq_true rfl) ?_
          refine x_iload_n dX4_readResults_55 rfl ?_
          obtain ⟨P18, hC, F⟩ := F
          refine x_inv dX4_readResults_56 mlX4_96 hC (sW25 hW) (Nat.le_of_ble_eq_true rfl) (gW25 hW) rfl rfl (by omega) (Nat.zero_le _) (Nat.zero_le _) (Nat.le_of_ble_eq_true rfl) (fun o1 Y21 w20 ht hP => ?_)
          obtain rfl : o1 = none := ht
          obtain ⟨hX, hP⟩ := hP
          have hX := Eq.symm hX
          subst hX
          have F := F w20 hP
          refine x_aload_n dX4_readResults_59 rfl ?_
          refine x_bipush dX4_readResults_60 kb_44 (i32_of rfl) ?_
          obtain ⟨P22, hC, F⟩ := F
          refine x_inv dX4_readResults_62 mlX4_38 hC (sW3 hW) (Nat.le_of_ble_eq_true rfl) (gW3 hW) rfl rfl (by omega) (Nat.zero_le _) (Nat.zero_le _) (Nat.le_of_ble_eq_true rfl) (fun o1 Y25 w24 ht hP => ?_)
          obtain ⟨r23, rfl⟩ : ∃ i, o1 = some (0, i) := ht
          obtain ⟨hX, hP⟩ := hP
          have hX := Eq.symm hX
          subst hX
          have F := F r23 w24 hP
          refine x_if_ne 76 dX4_readResults_65 rfl (fun hc => ?_) (fun hc => ?_)
          · have F := F.1 hc
            obtain ⟨hz, F⟩ := F
            refine x_iinc [(2, 3), (0, (x1 + 1))] dX4_readResults_76 rfl rfl (Nat.le_of_ble_eq_true rfl) hz ?_
            refine x_goto 2 dX4_readResults_79 rfl ?_
            exact F
          · have F := F.2 hc
            refine x_aload_n dX4_readResults_68 rfl ?_
            refine x_sipush dX4_readResults_69 ks_264 (i32_of rfl) ?_
            obtain ⟨P26, hC, F⟩ := F
            refine x_inv dX4_readResults_72 mlX4_38 hC (sW3 hW) (Nat.le_of_ble_eq_true rfl) (gW3 hW) rfl rfl (by omega) (Nat.zero_le _) (Nat.zero_le _) (Nat.le_of_ble_eq_true rfl) (fun o1 Y29 w28 ht hP => ?_)
            obtain ⟨r27, rfl⟩ : ∃ i, o1 = some (0, i) := ht
            obtain ⟨hX, hP⟩ := hP
            have hX := Eq.symm hX
            subst hX
            have F := F r27 w28 hP
            exact x_ret (some (0, r27)) rfl ⟨dX4_readResults_75, Or.inr ⟨rfl, F.1⟩⟩ F.2
        · have F := F.2 hc
          refine x_iconst dX4_readResults_46 rfl (i32_of rfl) ?_
          exact x_ret (some (0, 0)) rfl ⟨dX4_readResults_47, Or.inr ⟨rfl, Or.inl rfl⟩⟩ F

set_option maxRecDepth 100000 in
set_option maxHeartbeats 4000000 in
theorem bX4_readBehind_0 {d mc ms : Nat} {X : XX} {v : VV} {Q : QQ} (hd : 2 ≤ d) (hW : SW X) (F : Ex mX4_readBehind d 2 [(2, 3), (0, 0)] [] X v mc ms Q) : Ex mX4_readBehind d 0 [(2, 3), (3, 0)] [] X v mc ms Q := by
  refine x_iconst dX4_readBehind_0 rfl (i32_of rfl) ?_
  refine x_istore_n [(2, 3), (0, 0)] dX4_readBehind_1 rfl (Nat.le_of_ble_eq_true rfl) ?_
  exact F

set_option maxRecDepth 100000 in
set_option maxHeartbeats 4000000 in
theorem bX4_readBehind_2 {d mc ms : Nat} {X : XX} {v : VV} {Q : QQ} (x1 : Int) (hd : 2 ≤ d) (hW : SW X) (F : i32 x1 → (((3 ≤ x1) → Q (some (0, 0)) X v) ∧ ((x1 < 3) → ∃ P1 : Option AV → VV → Prop, Con mX6_add 0 0 0 [(2, 21), (0, (v 3 1))] X v (fun o X1 v1 => X1 = X ∧ P1 o v1) ∧ ∀ (w3 : VV), P1 none w3 → ∃ P5 : Option AV → VV → Prop, Con mX4_takeName 1 0 0 [(2, 3)] X w3 (fun o X1 v1 => X1 = X ∧ P5 o v1) ∧ ∀ (r6 : Int) (w7 : VV), P5 (some (0, r6)) w7 → (((¬ r6 = 0) → ∃ P9 : Option AV → VV → Prop, Con mX4_take 1 0 0 [(2, 3), (0, 44)] X w7 (fun o X1 v1 => X1 = X ∧ P9 o v1) ∧ ∀ (r10 : Int) (w11 : VV), P9 (some (0, r10)) w11 → (((¬ r10 = 0) → i32 (x1 + 1) ∧ Ex mX4_readBehind d 2 [(2, 3), (0, (x1 + 1))] [] X w11 mc ms Q) ∧ ((r10 = 0) → Q (some (0, 1)) X w11))) ∧ ((r6 = 0) → Q (some (0, 0)) X w7))))) : Ex mX4_readBehind d 2 [(2, 3), (0, x1)] [] X v mc ms Q := by
  refine x_li32 (i := 1) rfl (fun hx1 => ?_)
  have F := F hx1
  refine x_iload_n dX4_readBehind_2 rfl ?_
  refine x_iconst dX4_readBehind_3 rfl (i32_of rfl) ?_
  refine x_icmp_ge 47 dX4_readBehind_4 rfl (fun hc => ?_) (fun hc => ?_)
  · have F := F.1 hc
    refine x_iconst dX4_readBehind_47 rfl (i32_of rfl) ?_
    exact x_ret (some (0, 0)) rfl ⟨dX4_readBehind_48, Or.inr ⟨rfl, Or.inl rfl⟩⟩ F
  · have F := F.2 hc
    refine x_aload_n dX4_readBehind_7 rfl ?_
    refine x_getr (r' := 4) flX4_12 dX4_readBehind_8 (sW3 hW) (gW3 hW) (rW3_0 hW) rfl (Nat.le_of_ble_eq_true rfl) ?_
    refine x_getr (r' := 21) flX4_101 dX4_readBehind_11 (sW4 hW) (gW4 hW) (rW4_3 hW) rfl (Nat.le_of_ble_eq_true rfl) ?_
    refine x_aload_n dX4_readBehind_14 rfl ?_
    refine x_geti (e := (v 3 1)) 0 flX4_18 dX4_readBehind_15 (sW3 hW) (gW3 hW) rfl rfl (Nat.le_of_ble_eq_true rfl) (tagn2 rfl) ?_
    obtain ⟨P1, hC, F⟩ := F
    refine x_inv dX4_readBehind_18 mlX4_82 hC (sW21 hW) (Nat.le_of_ble_eq_true rfl) (gW21 hW) rfl rfl (by omega) (Nat.zero_le _) (Nat.zero_le _) (Nat.le_of_ble_eq_true rfl) (fun o1 Y4 w3 ht hP => ?_)
    obtain rfl : o1 = none := ht
    obtain ⟨hX, hP⟩ := hP
    have hX := Eq.symm hX
    subst hX
    have F := F w3 hP
    refine x_aload_n dX4_readBehind_21 rfl ?_
    obtain ⟨P5, hC, F⟩ := F
    refine x_inv dX4_readBehind_22 mlX4_76 hC (sW3 hW) (Nat.le_of_ble_eq_true rfl) (gW3 hW) rfl rfl (by omega) (Nat.zero_le _) (Nat.zero_le _) (Nat.le_of_ble_eq_true rfl) (fun o1 Y8 w7 ht hP => ?_)
    obtain ⟨r6, rfl⟩ : ∃ i, o1 = some (0, i) := ht
    obtain ⟨hX, hP⟩ := hP
    have hX := Eq.symm hX
    subst hX
    have F := F r6 w7 hP
    refine x_if_ne 30 dX4_readBehind_25 rfl (fun hc => ?_) (fun hc => ?_)
    · have F := F.1 hc
      refine x_aload_n dX4_readBehind_30 rfl ?_
      refine x_bipush dX4_readBehind_31 kb_44 (i32_of rfl) ?_
      obtain ⟨P9, hC, F⟩ := F
      refine x_inv dX4_readBehind_33 mlX4_38 hC (sW3 hW) (Nat.le_of_ble_eq_true rfl) (gW3 hW) rfl rfl (by omega) (Nat.zero_le _) (Nat.zero_le _) (Nat.le_of_ble_eq_true rfl) (fun o1 Y12 w11 ht hP => ?_)
      obtain ⟨r10, rfl⟩ : ∃ i, o1 = some (0, i) := ht
      obtain ⟨hX, hP⟩ := hP
      have hX := Eq.symm hX
      subst hX
      have F := F r10 w11 hP
      refine x_if_ne 41 dX4_readBehind_36 rfl (fun hc => ?_) (fun hc => ?_)
      · have F := F.1 hc
        obtain ⟨hz, F⟩ := F
        refine x_iinc [(2, 3), (0, (x1 + 1))] dX4_readBehind_41 rfl rfl (Nat.le_of_ble_eq_true rfl) hz ?_
        refine x_goto 2 dX4_readBehind_44 rfl ?_
        exact F
      · have F := F.2 hc
        refine x_iconst dX4_readBehind_39 rfl (i32_of rfl) ?_
        exact x_ret (some (0, 1)) rfl ⟨dX4_readBehind_40, Or.inr ⟨rfl, Or.inr rfl⟩⟩ F
    · have F := F.2 hc
      refine x_iconst dX4_readBehind_28 rfl (i32_of rfl) ?_
      exact x_ret (some (0, 0)) rfl ⟨dX4_readBehind_29, Or.inr ⟨rfl, Or.inl rfl⟩⟩ F

set_option maxRecDepth 100000 in
set_option maxHeartbeats 4000000 in
theorem bX4_readWhere_0 {d mc ms : Nat} {X : XX} {v : VV} {Q : QQ} (hd : 11 ≤ d) (hW : SW X) (F : ∃ P1 : Option AV → VV → Prop, Con mX4_take 1 0 0 [(2, 3), (0, 265)] X v (fun o X1 v1 => X1 = X ∧ P1 o v1) ∧ ∀ (r2 : Int) (w3 : VV), P1 (some (0, r2)) w3 → (((¬ r2 = 0) → ∃ e9 : Nat, e9 + 1 ≤ d ∧ ∃ P5 : Option AV → VV → Prop, Con mX4_readFormula e9 0 0 [(2, 3), (0, 0)] X w3 (fun o X1 v1 => X1 = X ∧ P5 o v1) ∧ ∀ (r6 : Int) (w7 : VV), P5 (some (0, r6)) w7 → (((¬ r6 = 0) → ∃ P10 : Option AV → VV → Prop, Con mX6_get 0 0 0 [(2, 6), (0, (w7 3 1))] X w7 (fun o X1 v1 => X1 = X ∧ P10 o v1) ∧ ∀ (r11 : Int) (w12 : VV), P10 (some (0, r11)) w12 → ∃ P14 : Option AV → VV → Prop, Con mX6_get 0 0 0 [(2, 8), (0, (w12 3 1))] X w12 (fun o X1 v1 => X1 = X ∧ P14 o v1) ∧ ∀ (r15 : Int) (w16 : VV), P14 (some (0, r15)) w16 → ∃ P18 : Option AV → VV → Prop, Con mX4_take 1 0 0 [(2, 3), (0, 60)] X w16 (fun o X1 v1 => X1 = X ∧ P18 o v1) ∧ ∀ (r19 : Int) (w20 : VV), P18 (some (0, r19)) w20 → (((¬ r19 = 0) → Ex mX4_readWhere d 78 [(2, 3), (0, r11), (0, r15)] [] X w20 mc ms Q) ∧ ((r19 = 0) → ∃ P22 : Option AV → VV → Prop, Con mX4_take 1 0 0 [(2, 3), (0, 61)] X w20 (fun o X1 v1 => X1 = X ∧ P22 o v1) ∧ ∀ (r23 : Int) (w24 : VV), P22 (some (0, r23)) w24 → (((¬ r23 = 0) → Ex mX4_readWhere d 78 [(2, 3), (0, r11), (0, r15)] [] X w24 mc ms Q) ∧ ((r23 = 0) → Q (some (0, 0)) X w24))))) ∧ ((r6 = 0) → Q (some (0, 0)) X w7))) ∧ ((r2 = 0) → Q (some (0, 1)) X w3))) : Ex mX4_readWhere d 0 [(2, 3), (3, 0), (3, 0)] [] X v mc ms Q := by
  refine x_aload_n dX4_readWhere_0 rfl ?_
  refine x_sipush dX4_readWhere_1 ks_265 (i32_of rfl) ?_
  obtain ⟨P1, hC, F⟩ := F
  refine x_inv dX4_readWhere_4 mlX4_38 hC (sW3 hW) (Nat.le_of_ble_eq_true rfl) (gW3 hW) rfl rfl (by omega) (Nat.zero_le _) (Nat.zero_le _) (Nat.le_of_ble_eq_true rfl) (fun o1 Y4 w3 ht hP => ?_)
  obtain ⟨r2, rfl⟩ : ∃ i, o1 = some (0, i) := ht
  obtain ⟨hX, hP⟩ := hP
  have hX := Eq.symm hX
  subst hX
  have F := F r2 w3 hP
  refine x_if_ne 12 dX4_readWhere_7 rfl (fun hc => ?_) (fun hc => ?_)
  · have F := F.1 hc
    refine x_aload_n dX4_readWhere_12 rfl ?_
    refine x_iconst dX4_readWhere_13 rfl (i32_of rfl) ?_
    obtain ⟨e9, hdv, F⟩ := F
    obtain ⟨P5, hC, F⟩ := F
    refine x_inv dX4_readWhere_14 mlX4_89 hC (sW3 hW) (Nat.le_of_ble_eq_true rfl) (gW3 hW) rfl rfl hdv (Nat.zero_le _) (Nat.zero_le _) (Nat.le_of_ble_eq_true rfl) (fun o1 Y8 w7 ht hP => ?_)
    obtain ⟨r6, rfl⟩ : ∃ i, o1 = some (0, i) := ht
    obtain ⟨hX, hP⟩ := hP
    have hX := Eq.symm hX
    subst hX
    have F := F r6 w7 hP
    refine x_if_ne 22 dX4_readWhere_17 rfl (fun hc => ?_) (fun hc => ?_)
    · have F := F.1 hc
      refine x_aload_n dX4_readWhere_22 rfl ?_
      refine x_getr (r' := 4) flX4_12 dX4_readWhere_23 (sW3 hW) (gW3 hW) (rW3_0 hW) rfl (Nat.le_of_ble_eq_true rfl) ?_
      refine x_getr (r' := 5) flX4_51 dX4_readWhere_26 (sW4 hW) (gW4 hW) (rW4_0 hW) rfl (Nat.le_of_ble_eq_true rfl) ?_
      refine x_getr (r' := 6) flX4_55 dX4_readWhere_29 (sW5 hW) (gW5 hW) (rW5_0 hW) rfl (Nat.le_of_ble_eq_true rfl) ?_
      refine x_aload_n dX4_readWhere_32 rfl ?_
      refine x_geti (e := (w7 3 1)) 0 flX4_18 dX4_readWhere_33 (sW3 hW) (gW3 hW) rfl rfl (Nat.le_of_ble_eq_true rfl) (tagn2 rfl) ?_
      obtain ⟨P10, hC, F⟩ := F
      refine x_inv dX4_readWhere_36 mlX4_61 hC (sW6 hW) (Nat.le_of_ble_eq_true rfl) (gW6 hW) rfl rfl (by omega) (Nat.zero_le _) (Nat.zero_le _) (Nat.le_of_ble_eq_true rfl) (fun o1 Y13 w12 ht hP => ?_)
      obtain ⟨r11, rfl⟩ : ∃ i, o1 = some (0, i) := ht
      obtain ⟨hX, hP⟩ := hP
      have hX := Eq.symm hX
      subst hX
      have F := F r11 w12 hP
      refine x_istore_n [(2, 3), (0, r11), (3, 0)] dX4_readWhere_39 rfl (Nat.le_of_ble_eq_true rfl) ?_
      refine x_aload_n dX4_readWhere_40 rfl ?_
      refine x_getr (r' := 4) flX4_12 dX4_readWhere_41 (sW3 hW) (gW3 hW) (rW3_0 hW) rfl (Nat.le_of_ble_eq_true rfl) ?_
      refine x_getr (r' := 5) flX4_51 dX4_readWhere_44 (sW4 hW) (gW4 hW) (rW4_0 hW) rfl (Nat.le_of_ble_eq_true rfl) ?_
      refine x_getr (r' := 8) flX4_67 dX4_readWhere_47 (sW5 hW) (gW5 hW) (rW5_1 hW) rfl (Nat.le_of_ble_eq_true rfl) ?_
      refine x_aload_n dX4_readWhere_50 rfl ?_
      refine x_geti (e := (w12 3 1)) 0 flX4_18 dX4_readWhere_51 (sW3 hW) (gW3 hW) rfl rfl (Nat.le_of_ble_eq_true rfl) (tagn2 rfl) ?_
      obtain ⟨P14, hC, F⟩ := F
      refine x_inv dX4_readWhere_54 mlX4_61 hC (sW8 hW) (Nat.le_of_ble_eq_true rfl) (gW8 hW) rfl rfl (by omega) (Nat.zero_le _) (Nat.zero_le _) (Nat.le_of_ble_eq_true rfl) (fun o1 Y17 w16 ht hP => ?_)
      obtain ⟨r15, rfl⟩ : ∃ i, o1 = some (0, i) := ht
      obtain ⟨hX, hP⟩ := hP
      have hX := Eq.symm hX
      subst hX
      have F := F r15 w16 hP
      refine x_istore_n [(2, 3), (0, r11), (0, r15)] dX4_readWhere_57 rfl (Nat.le_of_ble_eq_true rfl) ?_
      refine x_aload_n dX4_readWhere_58 rfl ?_
      refine x_bipush dX4_readWhere_59 kb_60 (i32_of rfl) ?_
      obtain ⟨P18, hC, F⟩ := F
      refine x_inv dX4_readWhere_61 mlX4_38 hC (sW3 hW) (Nat.le_of_ble_eq_true rfl) (gW3 hW) rfl rfl (by omega) (Nat.zero_le _) (Nat.zero_le _) (Nat.le_of_ble_eq_true rfl) (fun o1 Y21 w20 ht hP => ?_)
      obtain ⟨r19, rfl⟩ : ∃ i, o1 = some (0, i) := ht
      obtain ⟨hX, hP⟩ := hP
      have hX := Eq.symm hX
      subst hX
      have F := F r19 w20 hP
      refine x_if_ne 78 dX4_readWhere_64 rfl (fun hc => ?_) (fun hc => ?_)
      · have F := F.1 hc
        exact F
      · have F := F.2 hc
        refine x_aload_n dX4_readWhere_67 rfl ?_
        refine x_bipush dX4_readWhere_68 kb_61 (i32_of rfl) ?_
        obtain ⟨P22, hC, F⟩ := F
        refine x_inv dX4_readWhere_70 mlX4_38 hC (sW3 hW) (Nat.le_of_ble_eq_true rfl) (gW3 hW) rfl rfl (by omega) (Nat.zero_le _) (Nat.zero_le _) (Nat.le_of_ble_eq_true rfl) (fun o1 Y25 w24 ht hP => ?_)
        obtain ⟨r23, rfl⟩ : ∃ i, o1 = some (0, i) := ht
        obtain ⟨hX, hP⟩ := hP
        have hX := Eq.symm hX
        subst hX
        have F := F r23 w24 hP
        refine x_if_ne 78 dX4_readWhere_73 rfl (fun hc => ?_) (fun hc => ?_)
        · have F := F.1 hc
          exact F
        · have F := F.2 hc
          refine x_iconst dX4_readWhere_76 rfl (i32_of rfl) ?_
          exact x_ret (some (0, 0)) rfl ⟨dX4_readWhere_77, Or.inr ⟨rfl, Or.inl rfl⟩⟩ F
    · have F := F.2 hc
      refine x_iconst dX4_readWhere_20 rfl (i32_of rfl) ?_
      exact x_ret (some (0, 0)) rfl ⟨dX4_readWhere_21, Or.inr ⟨rfl, Or.inl rfl⟩⟩ F
  · have F := F.2 hc
    refine x_iconst dX4_readWhere_10 rfl (i32_of rfl) ?_
    exact x_ret (some (0, 1)) rfl ⟨dX4_readWhere_11, Or.inr ⟨rfl, Or.inr rfl⟩⟩ F

set_option maxRecDepth 100000 in
set_option maxHeartbeats 4000000 in
theorem bX4_readWhere_78 {d mc ms : Nat} {X : XX} {v : VV} {Q : QQ} (x1 : Int) (x2 : Int) (hd : 11 ≤ d) (hW : SW X) (F : i32 x1 → i32 x2 → ∃ e30 : Nat, e30 + 1 ≤ d ∧ ∃ P26 : Option AV → VV → Prop, Con mX4_readFormula e30 0 0 [(2, 3), (0, 0)] X v (fun o X1 v1 => X1 = X ∧ P26 o v1) ∧ ∀ (r27 : Int) (w28 : VV), P26 (some (0, r27)) w28 → (((¬ r27 = 0) → ∃ P31 : Option AV → VV → Prop, Con mX5_add 1 0 0 [(2, 25), (0, x1), (0, x2)] X w28 (fun o X1 v1 => X1 = X ∧ P31 o v1) ∧ ∀ (w33 : VV), P31 none w33 → ∃ P35 : Option AV → VV → Prop, Con mX5_closePart 1 0 0 [(2, 25), (0, 6)] X w33 (fun o X1 v1 => X1 = X ∧ P35 o v1) ∧ ∀ (w37 : VV), P35 none w37 → Q (some (0, 1)) X w37) ∧ ((r27 = 0) → Q (some (0, 0)) X w28))) : Ex mX4_readWhere d 78 [(2, 3), (0, x1), (0, x2)] [] X v mc ms Q := by
  refine x_li32 (i := 1) rfl (fun hx1 => ?_)
  have F := F hx1
  refine x_li32 (i := 2) rfl (fun hx2 => ?_)
  have F := F hx2
  refine x_aload_n dX4_readWhere_78 rfl ?_
  refine x_iconst dX4_readWhere_79 rfl (i32_of rfl) ?_
  obtain ⟨e30, hdv, F⟩ := F
  obtain ⟨P26, hC, F⟩ := F
  refine x_inv dX4_readWhere_80 mlX4_89 hC (sW3 hW) (Nat.le_of_ble_eq_true rfl) (gW3 hW) rfl rfl hdv (Nat.zero_le _) (Nat.zero_le _) (Nat.le_of_ble_eq_true rfl) (fun o1 Y29 w28 ht hP => ?_)
  obtain ⟨r27, rfl⟩ : ∃ i, o1 = some (0, i) := ht
  obtain ⟨hX, hP⟩ := hP
  have hX := Eq.symm hX
  subst hX
  have F := F r27 w28 hP
  refine x_if_ne 88 dX4_readWhere_83 rfl (fun hc => ?_) (fun hc => ?_)
  · have F := F.1 hc
    refine x_aload_n dX4_readWhere_88 rfl ?_
    refine x_getr (r' := 4) flX4_12 dX4_readWhere_89 (sW3 hW) (gW3 hW) (rW3_0 hW) rfl (Nat.le_of_ble_eq_true rfl) ?_
    refine x_getr (r' := 25) flX4_92 dX4_readWhere_92 (sW4 hW) (gW4 hW) (rW4_5 hW) rfl (Nat.le_of_ble_eq_true rfl) ?_
    refine x_iload_n dX4_readWhere_95 rfl ?_
    refine x_iload_n dX4_readWhere_96 rfl ?_
    obtain ⟨P31, hC, F⟩ := F
    refine x_inv dX4_readWhere_97 mlX4_104 hC (sW25 hW) (Nat.le_of_ble_eq_true rfl) (gW25 hW) rfl rfl (by omega) (Nat.zero_le _) (Nat.zero_le _) (Nat.le_of_ble_eq_true rfl) (fun o1 Y34 w33 ht hP => ?_)
    obtain rfl : o1 = none := ht
    obtain ⟨hX, hP⟩ := hP
    have hX := Eq.symm hX
    subst hX
    have F := F w33 hP
    refine x_aload_n dX4_readWhere_100 rfl ?_
    refine x_getr (r' := 4) flX4_12 dX4_readWhere_101 (sW3 hW) (gW3 hW) (rW3_0 hW) rfl (Nat.le_of_ble_eq_true rfl) ?_
    refine x_getr (r' := 25) flX4_92 dX4_readWhere_104 (sW4 hW) (gW4 hW) (rW4_5 hW) rfl (Nat.le_of_ble_eq_true rfl) ?_
    refine x_bipush dX4_readWhere_107 kb_6 (i32_of rfl) ?_
    obtain ⟨P35, hC, F⟩ := F
    refine x_inv dX4_readWhere_109 mlX4_96 hC (sW25 hW) (Nat.le_of_ble_eq_true rfl) (gW25 hW) rfl rfl (by omega) (Nat.zero_le _) (Nat.zero_le _) (Nat.le_of_ble_eq_true rfl) (fun o1 Y38 w37 ht hP => ?_)
    obtain rfl : o1 = none := ht
    obtain ⟨hX, hP⟩ := hP
    have hX := Eq.symm hX
    subst hX
    have F := F w37 hP
    refine x_iconst dX4_readWhere_112 rfl (i32_of rfl) ?_
    exact x_ret (some (0, 1)) rfl ⟨dX4_readWhere_113, Or.inr ⟨rfl, Or.inr rfl⟩⟩ F
  · have F := F.2 hc
    refine x_iconst dX4_readWhere_86 rfl (i32_of rfl) ?_
    exact x_ret (some (0, 0)) rfl ⟨dX4_readWhere_87, Or.inr ⟨rfl, Or.inl rfl⟩⟩ F

set_option maxRecDepth 100000 in
set_option maxHeartbeats 4000000 in
theorem bX4_readFormula_0 {d mc ms : Nat} {X : XX} {v : VV} {Q : QQ} (a1 : Int) (hd : 2 ≤ d) (hW : SW X) (F : i32 a1 → ∃ e5 : Nat, e5 + 1 ≤ d ∧ ∃ P1 : Option AV → VV → Prop, Con mX4_readTerm e5 0 0 [(2, 3), (0, a1)] X v (fun o X1 v1 => X1 = X ∧ P1 o v1) ∧ ∀ (r2 : Int) (w3 : VV), P1 (some (0, r2)) w3 → (((¬ r2 = 0) → Ex mX4_readFormula d 12 [(2, 3), (0, a1), (0, 0), (3, 0), (3, 0)] [] X w3 mc ms Q) ∧ ((r2 = 0) → Q (some (0, 0)) X w3))) : Ex mX4_readFormula d 0 [(2, 3), (0, a1), (3, 0), (3, 0), (3, 0)] [] X v mc ms Q := by
  refine x_li32 (i := 1) rfl (fun ha1 => ?_)
  have F := F ha1
  refine x_aload_n dX4_readFormula_0 rfl ?_
  refine x_iload_n dX4_readFormula_1 rfl ?_
  obtain ⟨e5, hdv, F⟩ := F
  obtain ⟨P1, hC, F⟩ := F
  refine x_inv dX4_readFormula_2 mlX4_107 hC (sW3 hW) (Nat.le_of_ble_eq_true rfl) (gW3 hW) rfl rfl hdv (Nat.zero_le _) (Nat.zero_le _) (Nat.le_of_ble_eq_true rfl) (fun o1 Y4 w3 ht hP => ?_)
  obtain ⟨r2, rfl⟩ : ∃ i, o1 = some (0, i) := ht
  obtain ⟨hX, hP⟩ := hP
  have hX := Eq.symm hX
  subst hX
  have F := F r2 w3 hP
  refine x_if_ne 10 dX4_readFormula_5 rfl (fun hc => ?_) (fun hc => ?_)
  · have F := F.1 hc
    refine x_iconst dX4_readFormula_10 rfl (i32_of rfl) ?_
    refine x_istore_n [(2, 3), (0, a1), (0, 0), (3, 0), (3, 0)] dX4_readFormula_11 rfl (Nat.le_of_ble_eq_true rfl) ?_
    exact F
  · have F := F.2 hc
    refine x_iconst dX4_readFormula_8 rfl (i32_of rfl) ?_
    exact x_ret (some (0, 0)) rfl ⟨dX4_readFormula_9, Or.inr ⟨rfl, Or.inl rfl⟩⟩ F

set_option maxRecDepth 100000 in
set_option maxHeartbeats 4000000 in
theorem bX4_readFormula_12 {d mc ms : Nat} {X : XX} {v : VV} {Q : QQ} (a1 : Int) (x2 : Int) (hd : 2 ≤ d) (hW : SW X) (F : i32 a1 → i32 x2 → (((5 ≤ x2) → ∃ P6 : Option AV → VV → Prop, Con mX6_get 0 0 0 [(2, 6), (0, (v 3 1))] X v (fun o X1 v1 => X1 = X ∧ P6 o v1) ∧ ∀ (r7 : Int) (w8 : VV), P6 (some (0, r7)) w8 → ∃ P10 : Option AV → VV → Prop, Con mX4_isOperator 0 0 0 [(0, r7)] X w8 (fun o X1 v1 => X1 = X ∧ P10 o v1) ∧ ∀ (r11 : Int) (w12 : VV), P10 (some (0, r11)) w12 → (((¬ r11 = 0) → Q (some (0, 0)) X w12) ∧ ((r11 = 0) → Q (some (0, 1)) X w12))) ∧ ((x2 < 5) → ∃ P14 : Option AV → VV → Prop, Con mX6_get 0 0 0 [(2, 6), (0, (v 3 1))] X v (fun o X1 v1 => X1 = X ∧ P14 o v1) ∧ ∀ (r15 : Int) (w16 : VV), P14 (some (0, r15)) w16 → ∃ P18 : Option AV → VV → Prop, Con mX6_get 0 0 0 [(2, 8), (0, (w16 3 1))] X w16 (fun o X1 v1 => X1 = X ∧ P18 o v1) ∧ ∀ (r19 : Int) (w20 : VV), P18 (some (0, r19)) w20 → ∃ P22 : Option AV → VV → Prop, Con mX4_isOperator 0 0 0 [(0, r15)] X w20 (fun o X1 v1 => X1 = X ∧ P22 o v1) ∧ ∀ (r23 : Int) (w24 : VV), P22 (some (0, r23)) w24 → (((¬ r23 = 0) → (i32 (w24 3 1) → i32 ((w24 3 1) + 1)) ∧ ∃ e30 : Nat, e30 + 1 ≤ d ∧ ∃ P26 : Option AV → VV → Prop, Con mX4_readTerm e30 0 0 [(2, 3), (0, a1)] X (upd2 w24 3 1 ((w24 3 1) + 1)) (fun o X1 v1 => X1 = X ∧ P26 o v1) ∧ ∀ (r27 : Int) (w28 : VV), P26 (some (0, r27)) w28 → (((¬ r27 = 0) → ∃ P31 : Option AV → VV → Prop, Con mX5_add 1 0 0 [(2, 25), (0, r15), (0, r19)] X w28 (fun o X1 v1 => X1 = X ∧ P31 o v1) ∧ ∀ (w33 : VV), P31 none w33 → i32 (x2 + 1) ∧ Ex mX4_readFormula d 12 [(2, 3), (0, a1), (0, (x2 + 1)), (3, 0), (3, 0)] [] X w33 mc ms Q) ∧ ((r27 = 0) → Q (some (0, 0)) X w28))) ∧ ((r23 = 0) → Q (some (0, 1)) X w24))))) : Ex mX4_readFormula d 12 [(2, 3), (0, a1), (0, x2), (3, 0), (3, 0)] [] X v mc ms Q := by
  refine x_li32 (i := 1) rfl (fun ha1 => ?_)
  have F := F ha1
  refine x_li32 (i := 2) rfl (fun hx2 => ?_)
  have F := F hx2
  refine x_iload_n dX4_readFormula_12 rfl ?_
  refine x_iconst dX4_readFormula_13 rfl (i32_of rfl) ?_
  refine x_icmp_ge 102 dX4_readFormula_14 rfl (fun hc => ?_) (fun hc => ?_)
  · have F := F.1 hc
    refine x_aload_n dX4_readFormula_102 rfl ?_
    refine x_getr (r' := 4) flX4_12 dX4_readFormula_103 (sW3 hW) (gW3 hW) (rW3_0 hW) rfl (Nat.le_of_ble_eq_true rfl) ?_
    refine x_getr (r' := 5) flX4_51 dX4_readFormula_106 (sW4 hW) (gW4 hW) (rW4_0 hW) rfl (Nat.le_of_ble_eq_true rfl) ?_
    refine x_getr (r' := 6) flX4_55 dX4_readFormula_109 (sW5 hW) (gW5 hW) (rW5_0 hW) rfl (Nat.le_of_ble_eq_true rfl) ?_
    refine x_aload_n dX4_readFormula_112 rfl ?_
    refine x_geti (e := (v 3 1)) 0 flX4_18 dX4_readFormula_113 (sW3 hW) (gW3 hW) rfl rfl (Nat.le_of_ble_eq_true rfl) (tagn2 rfl) ?_
    obtain ⟨P6, hC, F⟩ := F
    refine x_inv dX4_readFormula_116 mlX4_61 hC (sW6 hW) (Nat.le_of_ble_eq_true rfl) (gW6 hW) rfl rfl (by omega) (Nat.zero_le _) (Nat.zero_le _) (Nat.le_of_ble_eq_true rfl) (fun o1 Y9 w8 ht hP => ?_)
    obtain ⟨r7, rfl⟩ : ∃ i, o1 = some (0, i) := ht
    obtain ⟨hX, hP⟩ := hP
    have hX := Eq.symm hX
    subst hX
    have F := F r7 w8 hP
    obtain ⟨P10, hC, F⟩ := F
    refine x_static dX4_readFormula_119 mlX4_110 hC rfl rfl (by omega) (Nat.zero_le _) (Nat.zero_le _) (Nat.le_of_ble_eq_true rfl) (fun o1 Y13 w12 ht hP => ?_)
    obtain ⟨r11, rfl⟩ : ∃ i, o1 = some (0, i) := ht
    obtain ⟨hX, hP⟩ := hP
    have hX := Eq.symm hX
    subst hX
    have F := F r11 w12 hP
    refine x_if_ne 129 dX4_readFormula_122 rfl (fun hc => ?_) (fun hc => ?_)
    · have F := F.1 hc
      refine x_iconst dX4_readFormula_129 rfl (i32_of rfl) ?_
      exact x_ret (some (0, 0)) rfl ⟨dX4_readFormula_130, Or.inr ⟨rfl, Or.inl rfl⟩⟩ F
    · have F := F.2 hc
      refine x_iconst dX4_readFormula_125 rfl (i32_of rfl) ?_
      refine x_goto 130 dX4_readFormula_126 rfl ?_
      exact x_ret (some (0, 1)) rfl ⟨dX4_readFormula_130, Or.inr ⟨rfl, Or.inr rfl⟩⟩ F
  · have F := F.2 hc
    refine x_aload_n dX4_readFormula_17 rfl ?_
    refine x_getr (r' := 4) flX4_12 dX4_readFormula_18 (sW3 hW) (gW3 hW) (rW3_0 hW) rfl (Nat.le_of_ble_eq_true rfl) ?_
    refine x_getr (r' := 5) flX4_51 dX4_readFormula_21 (sW4 hW) (gW4 hW) (rW4_0 hW) rfl (Nat.le_of_ble_eq_true rfl) ?_
    refine x_getr (r' := 6) flX4_55 dX4_readFormula_24 (sW5 hW) (gW5 hW) (rW5_0 hW) rfl (Nat.le_of_ble_eq_true rfl) ?_
    refine x_aload_n dX4_readFormula_27 rfl ?_
    refine x_geti (e := (v 3 1)) 0 flX4_18 dX4_readFormula_28 (sW3 hW) (gW3 hW) rfl rfl (Nat.le_of_ble_eq_true rfl) (tagn2 rfl) ?_
    obtain ⟨P14, hC, F⟩ := F
    refine x_inv dX4_readFormula_31 mlX4_61 hC (sW6 hW) (Nat.le_of_ble_eq_true rfl) (gW6 hW) rfl rfl (by omega) (Nat.zero_le _) (Nat.zero_le _) (Nat.le_of_ble_eq_true rfl) (fun o1 Y17 w16 ht hP => ?_)
    obtain ⟨r15, rfl⟩ : ∃ i, o1 = some (0, i) := ht
    obtain ⟨hX, hP⟩ := hP
    have hX := Eq.symm hX
    subst hX
    have F := F r15 w16 hP
    refine x_istore_n [(2, 3), (0, a1), (0, x2), (0, r15), (3, 0)] dX4_readFormula_34 rfl (Nat.le_of_ble_eq_true rfl) ?_
    refine x_aload_n dX4_readFormula_35 rfl ?_
    refine x_getr (r' := 4) flX4_12 dX4_readFormula_36 (sW3 hW) (gW3 hW) (rW3_0 hW) rfl (Nat.le_of_ble_eq_true rfl) ?_
    refine x_getr (r' := 5) flX4_51 dX4_readFormula_39 (sW4 hW) (gW4 hW) (rW4_0 hW) rfl (Nat.le_of_ble_eq_true rfl) ?_
    refine x_getr (r' := 8) flX4_67 dX4_readFormula_42 (sW5 hW) (gW5 hW) (rW5_1 hW) rfl (Nat.le_of_ble_eq_true rfl) ?_
    refine x_aload_n dX4_readFormula_45 rfl ?_
    refine x_geti (e := (w16 3 1)) 0 flX4_18 dX4_readFormula_46 (sW3 hW) (gW3 hW) rfl rfl (Nat.le_of_ble_eq_true rfl) (tagn2 rfl) ?_
    obtain ⟨P18, hC, F⟩ := F
    refine x_inv dX4_readFormula_49 mlX4_61 hC (sW8 hW) (Nat.le_of_ble_eq_true rfl) (gW8 hW) rfl rfl (by omega) (Nat.zero_le _) (Nat.zero_le _) (Nat.le_of_ble_eq_true rfl) (fun o1 Y21 w20 ht hP => ?_)
    obtain ⟨r19, rfl⟩ : ∃ i, o1 = some (0, i) := ht
    obtain ⟨hX, hP⟩ := hP
    have hX := Eq.symm hX
    subst hX
    have F := F r19 w20 hP
    refine x_istore [(2, 3), (0, a1), (0, x2), (0, r15), (0, r19)] dX4_readFormula_52 rfl (Nat.le_of_ble_eq_true rfl) ?_
    refine x_iload_n dX4_readFormula_54 rfl ?_
    obtain ⟨P22, hC, F⟩ := F
    refine x_static dX4_readFormula_55 mlX4_110 hC rfl rfl (by omega) (Nat.zero_le _) (Nat.zero_le _) (Nat.le_of_ble_eq_true rfl) (fun o1 Y25 w24 ht hP => ?_)
    obtain ⟨r23, rfl⟩ : ∃ i, o1 = some (0, i) := ht
    obtain ⟨hX, hP⟩ := hP
    have hX := Eq.symm hX
    subst hX
    have F := F r23 w24 hP
    refine x_if_ne 63 dX4_readFormula_58 rfl (fun hc => ?_) (fun hc => ?_)
    · have F := F.1 hc
      refine x_aload_n dX4_readFormula_63 rfl ?_
      refine x_dup dX4_readFormula_64 (tag1 rfl) ?_
      refine x_geti (e := (w24 3 1)) 0 flX4_18 dX4_readFormula_65 (sW3 hW) (gW3 hW) rfl rfl (Nat.le_of_ble_eq_true rfl) (tagn2 rfl) ?_
      refine x_iconst dX4_readFormula_68 rfl (i32_of rfl) ?_
      refine x_si32 (i := 1) rfl (fun hk1 => ?_)
      obtain ⟨hz, F⟩ := F
      have hz := hz hk1
      refine x_iadd dX4_readFormula_69 hz ?_
      refine x_puti 0 fwX4_18 dX4_readFormula_70 (sW3 hW) (gW3 hW) (fun h => Bool.noConfusion h) (Nat.le_of_ble_eq_true rfl) rfl (Or.inl ⟨rfl, Or.inl rfl⟩) ?_
      refine x_aload_n dX4_readFormula_73 rfl ?_
      refine x_iload_n dX4_readFormula_74 rfl ?_
      obtain ⟨e30, hdv, F⟩ := F
      obtain ⟨P26, hC, F⟩ := F
      refine x_inv dX4_readFormula_75 mlX4_107 hC (sW3 hW) (Nat.le_of_ble_eq_true rfl) (gW3 hW) rfl rfl hdv (Nat.zero_le _) (Nat.zero_le _) (Nat.le_of_ble_eq_true rfl) (fun o1 Y29 w28 ht hP => ?_)
      obtain ⟨r27, rfl⟩ : ∃ i, o1 = some (0, i) := ht
      obtain ⟨hX, hP⟩ := hP
      have hX := Eq.symm hX
      subst hX
      have F := F r27 w28 hP
      refine x_if_ne 83 dX4_readFormula_78 rfl (fun hc => ?_) (fun hc => ?_)
      · have F := F.1 hc
        refine x_aload_n dX4_readFormula_83 rfl ?_
        refine x_getr (r' := 4) flX4_12 dX4_readFormula_84 (sW3 hW) (gW3 hW) (rW3_0 hW) rfl (Nat.le_of_ble_eq_true rfl) ?_
        refine x_getr (r' := 25) flX4_92 dX4_readFormula_87 (sW4 hW) (gW4 hW) (rW4_5 hW) rfl (Nat.le_of_ble_eq_true rfl) ?_
        refine x_iload_n dX4_readFormula_90 rfl ?_
        refine x_iload dX4_readFormula_91 rfl ?_
        obtain ⟨P31, hC, F⟩ := F
        refine x_inv dX4_readFormula_93 mlX4_104 hC (sW25 hW) (Nat.le_of_ble_eq_true rfl) (gW25 hW) rfl rfl (by omega) (Nat.zero_le _) (Nat.zero_le _) (Nat.le_of_ble_eq_true rfl) (fun o1 Y34 w33 ht hP => ?_)
        obtain rfl : o1 = none := ht
        obtain ⟨hX, hP⟩ := hP
        have hX := Eq.symm hX
        subst hX
        have F := F w33 hP
        obtain ⟨hz, F⟩ := F
        refine x_iinc [(2, 3), (0, a1), (0, (x2 + 1)), (0, r15), (0, r19)] dX4_readFormula_96 rfl rfl (Nat.le_of_ble_eq_true rfl) hz ?_
        refine x_goto 12 dX4_readFormula_99 rfl ?_
        exact x_less [(2, 3), (0, a1), (0, (x2 + 1)), (3, 0), (3, 0)] ⟨Or.inr rfl, ⟨Or.inr rfl, ⟨Or.inr rfl, ⟨Or.inl rfl, ⟨Or.inl rfl, trivial⟩⟩⟩⟩⟩ F
      · have F := F.2 hc
        refine x_iconst dX4_readFormula_81 rfl (i32_of rfl) ?_
        exact x_ret (some (0, 0)) rfl ⟨dX4_readFormula_82, Or.inr ⟨rfl, Or.inl rfl⟩⟩ F
    · have F := F.2 hc
      refine x_iconst dX4_readFormula_61 rfl (i32_of rfl) ?_
      exact x_ret (some (0, 1)) rfl ⟨dX4_readFormula_62, Or.inr ⟨rfl, Or.inr rfl⟩⟩ F

set_option maxRecDepth 100000 in
set_option maxHeartbeats 4000000 in
theorem bX4_readTerm_0 {d mc ms : Nat} {X : XX} {v : VV} {Q : QQ} (a1 : Int) (hd : 2 ≤ d) (hW : SW X) (F : i32 a1 → ∃ P1 : Option AV → VV → Prop, Con mX6_get 0 0 0 [(2, 6), (0, (v 3 1))] X v (fun o X1 v1 => X1 = X ∧ P1 o v1) ∧ ∀ (r2 : Int) (w3 : VV), P1 (some (0, r2)) w3 → ∃ P5 : Option AV → VV → Prop, Con mX6_get 0 0 0 [(2, 8), (0, (w3 3 1))] X w3 (fun o X1 v1 => X1 = X ∧ P5 o v1) ∧ ∀ (r6 : Int) (w7 : VV), P5 (some (0, r6)) w7 → (((¬ r2 = 256) → (((r2 = 257) → Ex mX4_readTerm d 112 [(2, 3), (0, a1), (0, r2), (0, r6)] [] X w7 mc ms Q) ∧ ((¬ r2 = 257) → (((r2 = 258) → Ex mX4_readTerm d 112 [(2, 3), (0, a1), (0, r2), (0, r6)] [] X w7 mc ms Q) ∧ ((¬ r2 = 258) → (((¬ r2 = 259) → (((r2 = 266) → Ex mX4_readTerm d 146 [(2, 3), (0, a1), (0, r2), (0, r6)] [] X w7 mc ms Q) ∧ ((¬ r2 = 266) → (((r2 = 267) → Ex mX4_readTerm d 146 [(2, 3), (0, a1), (0, r2), (0, r6)] [] X w7 mc ms Q) ∧ ((¬ r2 = 267) → Q (some (0, 0)) X w7))))) ∧ ((r2 = 259) → Ex mX4_readTerm d 112 [(2, 3), (0, a1), (0, r2), (0, r6)] [] X w7 mc ms Q))))))) ∧ ((r2 = 256) → (i32 (w7 3 1) → i32 (2000 + (w7 3 1))) ∧ ∃ P9 : Option AV → VV → Prop, Con mX5_add 1 0 0 [(2, 25), (0, (2000 + (w7 3 1))), (0, r6)] X w7 (fun o X1 v1 => X1 = X ∧ P9 o v1) ∧ ∀ (w11 : VV), P9 none w11 → ∃ P13 : Option AV → VV → Prop, Con mX4_takeName 1 0 0 [(2, 3)] X w11 (fun o X1 v1 => X1 = X ∧ P13 o v1) ∧ ∀ (r14 : Int) (w15 : VV), P13 (some (0, r14)) w15 → (((r14 = 0) → Q (some (0, 0)) X w15) ∧ ((¬ r14 = 0) → ∃ P17 : Option AV → VV → Prop, Con mX4_take 1 0 0 [(2, 3), (0, 46)] X w15 (fun o X1 v1 => X1 = X ∧ P17 o v1) ∧ ∀ (r18 : Int) (w19 : VV), P17 (some (0, r18)) w19 → (((r18 = 0) → Q (some (0, 0)) X w19) ∧ ((¬ r18 = 0) → ∃ P21 : Option AV → VV → Prop, Con mX4_takeName 1 0 0 [(2, 3)] X w19 (fun o X1 v1 => X1 = X ∧ P21 o v1) ∧ ∀ (r22 : Int) (w23 : VV), P21 (some (0, r22)) w23 → (((r22 = 0) → Q (some (0, 0)) X w23) ∧ ((¬ r22 = 0) → Q (some (0, 1)) X w23))))))))) : Ex mX4_readTerm d 0 [(2, 3), (0, a1), (3, 0), (3, 0)] [] X v mc ms Q := by
  refine x_li32 (i := 1) rfl (fun ha1 => ?_)
  have F := F ha1
  refine x_aload_n dX4_readTerm_0 rfl ?_
  refine x_getr (r' := 4) flX4_12 dX4_readTerm_1 (sW3 hW) (gW3 hW) (rW3_0 hW) rfl (Nat.le_of_ble_eq_true rfl) ?_
  refine x_getr (r' := 5) flX4_51 dX4_readTerm_4 (sW4 hW) (gW4 hW) (rW4_0 hW) rfl (Nat.le_of_ble_eq_true rfl) ?_
  refine x_getr (r' := 6) flX4_55 dX4_readTerm_7 (sW5 hW) (gW5 hW) (rW5_0 hW) rfl (Nat.le_of_ble_eq_true rfl) ?_
  refine x_aload_n dX4_readTerm_10 rfl ?_
  refine x_geti (e := (v 3 1)) 0 flX4_18 dX4_readTerm_11 (sW3 hW) (gW3 hW) rfl rfl (Nat.le_of_ble_eq_true rfl) (tagn2 rfl) ?_
  obtain ⟨P1, hC, F⟩ := F
  refine x_inv dX4_readTerm_14 mlX4_61 hC (sW6 hW) (Nat.le_of_ble_eq_true rfl) (gW6 hW) rfl rfl (by omega) (Nat.zero_le _) (Nat.zero_le _) (Nat.le_of_ble_eq_true rfl) (fun o1 Y4 w3 ht hP => ?_)
  obtain ⟨r2, rfl⟩ : ∃ i, o1 = some (0, i) := ht
  obtain ⟨hX, hP⟩ := hP
  have hX := Eq.symm hX
  subst hX
  have F := F r2 w3 hP
  refine x_istore_n [(2, 3), (0, a1), (0, r2), (3, 0)] dX4_readTerm_17 rfl (Nat.le_of_ble_eq_true rfl) ?_
  refine x_aload_n dX4_readTerm_18 rfl ?_
  refine x_getr (r' := 4) flX4_12 dX4_readTerm_19 (sW3 hW) (gW3 hW) (rW3_0 hW) rfl (Nat.le_of_ble_eq_true rfl) ?_
  refine x_getr (r' := 5) flX4_51 dX4_readTerm_22 (sW4 hW) (gW4 hW) (rW4_0 hW) rfl (Nat.le_of_ble_eq_true rfl) ?_
  refine x_getr (r' := 8) flX4_67 dX4_readTerm_25 (sW5 hW) (gW5 hW) (rW5_1 hW) rfl (Nat.le_of_ble_eq_true rfl) ?_
  refine x_aload_n dX4_readTerm_28 rfl ?_
  refine x_geti (e := (w3 3 1)) 0 flX4_18 dX4_readTerm_29 (sW3 hW) (gW3 hW) rfl rfl (Nat.le_of_ble_eq_true rfl) (tagn2 rfl) ?_
  obtain ⟨P5, hC, F⟩ := F
  refine x_inv dX4_readTerm_32 mlX4_61 hC (sW8 hW) (Nat.le_of_ble_eq_true rfl) (gW8 hW) rfl rfl (by omega) (Nat.zero_le _) (Nat.zero_le _) (Nat.le_of_ble_eq_true rfl) (fun o1 Y8 w7 ht hP => ?_)
  obtain ⟨r6, rfl⟩ : ∃ i, o1 = some (0, i) := ht
  obtain ⟨hX, hP⟩ := hP
  have hX := Eq.symm hX
  subst hX
  have F := F r6 w7 hP
  refine x_istore_n [(2, 3), (0, a1), (0, r2), (0, r6)] dX4_readTerm_35 rfl (Nat.le_of_ble_eq_true rfl) ?_
  refine x_iload_n dX4_readTerm_36 rfl ?_
  refine x_sipush dX4_readTerm_37 ks_256 (i32_of rfl) ?_
  refine x_icmp_ne 91 dX4_readTerm_40 rfl (fun hc => ?_) (fun hc => ?_)
  · have F := F.1 hc
    refine x_iload_n dX4_readTerm_91 rfl ?_
    refine x_sipush dX4_readTerm_92 ks_257 (i32_of rfl) ?_
    refine x_icmp_eq 112 dX4_readTerm_95 rfl (fun hc => ?_) (fun hc => ?_)
    · have F := F.1 hc
      exact F
    · have F := F.2 hc
      refine x_iload_n dX4_readTerm_98 rfl ?_
      refine x_sipush dX4_readTerm_99 ks_258 (i32_of rfl) ?_
      refine x_icmp_eq 112 dX4_readTerm_102 rfl (fun hc => ?_) (fun hc => ?_)
      · have F := F.1 hc
        exact F
      · have F := F.2 hc
        refine x_iload_n dX4_readTerm_105 rfl ?_
        refine x_sipush dX4_readTerm_106 ks_259 (i32_of rfl) ?_
        refine x_icmp_ne 130 dX4_readTerm_109 rfl (fun hc => ?_) (fun hc => ?_)
        · have F := F.1 hc
          refine x_iload_n dX4_readTerm_130 rfl ?_
          refine x_sipush dX4_readTerm_131 ks_266 (i32_of rfl) ?_
          refine x_icmp_eq 146 dX4_readTerm_134 rfl (fun hc => ?_) (fun hc => ?_)
          · have F := F.1 hc
            exact F
          · have F := F.2 hc
            refine x_iload_n dX4_readTerm_137 rfl ?_
            refine x_sipush dX4_readTerm_138 ks_267 (i32_of rfl) ?_
            refine x_icmp_eq 146 dX4_readTerm_141 rfl (fun hc => ?_) (fun hc => ?_)
            · have F := F.1 hc
              exact F
            · have F := F.2 hc
              refine x_iconst dX4_readTerm_144 rfl (i32_of rfl) ?_
              exact x_ret (some (0, 0)) rfl ⟨dX4_readTerm_145, Or.inr ⟨rfl, Or.inl rfl⟩⟩ F
        · have F := F.2 hc
          exact F
  · have F := F.2 hc
    refine x_aload_n dX4_readTerm_43 rfl ?_
    refine x_getr (r' := 4) flX4_12 dX4_readTerm_44 (sW3 hW) (gW3 hW) (rW3_0 hW) rfl (Nat.le_of_ble_eq_true rfl) ?_
    refine x_getr (r' := 25) flX4_92 dX4_readTerm_47 (sW4 hW) (gW4 hW) (rW4_5 hW) rfl (Nat.le_of_ble_eq_true rfl) ?_
    refine x_sipush dX4_readTerm_50 ks_2000 (i32_of rfl) ?_
    refine x_aload_n dX4_readTerm_53 rfl ?_
    refine x_geti (e := (w7 3 1)) 0 flX4_18 dX4_readTerm_54 (sW3 hW) (gW3 hW) rfl rfl (Nat.le_of_ble_eq_true rfl) (tagn2 rfl) ?_
    refine x_si32 (i := 0) rfl (fun hk0 => ?_)
    obtain ⟨hz, F⟩ := F
    have hz := hz hk0
    refine x_iadd dX4_readTerm_57 hz ?_
    refine x_iload_n dX4_readTerm_58 rfl ?_
    obtain ⟨P9, hC, F⟩ := F
    refine x_inv dX4_readTerm_59 mlX4_104 hC (sW25 hW) (Nat.le_of_ble_eq_true rfl) (gW25 hW) rfl rfl (by omega) (Nat.zero_le _) (Nat.zero_le _) (Nat.le_of_ble_eq_true rfl) (fun o1 Y12 w11 ht hP => ?_)
    obtain rfl : o1 = none := ht
    obtain ⟨hX, hP⟩ := hP
    have hX := Eq.symm hX
    subst hX
    have F := F w11 hP
    refine x_aload_n dX4_readTerm_62 rfl ?_
    obtain ⟨P13, hC, F⟩ := F
    refine x_inv dX4_readTerm_63 mlX4_76 hC (sW3 hW) (Nat.le_of_ble_eq_true rfl) (gW3 hW) rfl rfl (by omega) (Nat.zero_le _) (Nat.zero_le _) (Nat.le_of_ble_eq_true rfl) (fun o1 Y16 w15 ht hP => ?_)
    obtain ⟨r14, rfl⟩ : ∃ i, o1 = some (0, i) := ht
    obtain ⟨hX, hP⟩ := hP
    have hX := Eq.symm hX
    subst hX
    have F := F r14 w15 hP
    refine x_if_eq 89 dX4_readTerm_66 rfl (fun hc => ?_) (fun hc => ?_)
    · have F := F.1 hc
      refine x_iconst dX4_readTerm_89 rfl (i32_of rfl) ?_
      exact x_ret (some (0, 0)) rfl ⟨dX4_readTerm_90, Or.inr ⟨rfl, Or.inl rfl⟩⟩ F
    · have F := F.2 hc
      refine x_aload_n dX4_readTerm_69 rfl ?_
      refine x_bipush dX4_readTerm_70 kb_46 (i32_of rfl) ?_
      obtain ⟨P17, hC, F⟩ := F
      refine x_inv dX4_readTerm_72 mlX4_38 hC (sW3 hW) (Nat.le_of_ble_eq_true rfl) (gW3 hW) rfl rfl (by omega) (Nat.zero_le _) (Nat.zero_le _) (Nat.le_of_ble_eq_true rfl) (fun o1 Y20 w19 ht hP => ?_)
      obtain ⟨r18, rfl⟩ : ∃ i, o1 = some (0, i) := ht
      obtain ⟨hX, hP⟩ := hP
      have hX := Eq.symm hX
      subst hX
      have F := F r18 w19 hP
      refine x_if_eq 89 dX4_readTerm_75 rfl (fun hc => ?_) (fun hc => ?_)
      · have F := F.1 hc
        refine x_iconst dX4_readTerm_89 rfl (i32_of rfl) ?_
        exact x_ret (some (0, 0)) rfl ⟨dX4_readTerm_90, Or.inr ⟨rfl, Or.inl rfl⟩⟩ F
      · have F := F.2 hc
        refine x_aload_n dX4_readTerm_78 rfl ?_
        obtain ⟨P21, hC, F⟩ := F
        refine x_inv dX4_readTerm_79 mlX4_76 hC (sW3 hW) (Nat.le_of_ble_eq_true rfl) (gW3 hW) rfl rfl (by omega) (Nat.zero_le _) (Nat.zero_le _) (Nat.le_of_ble_eq_true rfl) (fun o1 Y24 w23 ht hP => ?_)
        obtain ⟨r22, rfl⟩ : ∃ i, o1 = some (0, i) := ht
        obtain ⟨hX, hP⟩ := hP
        have hX := Eq.symm hX
        subst hX
        have F := F r22 w23 hP
        refine x_if_eq 89 dX4_readTerm_82 rfl (fun hc => ?_) (fun hc => ?_)
        · have F := F.1 hc
          refine x_iconst dX4_readTerm_89 rfl (i32_of rfl) ?_
          exact x_ret (some (0, 0)) rfl ⟨dX4_readTerm_90, Or.inr ⟨rfl, Or.inl rfl⟩⟩ F
        · have F := F.2 hc
          refine x_iconst dX4_readTerm_85 rfl (i32_of rfl) ?_
          refine x_goto 90 dX4_readTerm_86 rfl ?_
          exact x_ret (some (0, 1)) rfl ⟨dX4_readTerm_90, Or.inr ⟨rfl, Or.inr rfl⟩⟩ F

set_option maxRecDepth 100000 in
set_option maxHeartbeats 4000000 in
theorem bX4_readTerm_112 {d mc ms : Nat} {X : XX} {v : VV} {Q : QQ} (a1 : Int) (x2 : Int) (x3 : Int) (hd : 2 ≤ d) (hW : SW X) (F : i32 a1 → i32 x2 → i32 x3 → ∃ P25 : Option AV → VV → Prop, Con mX5_add 1 0 0 [(2, 25), (0, x2), (0, x3)] X v (fun o X1 v1 => X1 = X ∧ P25 o v1) ∧ ∀ (w27 : VV), P25 none w27 → ∃ P29 : Option AV → VV → Prop, Con mX4_takeConstant 1 0 0 [(2, 3), (0, x2)] X w27 (fun o X1 v1 => X1 = X ∧ P29 o v1) ∧ ∀ (r30 : Int) (w31 : VV), P29 (some (0, r30)) w31 → (r30 = 0 ∨ r30 = 1) ∧ Q (some (0, r30)) X w31) : Ex mX4_readTerm d 112 [(2, 3), (0, a1), (0, x2), (0, x3)] [] X v mc ms Q := by
  refine x_li32 (i := 1) rfl (fun ha1 => ?_)
  have F := F ha1
  refine x_li32 (i := 2) rfl (fun hx2 => ?_)
  have F := F hx2
  refine x_li32 (i := 3) rfl (fun hx3 => ?_)
  have F := F hx3
  refine x_aload_n dX4_readTerm_112 rfl ?_
  refine x_getr (r' := 4) flX4_12 dX4_readTerm_113 (sW3 hW) (gW3 hW) (rW3_0 hW) rfl (Nat.le_of_ble_eq_true rfl) ?_
  refine x_getr (r' := 25) flX4_92 dX4_readTerm_116 (sW4 hW) (gW4 hW) (rW4_5 hW) rfl (Nat.le_of_ble_eq_true rfl) ?_
  refine x_iload_n dX4_readTerm_119 rfl ?_
  refine x_iload_n dX4_readTerm_120 rfl ?_
  obtain ⟨P25, hC, F⟩ := F
  refine x_inv dX4_readTerm_121 mlX4_104 hC (sW25 hW) (Nat.le_of_ble_eq_true rfl) (gW25 hW) rfl rfl (by omega) (Nat.zero_le _) (Nat.zero_le _) (Nat.le_of_ble_eq_true rfl) (fun o1 Y28 w27 ht hP => ?_)
  obtain rfl : o1 = none := ht
  obtain ⟨hX, hP⟩ := hP
  have hX := Eq.symm hX
  subst hX
  have F := F w27 hP
  refine x_aload_n dX4_readTerm_124 rfl ?_
  refine x_iload_n dX4_readTerm_125 rfl ?_
  obtain ⟨P29, hC, F⟩ := F
  refine x_inv dX4_readTerm_126 mlX4_113 hC (sW3 hW) (Nat.le_of_ble_eq_true rfl) (gW3 hW) rfl rfl (by omega) (Nat.zero_le _) (Nat.zero_le _) (Nat.le_of_ble_eq_true rfl) (fun o1 Y32 w31 ht hP => ?_)
  obtain ⟨r30, rfl⟩ : ∃ i, o1 = some (0, i) := ht
  obtain ⟨hX, hP⟩ := hP
  have hX := Eq.symm hX
  subst hX
  have F := F r30 w31 hP
  exact x_ret (some (0, r30)) rfl ⟨dX4_readTerm_129, Or.inr ⟨rfl, F.1⟩⟩ F.2

set_option maxRecDepth 100000 in
set_option maxHeartbeats 4000000 in
theorem bX4_readTerm_146 {d mc ms : Nat} {X : XX} {v : VV} {Q : QQ} (a1 : Int) (x2 : Int) (x3 : Int) (hd : 2 ≤ d) (hW : SW X) (F : i32 a1 → i32 x2 → i32 x3 → (i32 (v 3 1) → i32 ((v 3 1) + 1)) ∧ (((3 ≤ a1) → Q (some (0, 0)) X (upd2 v 3 1 ((v 3 1) + 1))) ∧ ((a1 < 3) → ∃ P33 : Option AV → VV → Prop, Con mX4_take 1 0 0 [(2, 3), (0, 40)] X (upd2 v 3 1 ((v 3 1) + 1)) (fun o X1 v1 => X1 = X ∧ P33 o v1) ∧ ∀ (r34 : Int) (w35 : VV), P33 (some (0, r34)) w35 → (((r34 = 0) → Q (some (0, 0)) X w35) ∧ ((¬ r34 = 0) → i32 (a1 + 1) ∧ ∃ e41 : Nat, e41 + 1 ≤ d ∧ ∃ P37 : Option AV → VV → Prop, Con mX4_readFormula e41 0 0 [(2, 3), (0, (a1 + 1))] X w35 (fun o X1 v1 => X1 = X ∧ P37 o v1) ∧ ∀ (r38 : Int) (w39 : VV), P37 (some (0, r38)) w39 → (((¬ r38 = 0) → ∃ P42 : Option AV → VV → Prop, Con mX5_add 1 0 0 [(2, 25), (0, x2), (0, x3)] X w39 (fun o X1 v1 => X1 = X ∧ P42 o v1) ∧ ∀ (w44 : VV), P42 none w44 → ∃ P46 : Option AV → VV → Prop, Con mX4_take 1 0 0 [(2, 3), (0, 41)] X w44 (fun o X1 v1 => X1 = X ∧ P46 o v1) ∧ ∀ (r47 : Int) (w48 : VV), P46 (some (0, r47)) w48 → (r47 = 0 ∨ r47 = 1) ∧ Q (some (0, r47)) X w48) ∧ ((r38 = 0) → Q (some (0, 0)) X w39))))))) : Ex mX4_readTerm d 146 [(2, 3), (0, a1), (0, x2), (0, x3)] [] X v mc ms Q := by
  refine x_li32 (i := 1) rfl (fun ha1 => ?_)
  have F := F ha1
  refine x_li32 (i := 2) rfl (fun hx2 => ?_)
  have F := F hx2
  refine x_li32 (i := 3) rfl (fun hx3 => ?_)
  have F := F hx3
  refine x_aload_n dX4_readTerm_146 rfl ?_
  refine x_dup dX4_readTerm_147 (tag1 rfl) ?_
  refine x_geti (e := (v 3 1)) 0 flX4_18 dX4_readTerm_148 (sW3 hW) (gW3 hW) rfl rfl (Nat.le_of_ble_eq_true rfl) (tagn2 rfl) ?_
  refine x_iconst dX4_readTerm_151 rfl (i32_of rfl) ?_
  refine x_si32 (i := 1) rfl (fun hk1 => ?_)
  obtain ⟨hz, F⟩ := F
  have hz := hz hk1
  refine x_iadd dX4_readTerm_152 hz ?_
  refine x_puti 0 fwX4_18 dX4_readTerm_153 (sW3 hW) (gW3 hW) (fun h => Bool.noConfusion h) (Nat.le_of_ble_eq_true rfl) rfl (Or.inl ⟨rfl, Or.inl rfl⟩) ?_
  refine x_iload_n dX4_readTerm_156 rfl ?_
  refine x_iconst dX4_readTerm_157 rfl (i32_of rfl) ?_
  refine x_icmp_ge 180 dX4_readTerm_158 rfl (fun hc => ?_) (fun hc => ?_)
  · have F := F.1 hc
    refine x_iconst dX4_readTerm_180 rfl (i32_of rfl) ?_
    exact x_ret (some (0, 0)) rfl ⟨dX4_readTerm_181, Or.inr ⟨rfl, Or.inl rfl⟩⟩ F
  · have F := F.2 hc
    refine x_aload_n dX4_readTerm_161 rfl ?_
    refine x_bipush dX4_readTerm_162 kb_40 (i32_of rfl) ?_
    obtain ⟨P33, hC, F⟩ := F
    refine x_inv dX4_readTerm_164 mlX4_38 hC (sW3 hW) (Nat.le_of_ble_eq_true rfl) (gW3 hW) rfl rfl (by omega) (Nat.zero_le _) (Nat.zero_le _) (Nat.le_of_ble_eq_true rfl) (fun o1 Y36 w35 ht hP => ?_)
    obtain ⟨r34, rfl⟩ : ∃ i, o1 = some (0, i) := ht
    obtain ⟨hX, hP⟩ := hP
    have hX := Eq.symm hX
    subst hX
    have F := F r34 w35 hP
    refine x_if_eq 180 dX4_readTerm_167 rfl (fun hc => ?_) (fun hc => ?_)
    · have F := F.1 hc
      refine x_iconst dX4_readTerm_180 rfl (i32_of rfl) ?_
      exact x_ret (some (0, 0)) rfl ⟨dX4_readTerm_181, Or.inr ⟨rfl, Or.inl rfl⟩⟩ F
    · have F := F.2 hc
      refine x_aload_n dX4_readTerm_170 rfl ?_
      refine x_iload_n dX4_readTerm_171 rfl ?_
      refine x_iconst dX4_readTerm_172 rfl (i32_of rfl) ?_
      obtain ⟨hz, F⟩ := F
      refine x_iadd dX4_readTerm_173 hz ?_
      obtain ⟨e41, hdv, F⟩ := F
      obtain ⟨P37, hC, F⟩ := F
      refine x_inv dX4_readTerm_174 mlX4_89 hC (sW3 hW) (Nat.le_of_ble_eq_true rfl) (gW3 hW) rfl rfl hdv (Nat.zero_le _) (Nat.zero_le _) (Nat.le_of_ble_eq_true rfl) (fun o1 Y40 w39 ht hP => ?_)
      obtain ⟨r38, rfl⟩ : ∃ i, o1 = some (0, i) := ht
      obtain ⟨hX, hP⟩ := hP
      have hX := Eq.symm hX
      subst hX
      have F := F r38 w39 hP
      refine x_if_ne 182 dX4_readTerm_177 rfl (fun hc => ?_) (fun hc => ?_)
      · have F := F.1 hc
        refine x_aload_n dX4_readTerm_182 rfl ?_
        refine x_getr (r' := 4) flX4_12 dX4_readTerm_183 (sW3 hW) (gW3 hW) (rW3_0 hW) rfl (Nat.le_of_ble_eq_true rfl) ?_
        refine x_getr (r' := 25) flX4_92 dX4_readTerm_186 (sW4 hW) (gW4 hW) (rW4_5 hW) rfl (Nat.le_of_ble_eq_true rfl) ?_
        refine x_iload_n dX4_readTerm_189 rfl ?_
        refine x_iload_n dX4_readTerm_190 rfl ?_
        obtain ⟨P42, hC, F⟩ := F
        refine x_inv dX4_readTerm_191 mlX4_104 hC (sW25 hW) (Nat.le_of_ble_eq_true rfl) (gW25 hW) rfl rfl (by omega) (Nat.zero_le _) (Nat.zero_le _) (Nat.le_of_ble_eq_true rfl) (fun o1 Y45 w44 ht hP => ?_)
        obtain rfl : o1 = none := ht
        obtain ⟨hX, hP⟩ := hP
        have hX := Eq.symm hX
        subst hX
        have F := F w44 hP
        refine x_aload_n dX4_readTerm_194 rfl ?_
        refine x_bipush dX4_readTerm_195 kb_41 (i32_of rfl) ?_
        obtain ⟨P46, hC, F⟩ := F
        refine x_inv dX4_readTerm_197 mlX4_38 hC (sW3 hW) (Nat.le_of_ble_eq_true rfl) (gW3 hW) rfl rfl (by omega) (Nat.zero_le _) (Nat.zero_le _) (Nat.le_of_ble_eq_true rfl) (fun o1 Y49 w48 ht hP => ?_)
        obtain ⟨r47, rfl⟩ : ∃ i, o1 = some (0, i) := ht
        obtain ⟨hX, hP⟩ := hP
        have hX := Eq.symm hX
        subst hX
        have F := F r47 w48 hP
        exact x_ret (some (0, r47)) rfl ⟨dX4_readTerm_200, Or.inr ⟨rfl, F.1⟩⟩ F.2
      · have F := F.2 hc
        refine x_iconst dX4_readTerm_180 rfl (i32_of rfl) ?_
        exact x_ret (some (0, 0)) rfl ⟨dX4_readTerm_181, Or.inr ⟨rfl, Or.inl rfl⟩⟩ F

set_option maxRecDepth 100000 in
set_option maxHeartbeats 4000000 in
theorem bX4_isOperator_0 {d mc ms : Nat} {X : XX} {v : VV} {Q : QQ} (a1 : Int) (hd : 0 ≤ d) (hW : SW X) (F : i32 a1 → (((a1 = 43) → Q (some (0, 1)) X v) ∧ ((¬ a1 = 43) → (((a1 = 45) → Q (some (0, 1)) X v) ∧ ((¬ a1 = 45) → (((¬ a1 = 38) → Q (some (0, 0)) X v) ∧ ((a1 = 38) → Q (some (0, 1)) X v))))))) : Ex mX4_isOperator d 0 [(0, a1)] [] X v mc ms Q := by
  refine x_li32 (i := 0) rfl (fun ha1 => ?_)
  have F := F ha1
  refine x_iload_n dX4_isOperator_0 rfl ?_
  refine x_bipush dX4_isOperator_1 kb_43 (i32_of rfl) ?_
  refine x_icmp_eq 18 dX4_isOperator_3 rfl (fun hc => ?_) (fun hc => ?_)
  · have F := F.1 hc
    refine x_iconst dX4_isOperator_18 rfl (i32_of rfl) ?_
    refine x_goto 23 dX4_isOperator_19 rfl ?_
    exact x_ret (some (0, 1)) rfl ⟨dX4_isOperator_23, Or.inr ⟨rfl, Or.inr rfl⟩⟩ F
  · have F := F.2 hc
    refine x_iload_n dX4_isOperator_6 rfl ?_
    refine x_bipush dX4_isOperator_7 kb_45 (i32_of rfl) ?_
    refine x_icmp_eq 18 dX4_isOperator_9 rfl (fun hc => ?_) (fun hc => ?_)
    · have F := F.1 hc
      refine x_iconst dX4_isOperator_18 rfl (i32_of rfl) ?_
      refine x_goto 23 dX4_isOperator_19 rfl ?_
      exact x_ret (some (0, 1)) rfl ⟨dX4_isOperator_23, Or.inr ⟨rfl, Or.inr rfl⟩⟩ F
    · have F := F.2 hc
      refine x_iload_n dX4_isOperator_12 rfl ?_
      refine x_bipush dX4_isOperator_13 kb_38 (i32_of rfl) ?_
      refine x_icmp_ne 22 dX4_isOperator_15 rfl (fun hc => ?_) (fun hc => ?_)
      · have F := F.1 hc
        refine x_iconst dX4_isOperator_22 rfl (i32_of rfl) ?_
        exact x_ret (some (0, 0)) rfl ⟨dX4_isOperator_23, Or.inr ⟨rfl, Or.inl rfl⟩⟩ F
      · have F := F.2 hc
        refine x_iconst dX4_isOperator_18 rfl (i32_of rfl) ?_
        refine x_goto 23 dX4_isOperator_19 rfl ?_
        exact x_ret (some (0, 1)) rfl ⟨dX4_isOperator_23, Or.inr ⟨rfl, Or.inr rfl⟩⟩ F

set_option maxRecDepth 100000 in
set_option maxHeartbeats 4000000 in
theorem bX4_take_0 {d mc ms : Nat} {X : XX} {v : VV} {Q : QQ} (a1 : Int) (hd : 1 ≤ d) (hW : SW X) (F : i32 a1 → ∃ P1 : Option AV → VV → Prop, Con mX6_get 0 0 0 [(2, 6), (0, (v 3 1))] X v (fun o X1 v1 => X1 = X ∧ P1 o v1) ∧ ∀ (r2 : Int) (w3 : VV), P1 (some (0, r2)) w3 → (((r2 = a1) → (i32 (w3 3 1) → i32 ((w3 3 1) + 1)) ∧ Q (some (0, 1)) X (upd2 w3 3 1 ((w3 3 1) + 1))) ∧ ((¬ r2 = a1) → Q (some (0, 0)) X w3))) : Ex mX4_take d 0 [(2, 3), (0, a1)] [] X v mc ms Q := by
  refine x_li32 (i := 1) rfl (fun ha1 => ?_)
  have F := F ha1
  refine x_aload_n dX4_take_0 rfl ?_
  refine x_getr (r' := 4) flX4_12 dX4_take_1 (sW3 hW) (gW3 hW) (rW3_0 hW) rfl (Nat.le_of_ble_eq_true rfl) ?_
  refine x_getr (r' := 5) flX4_51 dX4_take_4 (sW4 hW) (gW4 hW) (rW4_0 hW) rfl (Nat.le_of_ble_eq_true rfl) ?_
  refine x_getr (r' := 6) flX4_55 dX4_take_7 (sW5 hW) (gW5 hW) (rW5_0 hW) rfl (Nat.le_of_ble_eq_true rfl) ?_
  refine x_aload_n dX4_take_10 rfl ?_
  refine x_geti (e := (v 3 1)) 0 flX4_18 dX4_take_11 (sW3 hW) (gW3 hW) rfl rfl (Nat.le_of_ble_eq_true rfl) (tagn2 rfl) ?_
  obtain ⟨P1, hC, F⟩ := F
  refine x_inv dX4_take_14 mlX4_61 hC (sW6 hW) (Nat.le_of_ble_eq_true rfl) (gW6 hW) rfl rfl (by omega) (Nat.zero_le _) (Nat.zero_le _) (Nat.le_of_ble_eq_true rfl) (fun o1 Y4 w3 ht hP => ?_)
  obtain ⟨r2, rfl⟩ : ∃ i, o1 = some (0, i) := ht
  obtain ⟨hX, hP⟩ := hP
  have hX := Eq.symm hX
  subst hX
  have F := F r2 w3 hP
  refine x_iload_n dX4_take_17 rfl ?_
  refine x_icmp_eq 23 dX4_take_18 rfl (fun hc => ?_) (fun hc => ?_)
  · have F := F.1 hc
    refine x_aload_n dX4_take_23 rfl ?_
    refine x_dup dX4_take_24 (tag1 rfl) ?_
    refine x_geti (e := (w3 3 1)) 0 flX4_18 dX4_take_25 (sW3 hW) (gW3 hW) rfl rfl (Nat.le_of_ble_eq_true rfl) (tagn2 rfl) ?_
    refine x_iconst dX4_take_28 rfl (i32_of rfl) ?_
    refine x_si32 (i := 1) rfl (fun hk1 => ?_)
    obtain ⟨hz, F⟩ := F
    have hz := hz hk1
    refine x_iadd dX4_take_29 hz ?_
    refine x_puti 0 fwX4_18 dX4_take_30 (sW3 hW) (gW3 hW) (fun h => Bool.noConfusion h) (Nat.le_of_ble_eq_true rfl) rfl (Or.inl ⟨rfl, Or.inl rfl⟩) ?_
    refine x_iconst dX4_take_33 rfl (i32_of rfl) ?_
    exact x_ret (some (0, 1)) rfl ⟨dX4_take_34, Or.inr ⟨rfl, Or.inr rfl⟩⟩ F
  · have F := F.2 hc
    refine x_iconst dX4_take_21 rfl (i32_of rfl) ?_
    exact x_ret (some (0, 0)) rfl ⟨dX4_take_22, Or.inr ⟨rfl, Or.inl rfl⟩⟩ F

set_option maxRecDepth 100000 in
set_option maxHeartbeats 4000000 in
theorem bX4_takeName_0 {d mc ms : Nat} {X : XX} {v : VV} {Q : QQ} (hd : 1 ≤ d) (hW : SW X) (F : ∃ P1 : Option AV → VV → Prop, Con mX6_get 0 0 0 [(2, 6), (0, (v 3 1))] X v (fun o X1 v1 => X1 = X ∧ P1 o v1) ∧ ∀ (r2 : Int) (w3 : VV), P1 (some (0, r2)) w3 → (((r2 = 256) → ∃ P5 : Option AV → VV → Prop, Con mX6_get 0 0 0 [(2, 10), (0, (w3 3 1))] X w3 (fun o X1 v1 => X1 = X ∧ P5 o v1) ∧ ∀ (r6 : Int) (w7 : VV), P5 (some (0, r6)) w7 → (((r6 ≤ 8) → (i32 (w7 3 1) → i32 ((w7 3 1) + 1)) ∧ Q (some (0, 1)) X (upd2 w7 3 1 ((w7 3 1) + 1))) ∧ ((8 < r6) → Q (some (0, 0)) X (upd2 w7 3 2 8)))) ∧ ((¬ r2 = 256) → Q (some (0, 0)) X w3))) : Ex mX4_takeName d 0 [(2, 3)] [] X v mc ms Q := by
  refine x_aload_n dX4_takeName_0 rfl ?_
  refine x_getr (r' := 4) flX4_12 dX4_takeName_1 (sW3 hW) (gW3 hW) (rW3_0 hW) rfl (Nat.le_of_ble_eq_true rfl) ?_
  refine x_getr (r' := 5) flX4_51 dX4_takeName_4 (sW4 hW) (gW4 hW) (rW4_0 hW) rfl (Nat.le_of_ble_eq_true rfl) ?_
  refine x_getr (r' := 6) flX4_55 dX4_takeName_7 (sW5 hW) (gW5 hW) (rW5_0 hW) rfl (Nat.le_of_ble_eq_true rfl) ?_
  refine x_aload_n dX4_takeName_10 rfl ?_
  refine x_geti (e := (v 3 1)) 0 flX4_18 dX4_takeName_11 (sW3 hW) (gW3 hW) rfl rfl (Nat.le_of_ble_eq_true rfl) (tagn2 rfl) ?_
  obtain ⟨P1, hC, F⟩ := F
  refine x_inv dX4_takeName_14 mlX4_61 hC (sW6 hW) (Nat.le_of_ble_eq_true rfl) (gW6 hW) rfl rfl (by omega) (Nat.zero_le _) (Nat.zero_le _) (Nat.le_of_ble_eq_true rfl) (fun o1 Y4 w3 ht hP => ?_)
  obtain ⟨r2, rfl⟩ : ∃ i, o1 = some (0, i) := ht
  obtain ⟨hX, hP⟩ := hP
  have hX := Eq.symm hX
  subst hX
  have F := F r2 w3 hP
  refine x_sipush dX4_takeName_17 ks_256 (i32_of rfl) ?_
  refine x_icmp_eq 25 dX4_takeName_20 rfl (fun hc => ?_) (fun hc => ?_)
  · have F := F.1 hc
    refine x_aload_n dX4_takeName_25 rfl ?_
    refine x_getr (r' := 4) flX4_12 dX4_takeName_26 (sW3 hW) (gW3 hW) (rW3_0 hW) rfl (Nat.le_of_ble_eq_true rfl) ?_
    refine x_getr (r' := 5) flX4_51 dX4_takeName_29 (sW4 hW) (gW4 hW) (rW4_0 hW) rfl (Nat.le_of_ble_eq_true rfl) ?_
    refine x_getr (r' := 10) flX4_116 dX4_takeName_32 (sW5 hW) (gW5 hW) (rW5_2 hW) rfl (Nat.le_of_ble_eq_true rfl) ?_
    refine x_aload_n dX4_takeName_35 rfl ?_
    refine x_geti (e := (w3 3 1)) 0 flX4_18 dX4_takeName_36 (sW3 hW) (gW3 hW) rfl rfl (Nat.le_of_ble_eq_true rfl) (tagn2 rfl) ?_
    obtain ⟨P5, hC, F⟩ := F
    refine x_inv dX4_takeName_39 mlX4_61 hC (sW10 hW) (Nat.le_of_ble_eq_true rfl) (gW10 hW) rfl rfl (by omega) (Nat.zero_le _) (Nat.zero_le _) (Nat.le_of_ble_eq_true rfl) (fun o1 Y8 w7 ht hP => ?_)
    obtain ⟨r6, rfl⟩ : ∃ i, o1 = some (0, i) := ht
    obtain ⟨hX, hP⟩ := hP
    have hX := Eq.symm hX
    subst hX
    have F := F r6 w7 hP
    refine x_bipush dX4_takeName_42 kb_8 (i32_of rfl) ?_
    refine x_icmp_le 55 dX4_takeName_44 rfl (fun hc => ?_) (fun hc => ?_)
    · have F := F.1 hc
      refine x_aload_n dX4_takeName_55 rfl ?_
      refine x_dup dX4_takeName_56 (tag1 rfl) ?_
      refine x_geti (e := (w7 3 1)) 0 flX4_18 dX4_takeName_57 (sW3 hW) (gW3 hW) rfl rfl (Nat.le_of_ble_eq_true rfl) (tagn2 rfl) ?_
      refine x_iconst dX4_takeName_60 rfl (i32_of rfl) ?_
      refine x_si32 (i := 1) rfl (fun hk1 => ?_)
      obtain ⟨hz, F⟩ := F
      have hz := hz hk1
      refine x_iadd dX4_takeName_61 hz ?_
      refine x_puti 0 fwX4_18 dX4_takeName_62 (sW3 hW) (gW3 hW) (fun h => Bool.noConfusion h) (Nat.le_of_ble_eq_true rfl) rfl (Or.inl ⟨rfl, Or.inl rfl⟩) ?_
      refine x_iconst dX4_takeName_65 rfl (i32_of rfl) ?_
      exact x_ret (some (0, 1)) rfl ⟨dX4_takeName_66, Or.inr ⟨rfl, Or.inr rfl⟩⟩ F
    · have F := F.2 hc
      refine x_aload_n dX4_takeName_47 rfl ?_
      refine x_bipush dX4_takeName_48 kb_8 (i32_of rfl) ?_
      refine x_puti 0 fwX4_22 dX4_takeName_50 (sW3 hW) (gW3 hW) (fun h => Bool.noConfusion h) (Nat.le_of_ble_eq_true rfl) rfl (Or.inl ⟨rfl, Or.inl rfl⟩) ?_
      refine x_iconst dX4_takeName_53 rfl (i32_of rfl) ?_
      exact x_ret (some (0, 0)) rfl ⟨dX4_takeName_54, Or.inr ⟨rfl, Or.inl rfl⟩⟩ F
  · have F := F.2 hc
    refine x_iconst dX4_takeName_23 rfl (i32_of rfl) ?_
    exact x_ret (some (0, 0)) rfl ⟨dX4_takeName_24, Or.inr ⟨rfl, Or.inl rfl⟩⟩ F

set_option maxRecDepth 100000 in
set_option maxHeartbeats 4000000 in
theorem bX4_takeType_0 {d mc ms : Nat} {X : XX} {v : VV} {Q : QQ} (hd : 1 ≤ d) (hW : SW X) (F : ∃ P1 : Option AV → VV → Prop, Con mX6_get 0 0 0 [(2, 6), (0, (v 3 1))] X v (fun o X1 v1 => X1 = X ∧ P1 o v1) ∧ ∀ (r2 : Int) (w3 : VV), P1 (some (0, r2)) w3 → (((¬ r2 = 256) → Q (some (0, 0)) X w3) ∧ ((r2 = 256) → ∃ P5 : Option AV → VV → Prop, Con mX6_get 0 0 0 [(2, 10), (0, (w3 3 1))] X w3 (fun o X1 v1 => X1 = X ∧ P5 o v1) ∧ ∀ (r6 : Int) (w7 : VV), P5 (some (0, r6)) w7 → (((r6 = 1) → ∃ P9 : Option AV → VV → Prop, Con mX8_nameOf 0 0 0 [(2, 5), (0, (w7 3 1))] X w7 (fun o X1 v1 => X1 = X ∧ P9 o v1) ∧ ∀ (r10 : Int) (w11 : VV), P9 (some (1, r10)) w11 → i32 r10 ∧ (i32 r10 → i32 (r10 - 1)) ∧ (i32 (r10 - 1) → i32 ((r10 - 1) + 97)) ∧ ∃ P13 : Option AV → VV → Prop, Con mX10_isType 0 0 0 [(0, ((r10 - 1) + 97))] X w11 (fun o X1 v1 => X1 = X ∧ P13 o v1) ∧ ∀ (r14 : Int) (w15 : VV), P13 (some (0, r14)) w15 → (((¬ r14 = 0) → ∃ P17 : Option AV → VV → Prop, Con mX6_add 0 0 0 [(2, 19), (0, ((r10 - 1) + 97))] X w15 (fun o X1 v1 => X1 = X ∧ P17 o v1) ∧ ∀ (w19 : VV), P17 none w19 → (i32 (w19 3 1) → i32 ((w19 3 1) + 1)) ∧ Q (some (0, 1)) X (upd2 w19 3 1 ((w19 3 1) + 1))) ∧ ((r14 = 0) → Q (some (0, 0)) X w15))) ∧ ((¬ r6 = 1) → Q (some (0, 0)) X w7))))) : Ex mX4_takeType d 0 [(2, 3), (3, 0)] [] X v mc ms Q := by
  refine x_aload_n dX4_takeType_0 rfl ?_
  refine x_getr (r' := 4) flX4_12 dX4_takeType_1 (sW3 hW) (gW3 hW) (rW3_0 hW) rfl (Nat.le_of_ble_eq_true rfl) ?_
  refine x_getr (r' := 5) flX4_51 dX4_takeType_4 (sW4 hW) (gW4 hW) (rW4_0 hW) rfl (Nat.le_of_ble_eq_true rfl) ?_
  refine x_getr (r' := 6) flX4_55 dX4_takeType_7 (sW5 hW) (gW5 hW) (rW5_0 hW) rfl (Nat.le_of_ble_eq_true rfl) ?_
  refine x_aload_n dX4_takeType_10 rfl ?_
  refine x_geti (e := (v 3 1)) 0 flX4_18 dX4_takeType_11 (sW3 hW) (gW3 hW) rfl rfl (Nat.le_of_ble_eq_true rfl) (tagn2 rfl) ?_
  obtain ⟨P1, hC, F⟩ := F
  refine x_inv dX4_takeType_14 mlX4_61 hC (sW6 hW) (Nat.le_of_ble_eq_true rfl) (gW6 hW) rfl rfl (by omega) (Nat.zero_le _) (Nat.zero_le _) (Nat.le_of_ble_eq_true rfl) (fun o1 Y4 w3 ht hP => ?_)
  obtain ⟨r2, rfl⟩ : ∃ i, o1 = some (0, i) := ht
  obtain ⟨hX, hP⟩ := hP
  have hX := Eq.symm hX
  subst hX
  have F := F r2 w3 hP
  refine x_sipush dX4_takeType_17 ks_256 (i32_of rfl) ?_
  refine x_icmp_ne 44 dX4_takeType_20 rfl (fun hc => ?_) (fun hc => ?_)
  · have F := F.1 hc
    refine x_iconst dX4_takeType_44 rfl (i32_of rfl) ?_
    exact x_ret (some (0, 0)) rfl ⟨dX4_takeType_45, Or.inr ⟨rfl, Or.inl rfl⟩⟩ F
  · have F := F.2 hc
    refine x_aload_n dX4_takeType_23 rfl ?_
    refine x_getr (r' := 4) flX4_12 dX4_takeType_24 (sW3 hW) (gW3 hW) (rW3_0 hW) rfl (Nat.le_of_ble_eq_true rfl) ?_
    refine x_getr (r' := 5) flX4_51 dX4_takeType_27 (sW4 hW) (gW4 hW) (rW4_0 hW) rfl (Nat.le_of_ble_eq_true rfl) ?_
    refine x_getr (r' := 10) flX4_116 dX4_takeType_30 (sW5 hW) (gW5 hW) (rW5_2 hW) rfl (Nat.le_of_ble_eq_true rfl) ?_
    refine x_aload_n dX4_takeType_33 rfl ?_
    refine x_geti (e := (w3 3 1)) 0 flX4_18 dX4_takeType_34 (sW3 hW) (gW3 hW) rfl rfl (Nat.le_of_ble_eq_true rfl) (tagn2 rfl) ?_
    obtain ⟨P5, hC, F⟩ := F
    refine x_inv dX4_takeType_37 mlX4_61 hC (sW10 hW) (Nat.le_of_ble_eq_true rfl) (gW10 hW) rfl rfl (by omega) (Nat.zero_le _) (Nat.zero_le _) (Nat.le_of_ble_eq_true rfl) (fun o1 Y8 w7 ht hP => ?_)
    obtain ⟨r6, rfl⟩ : ∃ i, o1 = some (0, i) := ht
    obtain ⟨hX, hP⟩ := hP
    have hX := Eq.symm hX
    subst hX
    have F := F r6 w7 hP
    refine x_iconst dX4_takeType_40 rfl (i32_of rfl) ?_
    refine x_icmp_eq 46 dX4_takeType_41 rfl (fun hc => ?_) (fun hc => ?_)
    · have F := F.1 hc
      refine x_aload_n dX4_takeType_46 rfl ?_
      refine x_getr (r' := 4) flX4_12 dX4_takeType_47 (sW3 hW) (gW3 hW) (rW3_0 hW) rfl (Nat.le_of_ble_eq_true rfl) ?_
      refine x_getr (r' := 5) flX4_51 dX4_takeType_50 (sW4 hW) (gW4 hW) (rW4_0 hW) rfl (Nat.le_of_ble_eq_true rfl) ?_
      refine x_aload_n dX4_takeType_53 rfl ?_
      refine x_geti (e := (w7 3 1)) 0 flX4_18 dX4_takeType_54 (sW3 hW) (gW3 hW) rfl rfl (Nat.le_of_ble_eq_true rfl) (tagn2 rfl) ?_
      obtain ⟨P9, hC, F⟩ := F
      refine x_inv dX4_takeType_57 mlX4_119 hC (sW5 hW) (Nat.le_of_ble_eq_true rfl) (gW5 hW) rfl rfl (by omega) (Nat.zero_le _) (Nat.zero_le _) (Nat.le_of_ble_eq_true rfl) (fun o1 Y12 w11 ht hP => ?_)
      obtain ⟨r10, rfl⟩ : ∃ i, o1 = some (1, i) := ht
      obtain ⟨hX, hP⟩ := hP
      have hX := Eq.symm hX
      subst hX
      have F := F r10 w11 hP
      obtain ⟨hz, F⟩ := F
      refine x_l2i dX4_takeType_60 hz ?_
      refine x_iconst dX4_takeType_61 rfl (i32_of rfl) ?_
      refine x_si32 (i := 1) rfl (fun hk1 => ?_)
      obtain ⟨hz, F⟩ := F
      have hz := hz hk1
      refine x_isub dX4_takeType_62 hz ?_
      refine x_bipush dX4_takeType_63 kb_97 (i32_of rfl) ?_
      refine x_si32 (i := 1) rfl (fun hk1 => ?_)
      obtain ⟨hz, F⟩ := F
      have hz := hz hk1
      refine x_iadd dX4_takeType_65 hz ?_
      refine x_istore_n [(2, 3), (0, ((r10 - 1) + 97))] dX4_takeType_66 rfl (Nat.le_of_ble_eq_true rfl) ?_
      refine x_iload_n dX4_takeType_67 rfl ?_
      obtain ⟨P13, hC, F⟩ := F
      refine x_static dX4_takeType_68 mlX4_123 hC rfl rfl (by omega) (Nat.zero_le _) (Nat.zero_le _) (Nat.le_of_ble_eq_true rfl) (fun o1 Y16 w15 ht hP => ?_)
      obtain ⟨r14, rfl⟩ : ∃ i, o1 = some (0, i) := ht
      obtain ⟨hX, hP⟩ := hP
      have hX := Eq.symm hX
      subst hX
      have F := F r14 w15 hP
      refine x_if_ne 76 dX4_takeType_71 rfl (fun hc => ?_) (fun hc => ?_)
      · have F := F.1 hc
        refine x_aload_n dX4_takeType_76 rfl ?_
        refine x_getr (r' := 4) flX4_12 dX4_takeType_77 (sW3 hW) (gW3 hW) (rW3_0 hW) rfl (Nat.le_of_ble_eq_true rfl) ?_
        refine x_getr (r' := 19) flX4_126 dX4_takeType_80 (sW4 hW) (gW4 hW) (rW4_2 hW) rfl (Nat.le_of_ble_eq_true rfl) ?_
        refine x_iload_n dX4_takeType_83 rfl ?_
        obtain ⟨P17, hC, F⟩ := F
        refine x_inv dX4_takeType_84 mlX4_82 hC (sW19 hW) (Nat.le_of_ble_eq_true rfl) (gW19 hW) rfl rfl (by omega) (Nat.zero_le _) (Nat.zero_le _) (Nat.le_of_ble_eq_true rfl) (fun o1 Y20 w19 ht hP => ?_)
        obtain rfl : o1 = none := ht
        obtain ⟨hX, hP⟩ := hP
        have hX := Eq.symm hX
        subst hX
        have F := F w19 hP
        refine x_aload_n dX4_takeType_87 rfl ?_
        refine x_dup dX4_takeType_88 (tag1 rfl) ?_
        refine x_geti (e := (w19 3 1)) 0 flX4_18 dX4_takeType_89 (sW3 hW) (gW3 hW) rfl rfl (Nat.le_of_ble_eq_true rfl) (tagn2 rfl) ?_
        refine x_iconst dX4_takeType_92 rfl (i32_of rfl) ?_
        refine x_si32 (i := 1) rfl (fun hk1 => ?_)
        obtain ⟨hz, F⟩ := F
        have hz := hz hk1
        refine x_iadd dX4_takeType_93 hz ?_
        refine x_puti 0 fwX4_18 dX4_takeType_94 (sW3 hW) (gW3 hW) (fun h => Bool.noConfusion h) (Nat.le_of_ble_eq_true rfl) rfl (Or.inl ⟨rfl, Or.inl rfl⟩) ?_
        refine x_iconst dX4_takeType_97 rfl (i32_of rfl) ?_
        exact x_ret (some (0, 1)) rfl ⟨dX4_takeType_98, Or.inr ⟨rfl, Or.inr rfl⟩⟩ F
      · have F := F.2 hc
        refine x_iconst dX4_takeType_74 rfl (i32_of rfl) ?_
        exact x_ret (some (0, 0)) rfl ⟨dX4_takeType_75, Or.inr ⟨rfl, Or.inl rfl⟩⟩ F
    · have F := F.2 hc
      refine x_iconst dX4_takeType_44 rfl (i32_of rfl) ?_
      exact x_ret (some (0, 0)) rfl ⟨dX4_takeType_45, Or.inr ⟨rfl, Or.inl rfl⟩⟩ F

set_option maxRecDepth 100000 in
set_option maxHeartbeats 4000000 in
theorem bX4_takeConstant_0 {d mc ms : Nat} {X : XX} {v : VV} {Q : QQ} (a1 : Int) (hd : 1 ≤ d) (hW : SW X) (F : i32 a1 → ∃ P1 : Option AV → VV → Prop, Con mX6_get 0 0 0 [(2, 10), (0, (v 3 1))] X v (fun o X1 v1 => X1 = X ∧ P1 o v1) ∧ ∀ (r2 : Int) (w3 : VV), P1 (some (0, r2)) w3 → (((¬ a1 = 259) → (((¬ a1 = 257) → Ex mX4_takeConstant d 51 [(2, 3), (0, a1), (0, r2)] [] X w3 mc ms Q) ∧ ((a1 = 257) → (((r2 ≤ 4) → Ex mX4_takeConstant d 51 [(2, 3), (0, a1), (0, r2)] [] X w3 mc ms Q) ∧ ((4 < r2) → Q (some (0, 0)) X (upd2 w3 3 2 4)))))) ∧ ((a1 = 259) → Q (some (0, 0)) X (upd2 w3 3 2 r2)))) : Ex mX4_takeConstant d 0 [(2, 3), (0, a1), (3, 0)] [] X v mc ms Q := by
  refine x_li32 (i := 1) rfl (fun ha1 => ?_)
  have F := F ha1
  refine x_aload_n dX4_takeConstant_0 rfl ?_
  refine x_getr (r' := 4) flX4_12 dX4_takeConstant_1 (sW3 hW) (gW3 hW) (rW3_0 hW) rfl (Nat.le_of_ble_eq_true rfl) ?_
  refine x_getr (r' := 5) flX4_51 dX4_takeConstant_4 (sW4 hW) (gW4 hW) (rW4_0 hW) rfl (Nat.le_of_ble_eq_true rfl) ?_
  refine x_getr (r' := 10) flX4_116 dX4_takeConstant_7 (sW5 hW) (gW5 hW) (rW5_2 hW) rfl (Nat.le_of_ble_eq_true rfl) ?_
  refine x_aload_n dX4_takeConstant_10 rfl ?_
  refine x_geti (e := (v 3 1)) 0 flX4_18 dX4_takeConstant_11 (sW3 hW) (gW3 hW) rfl rfl (Nat.le_of_ble_eq_true rfl) (tagn2 rfl) ?_
  obtain ⟨P1, hC, F⟩ := F
  refine x_inv dX4_takeConstant_14 mlX4_61 hC (sW10 hW) (Nat.le_of_ble_eq_true rfl) (gW10 hW) rfl rfl (by omega) (Nat.zero_le _) (Nat.zero_le _) (Nat.le_of_ble_eq_true rfl) (fun o1 Y4 w3 ht hP => ?_)
  obtain ⟨r2, rfl⟩ : ∃ i, o1 = some (0, i) := ht
  obtain ⟨hX, hP⟩ := hP
  have hX := Eq.symm hX
  subst hX
  have F := F r2 w3 hP
  refine x_istore_n [(2, 3), (0, a1), (0, r2)] dX4_takeConstant_17 rfl (Nat.le_of_ble_eq_true rfl) ?_
  refine x_iload_n dX4_takeConstant_18 rfl ?_
  refine x_sipush dX4_takeConstant_19 ks_259 (i32_of rfl) ?_
  refine x_icmp_ne 32 dX4_takeConstant_22 rfl (fun hc => ?_) (fun hc => ?_)
  · have F := F.1 hc
    refine x_iload_n dX4_takeConstant_32 rfl ?_
    refine x_sipush dX4_takeConstant_33 ks_257 (i32_of rfl) ?_
    refine x_icmp_ne 51 dX4_takeConstant_36 rfl (fun hc => ?_) (fun hc => ?_)
    · have F := F.1 hc
      exact F
    · have F := F.2 hc
      refine x_iload_n dX4_takeConstant_39 rfl ?_
      refine x_iconst dX4_takeConstant_40 rfl (i32_of rfl) ?_
      refine x_icmp_le 51 dX4_takeConstant_41 rfl (fun hc => ?_) (fun hc => ?_)
      · have F := F.1 hc
        exact F
      · have F := F.2 hc
        refine x_aload_n dX4_takeConstant_44 rfl ?_
        refine x_iconst dX4_takeConstant_45 rfl (i32_of rfl) ?_
        refine x_puti 0 fwX4_22 dX4_takeConstant_46 (sW3 hW) (gW3 hW) (fun h => Bool.noConfusion h) (Nat.le_of_ble_eq_true rfl) rfl (Or.inl ⟨rfl, Or.inl rfl⟩) ?_
        refine x_iconst dX4_takeConstant_49 rfl (i32_of rfl) ?_
        exact x_ret (some (0, 0)) rfl ⟨dX4_takeConstant_50, Or.inr ⟨rfl, Or.inl rfl⟩⟩ F
  · have F := F.2 hc
    refine x_aload_n dX4_takeConstant_25 rfl ?_
    refine x_iload_n dX4_takeConstant_26 rfl ?_
    refine x_puti 0 fwX4_22 dX4_takeConstant_27 (sW3 hW) (gW3 hW) (fun h => Bool.noConfusion h) (Nat.le_of_ble_eq_true rfl) rfl (Or.inl ⟨rfl, Or.inl rfl⟩) ?_
    refine x_iconst dX4_takeConstant_30 rfl (i32_of rfl) ?_
    exact x_ret (some (0, 0)) rfl ⟨dX4_takeConstant_31, Or.inr ⟨rfl, Or.inl rfl⟩⟩ F

set_option maxRecDepth 100000 in
set_option maxHeartbeats 4000000 in
theorem bX4_takeConstant_51 {d mc ms : Nat} {X : XX} {v : VV} {Q : QQ} (a1 : Int) (x2 : Int) (hd : 1 ≤ d) (hW : SW X) (F : i32 a1 → i32 x2 → (i32 (v 3 1) → i32 ((v 3 1) + 1)) ∧ Q (some (0, 1)) X (upd2 v 3 1 ((v 3 1) + 1))) : Ex mX4_takeConstant d 51 [(2, 3), (0, a1), (0, x2)] [] X v mc ms Q := by
  refine x_li32 (i := 1) rfl (fun ha1 => ?_)
  have F := F ha1
  refine x_li32 (i := 2) rfl (fun hx2 => ?_)
  have F := F hx2
  refine x_aload_n dX4_takeConstant_51 rfl ?_
  refine x_dup dX4_takeConstant_52 (tag1 rfl) ?_
  refine x_geti (e := (v 3 1)) 0 flX4_18 dX4_takeConstant_53 (sW3 hW) (gW3 hW) rfl rfl (Nat.le_of_ble_eq_true rfl) (tagn2 rfl) ?_
  refine x_iconst dX4_takeConstant_56 rfl (i32_of rfl) ?_
  refine x_si32 (i := 1) rfl (fun hk1 => ?_)
  obtain ⟨hz, F⟩ := F
  have hz := hz hk1
  refine x_iadd dX4_takeConstant_57 hz ?_
  refine x_puti 0 fwX4_18 dX4_takeConstant_58 (sW3 hW) (gW3 hW) (fun h => Bool.noConfusion h) (Nat.le_of_ble_eq_true rfl) rfl (Or.inl ⟨rfl, Or.inl rfl⟩) ?_
  refine x_iconst dX4_takeConstant_61 rfl (i32_of rfl) ?_
  exact x_ret (some (0, 1)) rfl ⟨dX4_takeConstant_62, Or.inr ⟨rfl, Or.inr rfl⟩⟩ F

set_option maxRecDepth 100000 in
set_option maxHeartbeats 4000000 in
theorem bX5_clear_0 {d mc ms : Nat} {X : XX} {v : VV} {Q : QQ} (o : Int) (hd : 1 ≤ d) (hW : SW X) (F : X.1.2 o = (5, 0) ∧ (0 ≤ o ∧ o < X.1.1) ∧ X.1.2 (X.2 o 0) = (6, 0) ∧ (0 ≤ (X.2 o 0) ∧ (X.2 o 0) < X.1.1) ∧ ∃ P3 : Option AV → VV → Prop, Con mX6_cutTo 0 0 0 [(2, (X.2 o 0)), (0, 0)] X v (fun o X1 v1 => X1 = X ∧ P3 o v1) ∧ ∀ (w5 : VV), P3 none w5 → X.1.2 (X.2 o 1) = (6, 0) ∧ (0 ≤ (X.2 o 1) ∧ (X.2 o 1) < X.1.1) ∧ ∃ P8 : Option AV → VV → Prop, Con mX6_cutTo 0 0 0 [(2, (X.2 o 1)), (0, 0)] X w5 (fun o X1 v1 => X1 = X ∧ P8 o v1) ∧ ∀ (w10 : VV), P8 none w10 → Ex mX5_clear d 23 [(2, o), (0, 0)] [] X (upd2 w10 o 4 0) mc ms Q) : Ex mX5_clear d 0 [(2, o), (3, 0)] [] X v mc ms Q := by
  refine x_aload_n dX5_clear_0 rfl ?_
  obtain ⟨hs1, hr1, F⟩ := F
  refine x_getr (r' := (X.2 o 0)) flX5_23 dX5_clear_1 hs1 hr1 rfl rfl (Nat.le_of_ble_eq_true rfl) ?_
  refine x_iconst dX5_clear_4 rfl (i32_of rfl) ?_
  obtain ⟨hs2, hr2, F⟩ := F
  obtain ⟨P3, hC, F⟩ := F
  refine x_inv dX5_clear_5 mlX5_30 hC hs2 (Nat.le_of_ble_eq_true rfl) hr2 rfl rfl (by omega) (Nat.zero_le _) (Nat.zero_le _) (Nat.le_of_ble_eq_true rfl) (fun o1 Y6 w5 ht hP => ?_)
  obtain rfl : o1 = none := ht
  obtain ⟨hX, hP⟩ := hP
  have hX := Eq.symm hX
  subst hX
  have F := F w5 hP
  refine x_aload_n dX5_clear_8 rfl ?_
  refine x_getr (r' := (X.2 o 1)) flX5_27 dX5_clear_9 hs1 hr1 rfl rfl (Nat.le_of_ble_eq_true rfl) ?_
  refine x_iconst dX5_clear_12 rfl (i32_of rfl) ?_
  obtain ⟨hs7, hr7, F⟩ := F
  obtain ⟨P8, hC, F⟩ := F
  refine x_inv dX5_clear_13 mlX5_30 hC hs7 (Nat.le_of_ble_eq_true rfl) hr7 rfl rfl (by omega) (Nat.zero_le _) (Nat.zero_le _) (Nat.le_of_ble_eq_true rfl) (fun o1 Y11 w10 ht hP => ?_)
  obtain rfl : o1 = none := ht
  obtain ⟨hX, hP⟩ := hP
  have hX := Eq.symm hX
  subst hX
  have F := F w10 hP
  refine x_aload_n dX5_clear_16 rfl ?_
  refine x_iconst dX5_clear_17 rfl (i32_of rfl) ?_
  refine x_puti 0 fwX5_33 dX5_clear_18 hs1 hr1 (fun h => Bool.noConfusion h) (Nat.le_of_ble_eq_true rfl) rfl (Or.inl ⟨rfl, Or.inl rfl⟩) ?_
  refine x_iconst dX5_clear_21 rfl (i32_of rfl) ?_
  refine x_istore_n [(2, o), (0, 0)] dX5_clear_22 rfl (Nat.le_of_ble_eq_true rfl) ?_
  exact F

set_option maxRecDepth 100000 in
set_option maxHeartbeats 4000000 in
theorem bX5_clear_23 {d mc ms : Nat} {X : XX} {v : VV} {Q : QQ} (o : Int) (x1 : Int) (hd : 1 ≤ d) (hW : SW X) (F : i32 x1 → (((6 < x1) → Q none X v) ∧ ((x1 ≤ 6) → X.1.2 o = (5, 0) ∧ (0 ≤ o ∧ o < X.1.1) ∧ ∃ n13 : Nat, X.1.2 (X.2 o 2) = (100, n13) ∧ (0 ≤ (X.2 o 2) ∧ (X.2 o 2) < X.1.1) ∧ (0 ≤ x1 ∧ x1 < n13) ∧ ∃ n14 : Nat, X.1.2 (X.2 o 3) = (100, n14) ∧ (0 ≤ (X.2 o 3) ∧ (X.2 o 3) < X.1.1) ∧ (0 ≤ x1 ∧ x1 < n14) ∧ i32 (x1 + 1) ∧ Ex mX5_clear d 23 [(2, o), (0, (x1 + 1))] [] X (upd2 (upd2 v (X.2 o 2) x1 0) (X.2 o 3) x1 0) mc ms Q))) : Ex mX5_clear d 23 [(2, o), (0, x1)] [] X v mc ms Q := by
  refine x_li32 (i := 1) rfl (fun hx1 => ?_)
  have F := F hx1
  refine x_iload_n dX5_clear_23 rfl ?_
  refine x_bipush dX5_clear_24 kb_6 (i32_of rfl) ?_
  refine x_icmp_gt 49 dX5_clear_26 rfl (fun hc => ?_) (fun hc => ?_)
  · have F := F.1 hc
    exact x_ret none rfl ⟨dX5_clear_49, rfl⟩ F
  · have F := F.2 hc
    refine x_aload_n dX5_clear_29 rfl ?_
    obtain ⟨hs12, hr12, F⟩ := F
    refine x_getr (r' := (X.2 o 2)) flX5_9 dX5_clear_30 hs12 hr12 rfl rfl (Nat.le_of_ble_eq_true rfl) ?_
    refine x_iload_n dX5_clear_33 rfl ?_
    refine x_iconst dX5_clear_34 rfl (i32_of rfl) ?_
    obtain ⟨n13, hs13, hr13, F⟩ := F
    obtain ⟨hi, F⟩ := F
    refine x_iast dX5_clear_35 hs13 hr13 hi ?_
    refine x_aload_n dX5_clear_36 rfl ?_
    refine x_getr (r' := (X.2 o 3)) flX5_15 dX5_clear_37 hs12 hr12 rfl rfl (Nat.le_of_ble_eq_true rfl) ?_
    refine x_iload_n dX5_clear_40 rfl ?_
    refine x_iconst dX5_clear_41 rfl (i32_of rfl) ?_
    obtain ⟨n14, hs14, hr14, F⟩ := F
    obtain ⟨hi, F⟩ := F
    refine x_iast dX5_clear_42 hs14 hr14 hi ?_
    obtain ⟨hz, F⟩ := F
    refine x_iinc [(2, o), (0, (x1 + 1))] dX5_clear_43 rfl rfl (Nat.le_of_ble_eq_true rfl) hz ?_
    refine x_goto 23 dX5_clear_46 rfl ?_
    exact F

set_option maxRecDepth 100000 in
set_option maxHeartbeats 4000000 in
theorem bX5_add_0 {d mc ms : Nat} {X : XX} {v : VV} {Q : QQ} (o : Int) (a1 : Int) (a2 : Int) (hd : 1 ≤ d) (hW : SW X) (F : i32 a1 → i32 a2 → X.1.2 o = (5, 0) ∧ (0 ≤ o ∧ o < X.1.1) ∧ X.1.2 (X.2 o 0) = (6, 0) ∧ (0 ≤ (X.2 o 0) ∧ (X.2 o 0) < X.1.1) ∧ ∃ P3 : Option AV → VV → Prop, Con mX6_add 0 0 0 [(2, (X.2 o 0)), (0, a1)] X v (fun o X1 v1 => X1 = X ∧ P3 o v1) ∧ ∀ (w5 : VV), P3 none w5 → X.1.2 (X.2 o 1) = (6, 0) ∧ (0 ≤ (X.2 o 1) ∧ (X.2 o 1) < X.1.1) ∧ ∃ P8 : Option AV → VV → Prop, Con mX6_add 0 0 0 [(2, (X.2 o 1)), (0, a2)] X w5 (fun o X1 v1 => X1 = X ∧ P8 o v1) ∧ ∀ (w10 : VV), P8 none w10 → Q none X w10) : Ex mX5_add d 0 [(2, o), (0, a1), (0, a2)] [] X v mc ms Q := by
  refine x_li32 (i := 1) rfl (fun ha1 => ?_)
  have F := F ha1
  refine x_li32 (i := 2) rfl (fun ha2 => ?_)
  have F := F ha2
  refine x_aload_n dX5_add_0 rfl ?_
  obtain ⟨hs1, hr1, F⟩ := F
  refine x_getr (r' := (X.2 o 0)) flX5_23 dX5_add_1 hs1 hr1 rfl rfl (Nat.le_of_ble_eq_true rfl) ?_
  refine x_iload_n dX5_add_4 rfl ?_
  obtain ⟨hs2, hr2, F⟩ := F
  obtain ⟨P3, hC, F⟩ := F
  refine x_inv dX5_add_5 mlX5_37 hC hs2 (Nat.le_of_ble_eq_true rfl) hr2 rfl rfl (by omega) (Nat.zero_le _) (Nat.zero_le _) (Nat.le_of_ble_eq_true rfl) (fun o1 Y6 w5 ht hP => ?_)
  obtain rfl : o1 = none := ht
  obtain ⟨hX, hP⟩ := hP
  have hX := Eq.symm hX
  subst hX
  have F := F w5 hP
  refine x_aload_n dX5_add_8 rfl ?_
  refine x_getr (r' := (X.2 o 1)) flX5_27 dX5_add_9 hs1 hr1 rfl rfl (Nat.le_of_ble_eq_true rfl) ?_
  refine x_iload_n dX5_add_12 rfl ?_
  obtain ⟨hs7, hr7, F⟩ := F
  obtain ⟨P8, hC, F⟩ := F
  refine x_inv dX5_add_13 mlX5_37 hC hs7 (Nat.le_of_ble_eq_true rfl) hr7 rfl rfl (by omega) (Nat.zero_le _) (Nat.zero_le _) (Nat.le_of_ble_eq_true rfl) (fun o1 Y11 w10 ht hP => ?_)
  obtain rfl : o1 = none := ht
  obtain ⟨hX, hP⟩ := hP
  have hX := Eq.symm hX
  subst hX
  have F := F w10 hP
  exact x_ret none rfl ⟨dX5_add_16, rfl⟩ F

set_option maxRecDepth 100000 in
set_option maxHeartbeats 4000000 in
theorem bX5_closePart_0 {d mc ms : Nat} {X : XX} {v : VV} {Q : QQ} (o : Int) (a1 : Int) (hd : 1 ≤ d) (hW : SW X) (F : i32 a1 → (((a1 < 0) → X.1.2 o = (5, 0) ∧ (0 ≤ o ∧ o < X.1.1) ∧ X.1.2 (X.2 o 0) = (6, 0) ∧ (0 ≤ (X.2 o 0) ∧ (X.2 o 0) < X.1.1) ∧ ∃ P3 : Option AV → VV → Prop, Con mX6_size 0 0 0 [(2, (X.2 o 0))] X v (fun o X1 v1 => X1 = X ∧ P3 o v1) ∧ ∀ (r4 : Int) (w5 : VV), P3 (some (0, r4)) w5 → Q none X (upd2 w5 o 4 r4)) ∧ ((0 ≤ a1) → (((6 < a1) → X.1.2 o = (5, 0) ∧ (0 ≤ o ∧ o < X.1.1) ∧ X.1.2 (X.2 o 0) = (6, 0) ∧ (0 ≤ (X.2 o 0) ∧ (X.2 o 0) < X.1.1) ∧ ∃ P9 : Option AV → VV → Prop, Con mX6_size 0 0 0 [(2, (X.2 o 0))] X v (fun o X1 v1 => X1 = X ∧ P9 o v1) ∧ ∀ (r10 : Int) (w11 : VV), P9 (some (0, r10)) w11 → Q none X (upd2 w11 o 4 r10)) ∧ ((a1 ≤ 6) → X.1.2 o = (5, 0) ∧ (0 ≤ o ∧ o < X.1.1) ∧ ∃ n14 : Nat, X.1.2 (X.2 o 2) = (100, n14) ∧ (0 ≤ (X.2 o 2) ∧ (X.2 o 2) < X.1.1) ∧ (0 ≤ a1 ∧ a1 < n14) ∧ X.1.2 (X.2 o 0) = (6, 0) ∧ (0 ≤ (X.2 o 0) ∧ (X.2 o 0) < X.1.1) ∧ ∃ P16 : Option AV → VV → Prop, Con mX6_size 0 0 0 [(2, (X.2 o 0))] X (upd2 v (X.2 o 2) a1 (v o 4)) (fun o X1 v1 => X1 = X ∧ P16 o v1) ∧ ∀ (r17 : Int) (w18 : VV), P16 (some (0, r17)) w18 → ∃ n20 : Nat, X.1.2 (X.2 o 3) = (100, n20) ∧ (0 ≤ (X.2 o 3) ∧ (X.2 o 3) < X.1.1) ∧ (0 ≤ a1 ∧ a1 < n20) ∧ ∃ P21 : Option AV → VV → Prop, Con mX6_size 0 0 0 [(2, (X.2 o 0))] X (upd2 w18 (X.2 o 3) a1 r17) (fun o X1 v1 => X1 = X ∧ P21 o v1) ∧ ∀ (r22 : Int) (w23 : VV), P21 (some (0, r22)) w23 → Q none X (upd2 w23 o 4 r22)))))) : Ex mX5_closePart d 0 [(2, o), (0, a1)] [] X v mc ms Q := by
  refine x_li32 (i := 1) rfl (fun ha1 => ?_)
  have F := F ha1
  refine x_iload_n dX5_closePart_0 rfl ?_
  refine x_if_lt 33 dX5_closePart_1 rfl (fun hc => ?_) (fun hc => ?_)
  · have F := F.1 hc
    refine x_aload_n dX5_closePart_33 rfl ?_
    refine x_aload_n dX5_closePart_34 rfl ?_
    obtain ⟨hs1, hr1, F⟩ := F
    refine x_getr (r' := (X.2 o 0)) flX5_23 dX5_closePart_35 hs1 hr1 rfl rfl (Nat.le_of_ble_eq_true rfl) ?_
    obtain ⟨hs2, hr2, F⟩ := F
    obtain ⟨P3, hC, F⟩ := F
    refine x_inv dX5_closePart_38 mlX5_40 hC hs2 (Nat.le_of_ble_eq_true rfl) hr2 rfl rfl (by omega) (Nat.zero_le _) (Nat.zero_le _) (Nat.le_of_ble_eq_true rfl) (fun o1 Y6 w5 ht hP => ?_)
    obtain ⟨r4, rfl⟩ : ∃ i, o1 = some (0, i) := ht
    obtain ⟨hX, hP⟩ := hP
    have hX := Eq.symm hX
    subst hX
    have F := F r4 w5 hP
    refine x_puti 0 fwX5_33 dX5_closePart_41 hs1 hr1 (fun h => Bool.noConfusion h) (Nat.le_of_ble_eq_true rfl) rfl (Or.inl ⟨rfl, Or.inl rfl⟩) ?_
    exact x_ret none rfl ⟨dX5_closePart_44, rfl⟩ F
  · have F := F.2 hc
    refine x_iload_n dX5_closePart_4 rfl ?_
    refine x_bipush dX5_closePart_5 kb_6 (i32_of rfl) ?_
    refine x_icmp_gt 33 dX5_closePart_7 rfl (fun hc => ?_) (fun hc => ?_)
    · have F := F.1 hc
      refine x_aload_n dX5_closePart_33 rfl ?_
      refine x_aload_n dX5_closePart_34 rfl ?_
      obtain ⟨hs7, hr7, F⟩ := F
      refine x_getr (r' := (X.2 o 0)) flX5_23 dX5_closePart_35 hs7 hr7 rfl rfl (Nat.le_of_ble_eq_true rfl) ?_
      obtain ⟨hs8, hr8, F⟩ := F
      obtain ⟨P9, hC, F⟩ := F
      refine x_inv dX5_closePart_38 mlX5_40 hC hs8 (Nat.le_of_ble_eq_true rfl) hr8 rfl rfl (by omega) (Nat.zero_le _) (Nat.zero_le _) (Nat.le_of_ble_eq_true rfl) (fun o1 Y12 w11 ht hP => ?_)
      obtain ⟨r10, rfl⟩ : ∃ i, o1 = some (0, i) := ht
      obtain ⟨hX, hP⟩ := hP
      have hX := Eq.symm hX
      subst hX
      have F := F r10 w11 hP
      refine x_puti 0 fwX5_33 dX5_closePart_41 hs7 hr7 (fun h => Bool.noConfusion h) (Nat.le_of_ble_eq_true rfl) rfl (Or.inl ⟨rfl, Or.inl rfl⟩) ?_
      exact x_ret none rfl ⟨dX5_closePart_44, rfl⟩ F
    · have F := F.2 hc
      refine x_aload_n dX5_closePart_10 rfl ?_
      obtain ⟨hs13, hr13, F⟩ := F
      refine x_getr (r' := (X.2 o 2)) flX5_9 dX5_closePart_11 hs13 hr13 rfl rfl (Nat.le_of_ble_eq_true rfl) ?_
      refine x_iload_n dX5_closePart_14 rfl ?_
      refine x_aload_n dX5_closePart_15 rfl ?_
      refine x_geti (e := (v o 4)) 0 flX5_33 dX5_closePart_16 hs13 hr13 rfl rfl (Nat.le_of_ble_eq_true rfl) (tagn2 rfl) ?_
      obtain ⟨n14, hs14, hr14, F⟩ := F
      obtain ⟨hi, F⟩ := F
      refine x_iast dX5_closePart_19 hs14 hr14 hi ?_
      refine x_aload_n dX5_closePart_20 rfl ?_
      refine x_getr (r' := (X.2 o 3)) flX5_15 dX5_closePart_21 hs13 hr13 rfl rfl (Nat.le_of_ble_eq_true rfl) ?_
      refine x_iload_n dX5_closePart_24 rfl ?_
      refine x_aload_n dX5_closePart_25 rfl ?_
      refine x_getr (r' := (X.2 o 0)) flX5_23 dX5_closePart_26 hs13 hr13 rfl rfl (Nat.le_of_ble_eq_true rfl) ?_
      obtain ⟨hs15, hr15, F⟩ := F
      obtain ⟨P16, hC, F⟩ := F
      refine x_inv dX5_closePart_29 mlX5_40 hC hs15 (Nat.le_of_ble_eq_true rfl) hr15 rfl rfl (by omega) (Nat.zero_le _) (Nat.zero_le _) (Nat.le_of_ble_eq_true rfl) (fun o1 Y19 w18 ht hP => ?_)
      obtain ⟨r17, rfl⟩ : ∃ i, o1 = some (0, i) := ht
      obtain ⟨hX, hP⟩ := hP
      have hX := Eq.symm hX
      subst hX
      have F := F r17 w18 hP
      obtain ⟨n20, hs20, hr20, F⟩ := F
      obtain ⟨hi, F⟩ := F
      refine x_iast dX5_closePart_32 hs20 hr20 hi ?_
      refine x_aload_n dX5_closePart_33 rfl ?_
      refine x_aload_n dX5_closePart_34 rfl ?_
      refine x_getr (r' := (X.2 o 0)) flX5_23 dX5_closePart_35 hs13 hr13 rfl rfl (Nat.le_of_ble_eq_true rfl) ?_
      obtain ⟨P21, hC, F⟩ := F
      refine x_inv dX5_closePart_38 mlX5_40 hC hs15 (Nat.le_of_ble_eq_true rfl) hr15 rfl rfl (by omega) (Nat.zero_le _) (Nat.zero_le _) (Nat.le_of_ble_eq_true rfl) (fun o1 Y24 w23 ht hP => ?_)
      obtain ⟨r22, rfl⟩ : ∃ i, o1 = some (0, i) := ht
      obtain ⟨hX, hP⟩ := hP
      have hX := Eq.symm hX
      subst hX
      have F := F r22 w23 hP
      refine x_puti 0 fwX5_33 dX5_closePart_41 hs13 hr13 (fun h => Bool.noConfusion h) (Nat.le_of_ble_eq_true rfl) rfl (Or.inl ⟨rfl, Or.inl rfl⟩) ?_
      exact x_ret none rfl ⟨dX5_closePart_44, rfl⟩ F

set_option maxRecDepth 100000 in
set_option maxHeartbeats 4000000 in
theorem bX5_startOf_0 {d mc ms : Nat} {X : XX} {v : VV} {Q : QQ} (o : Int) (a1 : Int) (hd : 0 ≤ d) (hW : SW X) (F : i32 a1 → (((a1 < 0) → Q (some (0, 0)) X v) ∧ ((0 ≤ a1) → (((6 < a1) → Q (some (0, 0)) X v) ∧ ((a1 ≤ 6) → X.1.2 o = (5, 0) ∧ (0 ≤ o ∧ o < X.1.1) ∧ ∃ n2 : Nat, X.1.2 (X.2 o 2) = (100, n2) ∧ (0 ≤ (X.2 o 2) ∧ (X.2 o 2) < X.1.1) ∧ (0 ≤ a1 ∧ a1 < n2) ∧ Q (some (0, (v (X.2 o 2) a1))) X v))))) : Ex mX5_startOf d 0 [(2, o), (0, a1)] [] X v mc ms Q := by
  refine x_li32 (i := 1) rfl (fun ha1 => ?_)
  have F := F ha1
  refine x_iload_n dX5_startOf_0 rfl ?_
  refine x_if_lt 19 dX5_startOf_1 rfl (fun hc => ?_) (fun hc => ?_)
  · have F := F.1 hc
    refine x_iconst dX5_startOf_19 rfl (i32_of rfl) ?_
    exact x_ret (some (0, 0)) rfl ⟨dX5_startOf_20, Or.inl rfl⟩ F
  · have F := F.2 hc
    refine x_iload_n dX5_startOf_4 rfl ?_
    refine x_bipush dX5_startOf_5 kb_6 (i32_of rfl) ?_
    refine x_icmp_gt 19 dX5_startOf_7 rfl (fun hc => ?_) (fun hc => ?_)
    · have F := F.1 hc
      refine x_iconst dX5_startOf_19 rfl (i32_of rfl) ?_
      exact x_ret (some (0, 0)) rfl ⟨dX5_startOf_20, Or.inl rfl⟩ F
    · have F := F.2 hc
      refine x_aload_n dX5_startOf_10 rfl ?_
      obtain ⟨hs1, hr1, F⟩ := F
      refine x_getr (r' := (X.2 o 2)) flX5_9 dX5_startOf_11 hs1 hr1 rfl rfl (Nat.le_of_ble_eq_true rfl) ?_
      refine x_iload_n dX5_startOf_14 rfl ?_
      obtain ⟨n2, hs2, hr2, F⟩ := F
      obtain ⟨hi, F⟩ := F
      refine x_iald (e := (v (X.2 o 2) a1)) dX5_startOf_15 hs2 hr2 hi rfl ?_
      refine x_goto 20 dX5_startOf_16 rfl ?_
      exact x_ret (some (0, (v (X.2 o 2) a1))) rfl ⟨dX5_startOf_20, Or.inl rfl⟩ F

set_option maxRecDepth 100000 in
set_option maxHeartbeats 4000000 in
theorem bX5_stopOf_0 {d mc ms : Nat} {X : XX} {v : VV} {Q : QQ} (o : Int) (a1 : Int) (hd : 0 ≤ d) (hW : SW X) (F : i32 a1 → (((a1 < 0) → Q (some (0, 0)) X v) ∧ ((0 ≤ a1) → (((6 < a1) → Q (some (0, 0)) X v) ∧ ((a1 ≤ 6) → X.1.2 o = (5, 0) ∧ (0 ≤ o ∧ o < X.1.1) ∧ ∃ n2 : Nat, X.1.2 (X.2 o 3) = (100, n2) ∧ (0 ≤ (X.2 o 3) ∧ (X.2 o 3) < X.1.1) ∧ (0 ≤ a1 ∧ a1 < n2) ∧ Q (some (0, (v (X.2 o 3) a1))) X v))))) : Ex mX5_stopOf d 0 [(2, o), (0, a1)] [] X v mc ms Q := by
  refine x_li32 (i := 1) rfl (fun ha1 => ?_)
  have F := F ha1
  refine x_iload_n dX5_stopOf_0 rfl ?_
  refine x_if_lt 19 dX5_stopOf_1 rfl (fun hc => ?_) (fun hc => ?_)
  · have F := F.1 hc
    refine x_iconst dX5_stopOf_19 rfl (i32_of rfl) ?_
    exact x_ret (some (0, 0)) rfl ⟨dX5_stopOf_20, Or.inl rfl⟩ F
  · have F := F.2 hc
    refine x_iload_n dX5_stopOf_4 rfl ?_
    refine x_bipush dX5_stopOf_5 kb_6 (i32_of rfl) ?_
    refine x_icmp_gt 19 dX5_stopOf_7 rfl (fun hc => ?_) (fun hc => ?_)
    · have F := F.1 hc
      refine x_iconst dX5_stopOf_19 rfl (i32_of rfl) ?_
      exact x_ret (some (0, 0)) rfl ⟨dX5_stopOf_20, Or.inl rfl⟩ F
    · have F := F.2 hc
      refine x_aload_n dX5_stopOf_10 rfl ?_
      obtain ⟨hs1, hr1, F⟩ := F
      refine x_getr (r' := (X.2 o 3)) flX5_15 dX5_stopOf_11 hs1 hr1 rfl rfl (Nat.le_of_ble_eq_true rfl) ?_
      refine x_iload_n dX5_stopOf_14 rfl ?_
      obtain ⟨n2, hs2, hr2, F⟩ := F
      obtain ⟨hi, F⟩ := F
      refine x_iald (e := (v (X.2 o 3) a1)) dX5_stopOf_15 hs2 hr2 hi rfl ?_
      refine x_goto 20 dX5_stopOf_16 rfl ?_
      exact x_ret (some (0, (v (X.2 o 3) a1))) rfl ⟨dX5_stopOf_20, Or.inl rfl⟩ F
