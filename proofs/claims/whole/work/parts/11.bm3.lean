set_option maxRecDepth 100000 in
set_option maxHeartbeats 4000000 in
theorem bX11_tableNamed_0 {d mc ms : Nat} {X : XX} {v : VV} {Q : QQ} (a1 : Int) (hd : 0 ≤ d) (hW : SW X) (F : Ex mX11_tableNamed d 2 [(2, 47), (1, a1), (3, 0), (0, 0)] [] X v mc ms Q) : Ex mX11_tableNamed d 0 [(2, 47), (1, a1), (3, 0), (3, 0)] [] X v mc ms Q := by
  refine x_iconst dX11_tableNamed_0 rfl (i32_of rfl) ?_
  refine x_istore_n [(2, 47), (1, a1), (3, 0), (0, 0)] dX11_tableNamed_1 rfl (Nat.le_of_ble_eq_true rfl) ?_
  exact F

set_option maxRecDepth 100000 in
set_option maxHeartbeats 4000000 in
theorem bX11_tableNamed_2 {d mc ms : Nat} {X : XX} {v : VV} {Q : QQ} (a1 : Int) (x3 : Int) (hd : 0 ≤ d) (hW : SW X) (F : i32 x3 → ((((v 47 0) ≤ x3) → Q (some (0, (-1))) X v) ∧ ((x3 < (v 47 0)) → (0 ≤ x3 ∧ x3 < 17) ∧ ((((v 48 x3) = 0) → i32 (x3 + 1) ∧ Ex mX11_tableNamed d 2 [(2, 47), (1, a1), (3, 0), (0, (x3 + 1))] [] X v mc ms Q) ∧ ((¬ (v 48 x3) = 0) → (0 ≤ x3 ∧ x3 < 17) ∧ (((¬ (v 49 x3) = a1) → i32 (x3 + 1) ∧ Ex mX11_tableNamed d 2 [(2, 47), (1, a1), (3, 0), (0, (x3 + 1))] [] X v mc ms Q) ∧ (((v 49 x3) = a1) → Q (some (0, x3)) X v))))))) : Ex mX11_tableNamed d 2 [(2, 47), (1, a1), (3, 0), (0, x3)] [] X v mc ms Q := by
  refine x_li32 (i := 3) rfl (fun hx3 => ?_)
  have F := F hx3
  refine x_iload_n dX11_tableNamed_2 rfl ?_
  refine x_aload_n dX11_tableNamed_3 rfl ?_
  refine x_geti (e := (v 47 0)) 0 flX11_159 dX11_tableNamed_4 (sW47 hW) (gW47 hW) rfl rfl (Nat.le_of_ble_eq_true rfl) (tagn2 rfl) ?_
  refine x_icmp_ge 38 dX11_tableNamed_7 rfl (fun hc => ?_) (fun hc => ?_)
  · have F := F.1 hc
    refine x_iconst dX11_tableNamed_38 rfl (i32_of rfl) ?_
    exact x_ret (some (0, (-1))) rfl ⟨dX11_tableNamed_39, Or.inl rfl⟩ F
  · have F := F.2 hc
    refine x_aload_n dX11_tableNamed_10 rfl ?_
    refine x_getr (r' := 48) flX11_7 dX11_tableNamed_11 (sW47 hW) (gW47 hW) (rW47_1 hW) rfl (Nat.le_of_ble_eq_true rfl) ?_
    refine x_iload_n dX11_tableNamed_14 rfl ?_
    obtain ⟨hi, F⟩ := F
    refine x_zald (e := (v 48 x3)) dX11_tableNamed_15 (sW48 hW) (gW48 hW) hi rfl ?_
    refine x_if_eq 32 dX11_tableNamed_16 rfl (fun hc => ?_) (fun hc => ?_)
    · have F := F.1 hc
      obtain ⟨hz, F⟩ := F
      refine x_iinc [(2, 47), (1, a1), (3, 0), (0, (x3 + 1))] dX11_tableNamed_32 rfl rfl (Nat.le_of_ble_eq_true rfl) hz ?_
      refine x_goto 2 dX11_tableNamed_35 rfl ?_
      exact F
    · have F := F.2 hc
      refine x_aload_n dX11_tableNamed_19 rfl ?_
      refine x_getr (r' := 49) flX11_13 dX11_tableNamed_20 (sW47 hW) (gW47 hW) (rW47_2 hW) rfl (Nat.le_of_ble_eq_true rfl) ?_
      refine x_iload_n dX11_tableNamed_23 rfl ?_
      obtain ⟨hi, F⟩ := F
      refine x_lald (e := (v 49 x3)) dX11_tableNamed_24 (sW49 hW) (gW49 hW) hi rfl ?_
      refine x_lload_n dX11_tableNamed_25 rfl ?_
      refine x_lcmp dX11_tableNamed_26 (fun z1 hz11 hz12 hz13 => ?_)
      refine x_if_ne 32 dX11_tableNamed_27 rfl (fun hc => ?_) (fun hc => ?_)
      · have F := F.1 (fun q => hc (hz11.mpr q))
        obtain ⟨hz, F⟩ := F
        refine x_iinc [(2, 47), (1, a1), (3, 0), (0, (x3 + 1))] dX11_tableNamed_32 rfl rfl (Nat.le_of_ble_eq_true rfl) hz ?_
        refine x_goto 2 dX11_tableNamed_35 rfl ?_
        exact F
      · have F := F.2 (hz11.mp hc)
        refine x_iload_n dX11_tableNamed_30 rfl ?_
        exact x_ret (some (0, x3)) rfl ⟨dX11_tableNamed_31, Or.inl rfl⟩ F

set_option maxRecDepth 100000 in
set_option maxHeartbeats 4000000 in
theorem bX11_wordOf_0 {d mc ms : Nat} {X : XX} {v : VV} {Q : QQ} (a1 : Int) (a2 : Int) (hd : 0 ≤ d) (hW : SW X) (F : i32 a1 → i32 a2 → i32 (400 * a1) ∧ (i32 (400 * a1) → i32 ((400 * a1) + a2)) ∧ Ex mX11_wordOf d 14 [(2, 47), (0, a1), (0, a2), (1, 0), (3, 0), (0, ((400 * a1) + a2)), (0, 0)] [] X v mc ms Q) : Ex mX11_wordOf d 0 [(2, 47), (0, a1), (0, a2), (3, 0), (3, 0), (3, 0), (3, 0)] [] X v mc ms Q := by
  refine x_li32 (i := 1) rfl (fun ha1 => ?_)
  have F := F ha1
  refine x_li32 (i := 2) rfl (fun ha2 => ?_)
  have F := F ha2
  refine x_lconst (i := 0) dX11_wordOf_0 rfl (i64_of rfl) ?_
  refine x_lstore_n [(2, 47), (0, a1), (0, a2), (1, 0), (3, 0), (3, 0), (3, 0)] dX11_wordOf_1 rfl (Nat.le_of_ble_eq_true rfl) ?_
  refine x_sipush dX11_wordOf_2 ks_400 (i32_of rfl) ?_
  refine x_iload_n dX11_wordOf_5 rfl ?_
  obtain ⟨hz, F⟩ := F
  refine x_imul dX11_wordOf_6 hz ?_
  refine x_iload_n dX11_wordOf_7 rfl ?_
  refine x_si32 (i := 1) rfl (fun hk1 => ?_)
  obtain ⟨hz, F⟩ := F
  have hz := hz hk1
  refine x_iadd dX11_wordOf_8 hz ?_
  refine x_istore [(2, 47), (0, a1), (0, a2), (1, 0), (3, 0), (0, ((400 * a1) + a2)), (3, 0)] dX11_wordOf_9 rfl (Nat.le_of_ble_eq_true rfl) ?_
  refine x_iconst dX11_wordOf_11 rfl (i32_of rfl) ?_
  refine x_istore [(2, 47), (0, a1), (0, a2), (1, 0), (3, 0), (0, ((400 * a1) + a2)), (0, 0)] dX11_wordOf_12 rfl (Nat.le_of_ble_eq_true rfl) ?_
  exact F

set_option maxRecDepth 100000 in
set_option maxHeartbeats 4000000 in
theorem bX11_wordOf_14 {d mc ms : Nat} {X : XX} {v : VV} {Q : QQ} (a1 : Int) (a2 : Int) (x3 : Int) (x5 : Int) (x6 : Int) (hd : 0 ≤ d) (hW : SW X) (F : i32 a1 → i32 a2 → i32 x5 → i32 x6 → (0 ≤ x5 ∧ x5 < 6800) ∧ ((((v 63 x5) ≤ x6) → Q (some (1, x3)) X v) ∧ ((x6 < (v 63 x5)) → i64 (27 * x3) ∧ i32 (400 * a1) ∧ (0 ≤ x5 ∧ x5 < 6800) ∧ (i32 (v 62 x5) → i32 (400 * a1) → i32 ((400 * a1) + (v 62 x5))) ∧ (i32 ((400 * a1) + (v 62 x5)) → i32 (((400 * a1) + (v 62 x5)) + x6)) ∧ (0 ≤ (((400 * a1) + (v 62 x5)) + x6) ∧ (((400 * a1) + (v 62 x5)) + x6) < 6800) ∧ i64 ((27 * x3) + (v 64 (((400 * a1) + (v 62 x5)) + x6))) ∧ i64 (((27 * x3) + (v 64 (((400 * a1) + (v 62 x5)) + x6))) - 97) ∧ i64 ((((27 * x3) + (v 64 (((400 * a1) + (v 62 x5)) + x6))) - 97) + 1) ∧ i32 (x6 + 1) ∧ Ex mX11_wordOf d 14 [(2, 47), (0, a1), (0, a2), (1, ((((27 * x3) + (v 64 (((400 * a1) + (v 62 x5)) + x6))) - 97) + 1)), (3, 0), (0, x5), (0, (x6 + 1))] [] X v mc ms Q))) : Ex mX11_wordOf d 14 [(2, 47), (0, a1), (0, a2), (1, x3), (3, 0), (0, x5), (0, x6)] [] X v mc ms Q := by
  refine x_li32 (i := 1) rfl (fun ha1 => ?_)
  have F := F ha1
  refine x_li32 (i := 2) rfl (fun ha2 => ?_)
  have F := F ha2
  refine x_li32 (i := 5) rfl (fun hx5 => ?_)
  have F := F hx5
  refine x_li32 (i := 6) rfl (fun hx6 => ?_)
  have F := F hx6
  refine x_iload dX11_wordOf_14 rfl ?_
  refine x_aload_n dX11_wordOf_16 rfl ?_
  refine x_getr (r' := 63) flX11_57 dX11_wordOf_17 (sW47 hW) (gW47 hW) (rW47_16 hW) rfl (Nat.le_of_ble_eq_true rfl) ?_
  refine x_iload dX11_wordOf_20 rfl ?_
  obtain ⟨hi, F⟩ := F
  refine x_iald (e := (v 63 x5)) dX11_wordOf_22 (sW63 hW) (gW63 hW) hi rfl ?_
  refine x_icmp_ge 67 dX11_wordOf_23 rfl (fun hc => ?_) (fun hc => ?_)
  · have F := F.1 hc
    refine x_lload_n dX11_wordOf_67 rfl ?_
    exact x_ret (some (1, x3)) rfl ⟨dX11_wordOf_68, rfl⟩ F
  · have F := F.2 hc
    refine x_ldc2 (i := 27) 27 dX11_wordOf_26 lcX11_175 rfl (i64_of rfl) ?_
    refine x_lload_n dX11_wordOf_29 rfl ?_
    obtain ⟨hz, F⟩ := F
    refine x_lmul dX11_wordOf_30 hz ?_
    refine x_aload_n dX11_wordOf_31 rfl ?_
    refine x_getr (r' := 64) flX11_60 dX11_wordOf_32 (sW47 hW) (gW47 hW) (rW47_17 hW) rfl (Nat.le_of_ble_eq_true rfl) ?_
    refine x_sipush dX11_wordOf_35 ks_400 (i32_of rfl) ?_
    refine x_iload_n dX11_wordOf_38 rfl ?_
    obtain ⟨hz, F⟩ := F
    refine x_imul dX11_wordOf_39 hz ?_
    refine x_aload_n dX11_wordOf_40 rfl ?_
    refine x_getr (r' := 62) flX11_54 dX11_wordOf_41 (sW47 hW) (gW47 hW) (rW47_15 hW) rfl (Nat.le_of_ble_eq_true rfl) ?_
    refine x_iload dX11_wordOf_44 rfl ?_
    obtain ⟨hi, F⟩ := F
    refine x_iald (e := (v 62 x5)) dX11_wordOf_46 (sW62 hW) (gW62 hW) hi rfl ?_
    refine x_si32 (i := 0) rfl (fun hk0 => ?_)
    refine x_si32 (i := 1) rfl (fun hk1 => ?_)
    obtain ⟨hz, F⟩ := F
    have hz := hz hk0 hk1
    refine x_iadd dX11_wordOf_47 hz ?_
    refine x_iload dX11_wordOf_48 rfl ?_
    refine x_si32 (i := 1) rfl (fun hk1 => ?_)
    obtain ⟨hz, F⟩ := F
    have hz := hz hk1
    refine x_iadd dX11_wordOf_50 hz ?_
    obtain ⟨hi, F⟩ := F
    refine x_iald (e := (v 64 (((400 * a1) + (v 62 x5)) + x6))) dX11_wordOf_51 (sW64 hW) (gW64 hW) hi rfl ?_
    refine x_i2l dX11_wordOf_52 ?_
    obtain ⟨hz, F⟩ := F
    refine x_ladd dX11_wordOf_53 hz ?_
    refine x_ldc2 (i := 97) 97 dX11_wordOf_54 lcX11_177 rfl (i64_of rfl) ?_
    obtain ⟨hz, F⟩ := F
    refine x_lsub dX11_wordOf_57 hz ?_
    refine x_lconst (i := 1) dX11_wordOf_58 rfl (i64_of rfl) ?_
    obtain ⟨hz, F⟩ := F
    refine x_ladd dX11_wordOf_59 hz ?_
    refine x_lstore_n [(2, 47), (0, a1), (0, a2), (1, ((((27 * x3) + (v 64 (((400 * a1) + (v 62 x5)) + x6))) - 97) + 1)), (3, 0), (0, x5), (0, x6)] dX11_wordOf_60 rfl (Nat.le_of_ble_eq_true rfl) ?_
    obtain ⟨hz, F⟩ := F
    refine x_iinc [(2, 47), (0, a1), (0, a2), (1, ((((27 * x3) + (v 64 (((400 * a1) + (v 62 x5)) + x6))) - 97) + 1)), (3, 0), (0, x5), (0, (x6 + 1))] dX11_wordOf_61 rfl rfl (Nat.le_of_ble_eq_true rfl) hz ?_
    refine x_goto 14 dX11_wordOf_64 rfl ?_
    exact F

set_option maxRecDepth 100000 in
set_option maxHeartbeats 4000000 in
theorem bX11_behindNamed_0 {d mc ms : Nat} {X : XX} {v : VV} {Q : QQ} (a1 : Int) (a2 : Int) (hd : 0 ≤ d) (hW : SW X) (F : i32 a1 → Ex mX11_behindNamed d 3 [(2, 47), (0, a1), (1, a2), (3, 0), (0, 0)] [] X v mc ms Q) : Ex mX11_behindNamed d 0 [(2, 47), (0, a1), (1, a2), (3, 0), (3, 0)] [] X v mc ms Q := by
  refine x_li32 (i := 1) rfl (fun ha1 => ?_)
  have F := F ha1
  refine x_iconst dX11_behindNamed_0 rfl (i32_of rfl) ?_
  refine x_istore [(2, 47), (0, a1), (1, a2), (3, 0), (0, 0)] dX11_behindNamed_1 rfl (Nat.le_of_ble_eq_true rfl) ?_
  exact F

set_option maxRecDepth 100000 in
set_option maxHeartbeats 4000000 in
theorem bX11_behindNamed_3 {d mc ms : Nat} {X : XX} {v : VV} {Q : QQ} (a1 : Int) (a2 : Int) (x4 : Int) (hd : 0 ≤ d) (hW : SW X) (F : i32 a1 → i32 x4 → (0 ≤ a1 ∧ a1 < 17) ∧ ((((v 54 a1) ≤ x4) → Q (some (0, (-1))) X v) ∧ ((x4 < (v 54 a1)) → i32 (3 * a1) ∧ (i32 (3 * a1) → i32 ((3 * a1) + x4)) ∧ (0 ≤ ((3 * a1) + x4) ∧ ((3 * a1) + x4) < 51) ∧ ((((v 55 ((3 * a1) + x4)) = (-1)) → i32 (x4 + 1) ∧ Ex mX11_behindNamed d 3 [(2, 47), (0, a1), (1, a2), (3, 0), (0, (x4 + 1))] [] X v mc ms Q) ∧ ((¬ (v 55 ((3 * a1) + x4)) = (-1)) → i32 (3 * a1) ∧ (i32 (3 * a1) → i32 ((3 * a1) + x4)) ∧ (0 ≤ ((3 * a1) + x4) ∧ ((3 * a1) + x4) < 51) ∧ (0 ≤ (v 55 ((3 * a1) + x4)) ∧ (v 55 ((3 * a1) + x4)) < 17) ∧ (((¬ (v 49 (v 55 ((3 * a1) + x4))) = a2) → i32 (x4 + 1) ∧ Ex mX11_behindNamed d 3 [(2, 47), (0, a1), (1, a2), (3, 0), (0, (x4 + 1))] [] X v mc ms Q) ∧ (((v 49 (v 55 ((3 * a1) + x4))) = a2) → i32 (3 * a1) ∧ (i32 (3 * a1) → i32 ((3 * a1) + x4)) ∧ (0 ≤ ((3 * a1) + x4) ∧ ((3 * a1) + x4) < 51) ∧ Q (some (0, (v 55 ((3 * a1) + x4)))) X v))))))) : Ex mX11_behindNamed d 3 [(2, 47), (0, a1), (1, a2), (3, 0), (0, x4)] [] X v mc ms Q := by
  refine x_li32 (i := 1) rfl (fun ha1 => ?_)
  have F := F ha1
  refine x_li32 (i := 4) rfl (fun hx4 => ?_)
  have F := F hx4
  refine x_iload dX11_behindNamed_3 rfl ?_
  refine x_aload_n dX11_behindNamed_5 rfl ?_
  refine x_getr (r' := 54) flX11_30 dX11_behindNamed_6 (sW47 hW) (gW47 hW) (rW47_7 hW) rfl (Nat.le_of_ble_eq_true rfl) ?_
  refine x_iload_n dX11_behindNamed_9 rfl ?_
  obtain ⟨hi, F⟩ := F
  refine x_iald (e := (v 54 a1)) dX11_behindNamed_10 (sW54 hW) (gW54 hW) hi rfl ?_
  refine x_icmp_ge 68 dX11_behindNamed_11 rfl (fun hc => ?_) (fun hc => ?_)
  · have F := F.1 hc
    refine x_iconst dX11_behindNamed_68 rfl (i32_of rfl) ?_
    exact x_ret (some (0, (-1))) rfl ⟨dX11_behindNamed_69, Or.inl rfl⟩ F
  · have F := F.2 hc
    refine x_aload_n dX11_behindNamed_14 rfl ?_
    refine x_getr (r' := 55) flX11_33 dX11_behindNamed_15 (sW47 hW) (gW47 hW) (rW47_8 hW) rfl (Nat.le_of_ble_eq_true rfl) ?_
    refine x_iconst dX11_behindNamed_18 rfl (i32_of rfl) ?_
    refine x_iload_n dX11_behindNamed_19 rfl ?_
    obtain ⟨hz, F⟩ := F
    refine x_imul dX11_behindNamed_20 hz ?_
    refine x_iload dX11_behindNamed_21 rfl ?_
    refine x_si32 (i := 1) rfl (fun hk1 => ?_)
    obtain ⟨hz, F⟩ := F
    have hz := hz hk1
    refine x_iadd dX11_behindNamed_23 hz ?_
    obtain ⟨hi, F⟩ := F
    refine x_iald (e := (v 55 ((3 * a1) + x4))) dX11_behindNamed_24 (sW55 hW) (gW55 hW) hi rfl ?_
    refine x_iconst dX11_behindNamed_25 rfl (i32_of rfl) ?_
    refine x_icmp_eq 62 dX11_behindNamed_26 rfl (fun hc => ?_) (fun hc => ?_)
    · have F := F.1 hc
      obtain ⟨hz, F⟩ := F
      refine x_iinc [(2, 47), (0, a1), (1, a2), (3, 0), (0, (x4 + 1))] dX11_behindNamed_62 rfl rfl (Nat.le_of_ble_eq_true rfl) hz ?_
      refine x_goto 3 dX11_behindNamed_65 rfl ?_
      exact F
    · have F := F.2 hc
      refine x_aload_n dX11_behindNamed_29 rfl ?_
      refine x_getr (r' := 49) flX11_13 dX11_behindNamed_30 (sW47 hW) (gW47 hW) (rW47_2 hW) rfl (Nat.le_of_ble_eq_true rfl) ?_
      refine x_aload_n dX11_behindNamed_33 rfl ?_
      refine x_getr (r' := 55) flX11_33 dX11_behindNamed_34 (sW47 hW) (gW47 hW) (rW47_8 hW) rfl (Nat.le_of_ble_eq_true rfl) ?_
      refine x_iconst dX11_behindNamed_37 rfl (i32_of rfl) ?_
      refine x_iload_n dX11_behindNamed_38 rfl ?_
      obtain ⟨hz, F⟩ := F
      refine x_imul dX11_behindNamed_39 hz ?_
      refine x_iload dX11_behindNamed_40 rfl ?_
      refine x_si32 (i := 1) rfl (fun hk1 => ?_)
      obtain ⟨hz, F⟩ := F
      have hz := hz hk1
      refine x_iadd dX11_behindNamed_42 hz ?_
      obtain ⟨hi, F⟩ := F
      refine x_iald (e := (v 55 ((3 * a1) + x4))) dX11_behindNamed_43 (sW55 hW) (gW55 hW) hi rfl ?_
      obtain ⟨hi, F⟩ := F
      refine x_lald (e := (v 49 (v 55 ((3 * a1) + x4)))) dX11_behindNamed_44 (sW49 hW) (gW49 hW) hi rfl ?_
      refine x_lload_n dX11_behindNamed_45 rfl ?_
      refine x_lcmp dX11_behindNamed_46 (fun z1 hz11 hz12 hz13 => ?_)
      refine x_if_ne 62 dX11_behindNamed_47 rfl (fun hc => ?_) (fun hc => ?_)
      · have F := F.1 (fun q => hc (hz11.mpr q))
        obtain ⟨hz, F⟩ := F
        refine x_iinc [(2, 47), (0, a1), (1, a2), (3, 0), (0, (x4 + 1))] dX11_behindNamed_62 rfl rfl (Nat.le_of_ble_eq_true rfl) hz ?_
        refine x_goto 3 dX11_behindNamed_65 rfl ?_
        exact F
      · have F := F.2 (hz11.mp hc)
        refine x_aload_n dX11_behindNamed_50 rfl ?_
        refine x_getr (r' := 55) flX11_33 dX11_behindNamed_51 (sW47 hW) (gW47 hW) (rW47_8 hW) rfl (Nat.le_of_ble_eq_true rfl) ?_
        refine x_iconst dX11_behindNamed_54 rfl (i32_of rfl) ?_
        refine x_iload_n dX11_behindNamed_55 rfl ?_
        obtain ⟨hz, F⟩ := F
        refine x_imul dX11_behindNamed_56 hz ?_
        refine x_iload dX11_behindNamed_57 rfl ?_
        refine x_si32 (i := 1) rfl (fun hk1 => ?_)
        obtain ⟨hz, F⟩ := F
        have hz := hz hk1
        refine x_iadd dX11_behindNamed_59 hz ?_
        obtain ⟨hi, F⟩ := F
        refine x_iald (e := (v 55 ((3 * a1) + x4))) dX11_behindNamed_60 (sW55 hW) (gW55 hW) hi rfl ?_
        exact x_ret (some (0, (v 55 ((3 * a1) + x4)))) rfl ⟨dX11_behindNamed_61, Or.inl rfl⟩ F

set_option maxRecDepth 100000 in
set_option maxHeartbeats 4000000 in
theorem bX11_columnNamed_0 {d mc ms : Nat} {X : XX} {v : VV} {Q : QQ} (a1 : Int) (a2 : Int) (hd : 0 ≤ d) (hW : SW X) (F : i32 a1 → Ex mX11_columnNamed d 3 [(2, 47), (0, a1), (1, a2), (3, 0), (0, 0)] [] X v mc ms Q) : Ex mX11_columnNamed d 0 [(2, 47), (0, a1), (1, a2), (3, 0), (3, 0)] [] X v mc ms Q := by
  refine x_li32 (i := 1) rfl (fun ha1 => ?_)
  have F := F ha1
  refine x_iconst dX11_columnNamed_0 rfl (i32_of rfl) ?_
  refine x_istore [(2, 47), (0, a1), (1, a2), (3, 0), (0, 0)] dX11_columnNamed_1 rfl (Nat.le_of_ble_eq_true rfl) ?_
  exact F

set_option maxRecDepth 100000 in
set_option maxHeartbeats 4000000 in
theorem bX11_columnNamed_3 {d mc ms : Nat} {X : XX} {v : VV} {Q : QQ} (a1 : Int) (a2 : Int) (x4 : Int) (hd : 0 ≤ d) (hW : SW X) (F : i32 a1 → i32 x4 → (0 ≤ a1 ∧ a1 < 17) ∧ ((((v 51 a1) ≤ x4) → Q (some (0, (-1))) X v) ∧ ((x4 < (v 51 a1)) → i32 (8 * a1) ∧ (i32 (8 * a1) → i32 ((8 * a1) + x4)) ∧ (0 ≤ ((8 * a1) + x4) ∧ ((8 * a1) + x4) < 136) ∧ (((¬ (v 52 ((8 * a1) + x4)) = a2) → i32 (x4 + 1) ∧ Ex mX11_columnNamed d 3 [(2, 47), (0, a1), (1, a2), (3, 0), (0, (x4 + 1))] [] X v mc ms Q) ∧ (((v 52 ((8 * a1) + x4)) = a2) → Q (some (0, x4)) X v))))) : Ex mX11_columnNamed d 3 [(2, 47), (0, a1), (1, a2), (3, 0), (0, x4)] [] X v mc ms Q := by
  refine x_li32 (i := 1) rfl (fun ha1 => ?_)
  have F := F ha1
  refine x_li32 (i := 4) rfl (fun hx4 => ?_)
  have F := F hx4
  refine x_iload dX11_columnNamed_3 rfl ?_
  refine x_aload_n dX11_columnNamed_5 rfl ?_
  refine x_getr (r' := 51) flX11_21 dX11_columnNamed_6 (sW47 hW) (gW47 hW) (rW47_4 hW) rfl (Nat.le_of_ble_eq_true rfl) ?_
  refine x_iload_n dX11_columnNamed_9 rfl ?_
  obtain ⟨hi, F⟩ := F
  refine x_iald (e := (v 51 a1)) dX11_columnNamed_10 (sW51 hW) (gW51 hW) hi rfl ?_
  refine x_icmp_ge 40 dX11_columnNamed_11 rfl (fun hc => ?_) (fun hc => ?_)
  · have F := F.1 hc
    refine x_iconst dX11_columnNamed_40 rfl (i32_of rfl) ?_
    exact x_ret (some (0, (-1))) rfl ⟨dX11_columnNamed_41, Or.inl rfl⟩ F
  · have F := F.2 hc
    refine x_aload_n dX11_columnNamed_14 rfl ?_
    refine x_getr (r' := 52) flX11_24 dX11_columnNamed_15 (sW47 hW) (gW47 hW) (rW47_5 hW) rfl (Nat.le_of_ble_eq_true rfl) ?_
    refine x_bipush dX11_columnNamed_18 kb_8 (i32_of rfl) ?_
    refine x_iload_n dX11_columnNamed_20 rfl ?_
    obtain ⟨hz, F⟩ := F
    refine x_imul dX11_columnNamed_21 hz ?_
    refine x_iload dX11_columnNamed_22 rfl ?_
    refine x_si32 (i := 1) rfl (fun hk1 => ?_)
    obtain ⟨hz, F⟩ := F
    have hz := hz hk1
    refine x_iadd dX11_columnNamed_24 hz ?_
    obtain ⟨hi, F⟩ := F
    refine x_lald (e := (v 52 ((8 * a1) + x4))) dX11_columnNamed_25 (sW52 hW) (gW52 hW) hi rfl ?_
    refine x_lload_n dX11_columnNamed_26 rfl ?_
    refine x_lcmp dX11_columnNamed_27 (fun z1 hz11 hz12 hz13 => ?_)
    refine x_if_ne 34 dX11_columnNamed_28 rfl (fun hc => ?_) (fun hc => ?_)
    · have F := F.1 (fun q => hc (hz11.mpr q))
      obtain ⟨hz, F⟩ := F
      refine x_iinc [(2, 47), (0, a1), (1, a2), (3, 0), (0, (x4 + 1))] dX11_columnNamed_34 rfl rfl (Nat.le_of_ble_eq_true rfl) hz ?_
      refine x_goto 3 dX11_columnNamed_37 rfl ?_
      exact F
    · have F := F.2 (hz11.mp hc)
      refine x_iload dX11_columnNamed_31 rfl ?_
      exact x_ret (some (0, x4)) rfl ⟨dX11_columnNamed_33, Or.inl rfl⟩ F

set_option maxRecDepth 100000 in
set_option maxHeartbeats 4000000 in
theorem bX11_wrong_0 {d mc ms : Nat} {X : XX} {v : VV} {Q : QQ} (a1 : Int) (hd : 1 ≤ d) (hW : SW X) (F : i32 a1 → (i32 (v 47 50) → i32 ((v 47 50) + 1)) ∧ ((((v 47 52) = 0) → Q none X (upd2 v 47 50 ((v 47 50) + 1))) ∧ ((¬ (v 47 52) = 0) → ∃ P1 : Option AV → VV → Prop, Con mX11_means 0 0 0 [(2, 47), (0, 3), (0, a1)] X (upd2 v 47 50 ((v 47 50) + 1)) (fun o X1 v1 => X1 = X ∧ P1 o v1) ∧ ∀ (w3 : VV), P1 none w3 → Q none X w3))) : Ex mX11_wrong d 0 [(2, 47), (0, a1)] [] X v mc ms Q := by
  refine x_li32 (i := 1) rfl (fun ha1 => ?_)
  have F := F ha1
  refine x_aload_n dX11_wrong_0 rfl ?_
  refine x_dup dX11_wrong_1 (tag1 rfl) ?_
  refine x_geti (e := (v 47 50)) 0 flX11_255 dX11_wrong_2 (sW47 hW) (gW47 hW) rfl rfl (Nat.le_of_ble_eq_true rfl) (tagn2 rfl) ?_
  refine x_iconst dX11_wrong_5 rfl (i32_of rfl) ?_
  refine x_si32 (i := 1) rfl (fun hk1 => ?_)
  obtain ⟨hz, F⟩ := F
  have hz := hz hk1
  refine x_iadd dX11_wrong_6 hz ?_
  refine x_puti 0 fwX11_255 dX11_wrong_7 (sW47 hW) (gW47 hW) (fun h => Bool.noConfusion h) (Nat.le_of_ble_eq_true rfl) rfl (Or.inl ⟨rfl, Or.inl rfl⟩) ?_
  refine x_aload_n dX11_wrong_10 rfl ?_
  refine x_geti (e := (v 47 52)) 0 flX11_258 dX11_wrong_11 (sW47 hW) (gW47 hW) rfl rfl (Nat.le_of_ble_eq_true rfl) (tagn2 rfl) ?_
  refine x_if_eq 23 dX11_wrong_14 rfl (fun hc => ?_) (fun hc => ?_)
  · have F := F.1 hc
    exact x_ret none rfl ⟨dX11_wrong_23, rfl⟩ F
  · have F := F.2 hc
    refine x_aload_n dX11_wrong_17 rfl ?_
    refine x_iconst dX11_wrong_18 rfl (i32_of rfl) ?_
    refine x_iload_n dX11_wrong_19 rfl ?_
    obtain ⟨P1, hC, F⟩ := F
    refine x_inv dX11_wrong_20 mlX11_262 hC (sW47 hW) (Nat.le_of_ble_eq_true rfl) (gW47 hW) rfl rfl (by omega) (Nat.zero_le _) (Nat.zero_le _) (Nat.le_of_ble_eq_true rfl) (fun o1 Y4 w3 ht hP => ?_)
    obtain rfl : o1 = none := ht
    obtain ⟨rfl, hP⟩ := hP
    have F := F w3 hP
    exact x_ret none rfl ⟨dX11_wrong_23, rfl⟩ F

set_option maxRecDepth 100000 in
set_option maxHeartbeats 4000000 in
theorem bX11_comes_0 {d mc ms : Nat} {X : XX} {v : VV} {Q : QQ} (a1 : Int) (hd : 2 ≤ d) (hW : SW X) (F : i32 a1 → (0 ≤ (v 47 51) ∧ (v 47 51) < 4) ∧ (0 ≤ (v 47 51) ∧ (v 47 51) < 4) ∧ (0 ≤ (v 47 51) ∧ (v 47 51) < 4) ∧ (((¬ (v 73 (v 47 51)) = 0) → ((((v 72 (v 47 51)) = 0) → Ex mX11_comes d 57 [(2, 47), (0, a1), (0, (v 72 (v 47 51))), (0, (v 73 (v 47 51))), (3, 0), (3, 0)] [] X (upd2 v 73 (v 47 51) 0) mc ms Q) ∧ ((¬ (v 72 (v 47 51)) = 0) → (((a1 = 0) → Ex mX11_comes d 57 [(2, 47), (0, a1), (0, (v 72 (v 47 51))), (0, (v 73 (v 47 51))), (3, 0), (3, 0)] [] X (upd2 v 73 (v 47 51) 0) mc ms Q) ∧ ((¬ a1 = 0) → (((¬ (v 73 (v 47 51)) = 38) → (((¬ a1 = 110) → (((¬ (v 73 (v 47 51)) = 45) → Ex mX11_comes d 142 [(2, 47), (0, a1), (0, (v 72 (v 47 51))), (0, (v 73 (v 47 51))), (0, 1), (0, 0)] [] X (upd2 v 73 (v 47 51) 0) mc ms Q) ∧ (((v 73 (v 47 51)) = 45) → (((¬ (v 72 (v 47 51)) = 100) → Ex mX11_comes d 142 [(2, 47), (0, a1), (0, (v 72 (v 47 51))), (0, (v 73 (v 47 51))), (0, 1), (0, 0)] [] X (upd2 v 73 (v 47 51) 0) mc ms Q) ∧ (((v 72 (v 47 51)) = 100) → (((¬ a1 = 100) → Ex mX11_comes d 142 [(2, 47), (0, a1), (0, (v 72 (v 47 51))), (0, (v 73 (v 47 51))), (0, 1), (0, 0)] [] X (upd2 v 73 (v 47 51) 0) mc ms Q) ∧ ((a1 = 100) → Ex mX11_comes d 142 [(2, 47), (0, a1), (0, (v 72 (v 47 51))), (0, (v 73 (v 47 51))), (0, 1), (0, 110)] [] X (upd2 v 73 (v 47 51) 0) mc ms Q))))))) ∧ ((a1 = 110) → ((((v 72 (v 47 51)) = 110) → Ex mX11_comes d 110 [(2, 47), (0, a1), (0, (v 72 (v 47 51))), (0, (v 73 (v 47 51))), (0, 1), (0, 0)] [] X (upd2 v 73 (v 47 51) 0) mc ms Q) ∧ ((¬ (v 72 (v 47 51)) = 110) → (((¬ (v 72 (v 47 51)) = 100) → Ex mX11_comes d 142 [(2, 47), (0, a1), (0, (v 72 (v 47 51))), (0, (v 73 (v 47 51))), (0, 1), (0, 0)] [] X (upd2 v 73 (v 47 51) 0) mc ms Q) ∧ (((v 72 (v 47 51)) = 100) → Ex mX11_comes d 110 [(2, 47), (0, a1), (0, (v 72 (v 47 51))), (0, (v 73 (v 47 51))), (0, 1), (0, 0)] [] X (upd2 v 73 (v 47 51) 0) mc ms Q))))))) ∧ (((v 73 (v 47 51)) = 38) → (((¬ (v 72 (v 47 51)) = 116) → Ex mX11_comes d 86 [(2, 47), (0, a1), (0, (v 72 (v 47 51))), (0, (v 73 (v 47 51))), (0, 1), (0, 0)] [] X (upd2 v 73 (v 47 51) 0) mc ms Q) ∧ (((v 72 (v 47 51)) = 116) → (((¬ a1 = 116) → Ex mX11_comes d 86 [(2, 47), (0, a1), (0, (v 72 (v 47 51))), (0, (v 73 (v 47 51))), (0, 1), (0, 0)] [] X (upd2 v 73 (v 47 51) 0) mc ms Q) ∧ ((a1 = 116) → Ex mX11_comes d 142 [(2, 47), (0, a1), (0, (v 72 (v 47 51))), (0, (v 73 (v 47 51))), (0, 1), (0, 116)] [] X (upd2 v 73 (v 47 51) 0) mc ms Q))))))))))) ∧ (((v 73 (v 47 51)) = 0) → (0 ≤ (v 47 51) ∧ (v 47 51) < 4) ∧ Q none X (upd2 (upd2 v 73 (v 47 51) 0) 72 (v 47 51) a1)))) : Ex mX11_comes d 0 [(2, 47), (0, a1), (3, 0), (3, 0), (3, 0), (3, 0)] [] X v mc ms Q := by
  refine x_li32 (i := 1) rfl (fun ha1 => ?_)
  have F := F ha1
  refine x_aload_n dX11_comes_0 rfl ?_
  refine x_getr (r' := 72) flX11_114 dX11_comes_1 (sW47 hW) (gW47 hW) (rW47_45 hW) rfl (Nat.le_of_ble_eq_true rfl) ?_
  refine x_aload_n dX11_comes_4 rfl ?_
  refine x_geti (e := (v 47 51)) 0 flX11_265 dX11_comes_5 (sW47 hW) (gW47 hW) rfl rfl (Nat.le_of_ble_eq_true rfl) (tagn2 rfl) ?_
  obtain ⟨hi, F⟩ := F
  refine x_iald (e := (v 72 (v 47 51))) dX11_comes_8 (sW72 hW) (gW72 hW) hi rfl ?_
  refine x_istore_n [(2, 47), (0, a1), (0, (v 72 (v 47 51))), (3, 0), (3, 0), (3, 0)] dX11_comes_9 rfl (Nat.le_of_ble_eq_true rfl) ?_
  refine x_aload_n dX11_comes_10 rfl ?_
  refine x_getr (r' := 73) flX11_117 dX11_comes_11 (sW47 hW) (gW47 hW) (rW47_46 hW) rfl (Nat.le_of_ble_eq_true rfl) ?_
  refine x_aload_n dX11_comes_14 rfl ?_
  refine x_geti (e := (v 47 51)) 0 flX11_265 dX11_comes_15 (sW47 hW) (gW47 hW) rfl rfl (Nat.le_of_ble_eq_true rfl) (tagn2 rfl) ?_
  obtain ⟨hi, F⟩ := F
  refine x_iald (e := (v 73 (v 47 51))) dX11_comes_18 (sW73 hW) (gW73 hW) hi rfl ?_
  refine x_istore_n [(2, 47), (0, a1), (0, (v 72 (v 47 51))), (0, (v 73 (v 47 51))), (3, 0), (3, 0)] dX11_comes_19 rfl (Nat.le_of_ble_eq_true rfl) ?_
  refine x_aload_n dX11_comes_20 rfl ?_
  refine x_getr (r' := 73) flX11_117 dX11_comes_21 (sW47 hW) (gW47 hW) (rW47_46 hW) rfl (Nat.le_of_ble_eq_true rfl) ?_
  refine x_aload_n dX11_comes_24 rfl ?_
  refine x_geti (e := (v 47 51)) 0 flX11_265 dX11_comes_25 (sW47 hW) (gW47 hW) rfl rfl (Nat.le_of_ble_eq_true rfl) (tagn2 rfl) ?_
  refine x_iconst dX11_comes_28 rfl (i32_of rfl) ?_
  obtain ⟨hi, F⟩ := F
  refine x_iast dX11_comes_29 (sW73 hW) (gW73 hW) hi ?_
  refine x_iload_n dX11_comes_30 rfl ?_
  refine x_if_ne 45 dX11_comes_31 rfl (fun hc => ?_) (fun hc => ?_)
  · have F := F.1 hc
    refine x_iload_n dX11_comes_45 rfl ?_
    refine x_if_eq 57 dX11_comes_46 rfl (fun hc => ?_) (fun hc => ?_)
    · have F := F.1 hc
      exact F
    · have F := F.2 hc
      refine x_iload_n dX11_comes_49 rfl ?_
      refine x_if_eq 57 dX11_comes_50 rfl (fun hc => ?_) (fun hc => ?_)
      · have F := F.1 hc
        exact F
      · have F := F.2 hc
        refine x_iconst dX11_comes_53 rfl (i32_of rfl) ?_
        refine x_goto 58 dX11_comes_54 rfl ?_
        refine x_istore [(2, 47), (0, a1), (0, (v 72 (v 47 51))), (0, (v 73 (v 47 51))), (0, 1), (3, 0)] dX11_comes_58 rfl (Nat.le_of_ble_eq_true rfl) ?_
        refine x_iconst dX11_comes_60 rfl (i32_of rfl) ?_
        refine x_istore [(2, 47), (0, a1), (0, (v 72 (v 47 51))), (0, (v 73 (v 47 51))), (0, 1), (0, 0)] dX11_comes_61 rfl (Nat.le_of_ble_eq_true rfl) ?_
        refine x_iload_n dX11_comes_63 rfl ?_
        refine x_bipush dX11_comes_64 kb_38 (i32_of rfl) ?_
        refine x_icmp_ne 92 dX11_comes_66 rfl (fun hc => ?_) (fun hc => ?_)
        · have F := F.1 hc
          refine x_iload_n dX11_comes_92 rfl ?_
          refine x_bipush dX11_comes_93 kb_110 (i32_of rfl) ?_
          refine x_icmp_ne 120 dX11_comes_95 rfl (fun hc => ?_) (fun hc => ?_)
          · have F := F.1 hc
            refine x_iload_n dX11_comes_120 rfl ?_
            refine x_bipush dX11_comes_121 kb_45 (i32_of rfl) ?_
            refine x_icmp_ne 142 dX11_comes_123 rfl (fun hc => ?_) (fun hc => ?_)
            · have F := F.1 hc
              exact F
            · have F := F.2 hc
              refine x_iload_n dX11_comes_126 rfl ?_
              refine x_bipush dX11_comes_127 kb_100 (i32_of rfl) ?_
              refine x_icmp_ne 142 dX11_comes_129 rfl (fun hc => ?_) (fun hc => ?_)
              · have F := F.1 hc
                exact F
              · have F := F.2 hc
                refine x_iload_n dX11_comes_132 rfl ?_
                refine x_bipush dX11_comes_133 kb_100 (i32_of rfl) ?_
                refine x_icmp_ne 142 dX11_comes_135 rfl (fun hc => ?_) (fun hc => ?_)
                · have F := F.1 hc
                  exact F
                · have F := F.2 hc
                  refine x_bipush dX11_comes_138 kb_110 (i32_of rfl) ?_
                  refine x_istore [(2, 47), (0, a1), (0, (v 72 (v 47 51))), (0, (v 73 (v 47 51))), (0, 1), (0, 110)] dX11_comes_140 rfl (Nat.le_of_ble_eq_true rfl) ?_
                  exact F
          · have F := F.2 hc
            refine x_iload_n dX11_comes_98 rfl ?_
            refine x_bipush dX11_comes_99 kb_110 (i32_of rfl) ?_
            refine x_icmp_eq 110 dX11_comes_101 rfl (fun hc => ?_) (fun hc => ?_)
            · have F := F.1 hc
              exact F
            · have F := F.2 hc
              refine x_iload_n dX11_comes_104 rfl ?_
              refine x_bipush dX11_comes_105 kb_100 (i32_of rfl) ?_
              refine x_icmp_ne 114 dX11_comes_107 rfl (fun hc => ?_) (fun hc => ?_)
              · have F := F.1 hc
                refine x_iconst dX11_comes_114 rfl (i32_of rfl) ?_
                refine x_istore [(2, 47), (0, a1), (0, (v 72 (v 47 51))), (0, (v 73 (v 47 51))), (0, 1), (0, 0)] dX11_comes_115 rfl (Nat.le_of_ble_eq_true rfl) ?_
                refine x_goto 142 dX11_comes_117 rfl ?_
                exact F
              · have F := F.2 hc
                exact F
        · have F := F.2 hc
          refine x_iload_n dX11_comes_69 rfl ?_
          refine x_bipush dX11_comes_70 kb_116 (i32_of rfl) ?_
          refine x_icmp_ne 86 dX11_comes_72 rfl (fun hc => ?_) (fun hc => ?_)
          · have F := F.1 hc
            exact F
          · have F := F.2 hc
            refine x_iload_n dX11_comes_75 rfl ?_
            refine x_bipush dX11_comes_76 kb_116 (i32_of rfl) ?_
            refine x_icmp_ne 86 dX11_comes_78 rfl (fun hc => ?_) (fun hc => ?_)
            · have F := F.1 hc
              exact F
            · have F := F.2 hc
              refine x_bipush dX11_comes_81 kb_116 (i32_of rfl) ?_
              refine x_goto 87 dX11_comes_83 rfl ?_
              refine x_istore [(2, 47), (0, a1), (0, (v 72 (v 47 51))), (0, (v 73 (v 47 51))), (0, 1), (0, 116)] dX11_comes_87 rfl (Nat.le_of_ble_eq_true rfl) ?_
              refine x_goto 142 dX11_comes_89 rfl ?_
              exact F
  · have F := F.2 hc
    refine x_aload_n dX11_comes_34 rfl ?_
    refine x_getr (r' := 72) flX11_114 dX11_comes_35 (sW47 hW) (gW47 hW) (rW47_45 hW) rfl (Nat.le_of_ble_eq_true rfl) ?_
    refine x_aload_n dX11_comes_38 rfl ?_
    refine x_geti (e := (v 47 51)) 0 flX11_265 dX11_comes_39 (sW47 hW) (gW47 hW) rfl rfl (Nat.le_of_ble_eq_true rfl) (tagn2 rfl) ?_
    refine x_iload_n dX11_comes_42 rfl ?_
    obtain ⟨hi, F⟩ := F
    refine x_iast dX11_comes_43 (sW72 hW) (gW72 hW) hi ?_
    exact x_ret none rfl ⟨dX11_comes_44, rfl⟩ F

set_option maxRecDepth 100000 in
set_option maxHeartbeats 4000000 in
theorem bX11_comes_57 {d mc ms : Nat} {X : XX} {v : VV} {Q : QQ} (a1 : Int) (x2 : Int) (x3 : Int) (hd : 2 ≤ d) (hW : SW X) (F : i32 a1 → i32 x2 → i32 x3 → (((¬ x3 = 38) → (((¬ a1 = 110) → (((¬ x3 = 45) → Ex mX11_comes d 142 [(2, 47), (0, a1), (0, x2), (0, x3), (0, 0), (0, 0)] [] X v mc ms Q) ∧ ((x3 = 45) → (((¬ x2 = 100) → Ex mX11_comes d 142 [(2, 47), (0, a1), (0, x2), (0, x3), (0, 0), (0, 0)] [] X v mc ms Q) ∧ ((x2 = 100) → (((¬ a1 = 100) → Ex mX11_comes d 142 [(2, 47), (0, a1), (0, x2), (0, x3), (0, 0), (0, 0)] [] X v mc ms Q) ∧ ((a1 = 100) → Ex mX11_comes d 142 [(2, 47), (0, a1), (0, x2), (0, x3), (0, 0), (0, 110)] [] X v mc ms Q))))))) ∧ ((a1 = 110) → (((x2 = 110) → Ex mX11_comes d 110 [(2, 47), (0, a1), (0, x2), (0, x3), (0, 0), (0, 0)] [] X v mc ms Q) ∧ ((¬ x2 = 110) → (((¬ x2 = 100) → Ex mX11_comes d 142 [(2, 47), (0, a1), (0, x2), (0, x3), (0, 0), (0, 0)] [] X v mc ms Q) ∧ ((x2 = 100) → Ex mX11_comes d 110 [(2, 47), (0, a1), (0, x2), (0, x3), (0, 0), (0, 0)] [] X v mc ms Q))))))) ∧ ((x3 = 38) → (((¬ x2 = 116) → Ex mX11_comes d 86 [(2, 47), (0, a1), (0, x2), (0, x3), (0, 0), (0, 0)] [] X v mc ms Q) ∧ ((x2 = 116) → (((¬ a1 = 116) → Ex mX11_comes d 86 [(2, 47), (0, a1), (0, x2), (0, x3), (0, 0), (0, 0)] [] X v mc ms Q) ∧ ((a1 = 116) → Ex mX11_comes d 142 [(2, 47), (0, a1), (0, x2), (0, x3), (0, 0), (0, 116)] [] X v mc ms Q))))))) : Ex mX11_comes d 57 [(2, 47), (0, a1), (0, x2), (0, x3), (3, 0), (3, 0)] [] X v mc ms Q := by
  refine x_li32 (i := 1) rfl (fun ha1 => ?_)
  have F := F ha1
  refine x_li32 (i := 2) rfl (fun hx2 => ?_)
  have F := F hx2
  refine x_li32 (i := 3) rfl (fun hx3 => ?_)
  have F := F hx3
  refine x_iconst dX11_comes_57 rfl (i32_of rfl) ?_
  refine x_istore [(2, 47), (0, a1), (0, x2), (0, x3), (0, 0), (3, 0)] dX11_comes_58 rfl (Nat.le_of_ble_eq_true rfl) ?_
  refine x_iconst dX11_comes_60 rfl (i32_of rfl) ?_
  refine x_istore [(2, 47), (0, a1), (0, x2), (0, x3), (0, 0), (0, 0)] dX11_comes_61 rfl (Nat.le_of_ble_eq_true rfl) ?_
  refine x_iload_n dX11_comes_63 rfl ?_
  refine x_bipush dX11_comes_64 kb_38 (i32_of rfl) ?_
  refine x_icmp_ne 92 dX11_comes_66 rfl (fun hc => ?_) (fun hc => ?_)
  · have F := F.1 hc
    refine x_iload_n dX11_comes_92 rfl ?_
    refine x_bipush dX11_comes_93 kb_110 (i32_of rfl) ?_
    refine x_icmp_ne 120 dX11_comes_95 rfl (fun hc => ?_) (fun hc => ?_)
    · have F := F.1 hc
      refine x_iload_n dX11_comes_120 rfl ?_
      refine x_bipush dX11_comes_121 kb_45 (i32_of rfl) ?_
      refine x_icmp_ne 142 dX11_comes_123 rfl (fun hc => ?_) (fun hc => ?_)
      · have F := F.1 hc
        exact F
      · have F := F.2 hc
        refine x_iload_n dX11_comes_126 rfl ?_
        refine x_bipush dX11_comes_127 kb_100 (i32_of rfl) ?_
        refine x_icmp_ne 142 dX11_comes_129 rfl (fun hc => ?_) (fun hc => ?_)
        · have F := F.1 hc
          exact F
        · have F := F.2 hc
          refine x_iload_n dX11_comes_132 rfl ?_
          refine x_bipush dX11_comes_133 kb_100 (i32_of rfl) ?_
          refine x_icmp_ne 142 dX11_comes_135 rfl (fun hc => ?_) (fun hc => ?_)
          · have F := F.1 hc
            exact F
          · have F := F.2 hc
            refine x_bipush dX11_comes_138 kb_110 (i32_of rfl) ?_
            refine x_istore [(2, 47), (0, a1), (0, x2), (0, x3), (0, 0), (0, 110)] dX11_comes_140 rfl (Nat.le_of_ble_eq_true rfl) ?_
            exact F
    · have F := F.2 hc
      refine x_iload_n dX11_comes_98 rfl ?_
      refine x_bipush dX11_comes_99 kb_110 (i32_of rfl) ?_
      refine x_icmp_eq 110 dX11_comes_101 rfl (fun hc => ?_) (fun hc => ?_)
      · have F := F.1 hc
        exact F
      · have F := F.2 hc
        refine x_iload_n dX11_comes_104 rfl ?_
        refine x_bipush dX11_comes_105 kb_100 (i32_of rfl) ?_
        refine x_icmp_ne 114 dX11_comes_107 rfl (fun hc => ?_) (fun hc => ?_)
        · have F := F.1 hc
          refine x_iconst dX11_comes_114 rfl (i32_of rfl) ?_
          refine x_istore [(2, 47), (0, a1), (0, x2), (0, x3), (0, 0), (0, 0)] dX11_comes_115 rfl (Nat.le_of_ble_eq_true rfl) ?_
          refine x_goto 142 dX11_comes_117 rfl ?_
          exact F
        · have F := F.2 hc
          exact F
  · have F := F.2 hc
    refine x_iload_n dX11_comes_69 rfl ?_
    refine x_bipush dX11_comes_70 kb_116 (i32_of rfl) ?_
    refine x_icmp_ne 86 dX11_comes_72 rfl (fun hc => ?_) (fun hc => ?_)
    · have F := F.1 hc
      exact F
    · have F := F.2 hc
      refine x_iload_n dX11_comes_75 rfl ?_
      refine x_bipush dX11_comes_76 kb_116 (i32_of rfl) ?_
      refine x_icmp_ne 86 dX11_comes_78 rfl (fun hc => ?_) (fun hc => ?_)
      · have F := F.1 hc
        exact F
      · have F := F.2 hc
        refine x_bipush dX11_comes_81 kb_116 (i32_of rfl) ?_
        refine x_goto 87 dX11_comes_83 rfl ?_
        refine x_istore [(2, 47), (0, a1), (0, x2), (0, x3), (0, 0), (0, 116)] dX11_comes_87 rfl (Nat.le_of_ble_eq_true rfl) ?_
        refine x_goto 142 dX11_comes_89 rfl ?_
        exact F

set_option maxRecDepth 100000 in
set_option maxHeartbeats 4000000 in
theorem bX11_comes_86 {d mc ms : Nat} {X : XX} {v : VV} {Q : QQ} (a1 : Int) (x2 : Int) (x3 : Int) (x4 : Int) (x5 : Int) (hd : 2 ≤ d) (hW : SW X) (F : i32 a1 → i32 x2 → i32 x3 → i32 x4 → i32 x5 → Ex mX11_comes d 142 [(2, 47), (0, a1), (0, x2), (0, x3), (0, x4), (0, 0)] [] X v mc ms Q) : Ex mX11_comes d 86 [(2, 47), (0, a1), (0, x2), (0, x3), (0, x4), (0, x5)] [] X v mc ms Q := by
  refine x_li32 (i := 1) rfl (fun ha1 => ?_)
  have F := F ha1
  refine x_li32 (i := 2) rfl (fun hx2 => ?_)
  have F := F hx2
  refine x_li32 (i := 3) rfl (fun hx3 => ?_)
  have F := F hx3
  refine x_li32 (i := 4) rfl (fun hx4 => ?_)
  have F := F hx4
  refine x_li32 (i := 5) rfl (fun hx5 => ?_)
  have F := F hx5
  refine x_iconst dX11_comes_86 rfl (i32_of rfl) ?_
  refine x_istore [(2, 47), (0, a1), (0, x2), (0, x3), (0, x4), (0, 0)] dX11_comes_87 rfl (Nat.le_of_ble_eq_true rfl) ?_
  refine x_goto 142 dX11_comes_89 rfl ?_
  exact F

set_option maxRecDepth 100000 in
set_option maxHeartbeats 4000000 in
theorem bX11_comes_110 {d mc ms : Nat} {X : XX} {v : VV} {Q : QQ} (a1 : Int) (x2 : Int) (x3 : Int) (x4 : Int) (x5 : Int) (hd : 2 ≤ d) (hW : SW X) (F : i32 a1 → i32 x2 → i32 x3 → i32 x4 → i32 x5 → Ex mX11_comes d 142 [(2, 47), (0, a1), (0, x2), (0, x3), (0, x4), (0, x2)] [] X v mc ms Q) : Ex mX11_comes d 110 [(2, 47), (0, a1), (0, x2), (0, x3), (0, x4), (0, x5)] [] X v mc ms Q := by
  refine x_li32 (i := 1) rfl (fun ha1 => ?_)
  have F := F ha1
  refine x_li32 (i := 2) rfl (fun hx2 => ?_)
  have F := F hx2
  refine x_li32 (i := 3) rfl (fun hx3 => ?_)
  have F := F hx3
  refine x_li32 (i := 4) rfl (fun hx4 => ?_)
  have F := F hx4
  refine x_li32 (i := 5) rfl (fun hx5 => ?_)
  have F := F hx5
  refine x_iload_n dX11_comes_110 rfl ?_
  refine x_goto 115 dX11_comes_111 rfl ?_
  refine x_istore [(2, 47), (0, a1), (0, x2), (0, x3), (0, x4), (0, x2)] dX11_comes_115 rfl (Nat.le_of_ble_eq_true rfl) ?_
  refine x_goto 142 dX11_comes_117 rfl ?_
  exact F

set_option maxRecDepth 100000 in
set_option maxHeartbeats 4000000 in
theorem bX11_comes_142 {d mc ms : Nat} {X : XX} {v : VV} {Q : QQ} (a1 : Int) (x2 : Int) (x3 : Int) (x4 : Int) (x5 : Int) (hd : 2 ≤ d) (hW : SW X) (F : i32 a1 → i32 x2 → i32 x3 → i32 x4 → i32 x5 → (((x4 = 0) → Ex mX11_comes d 165 [(2, 47), (0, a1), (0, x2), (0, x3), (0, x4), (0, x5)] [] X v mc ms Q) ∧ ((¬ x4 = 0) → (((¬ x5 = 0) → Ex mX11_comes d 165 [(2, 47), (0, a1), (0, x2), (0, x3), (0, x4), (0, x5)] [] X v mc ms Q) ∧ ((x5 = 0) → (0 ≤ (v 47 51) ∧ (v 47 51) < 4) ∧ ∃ P1 : Option AV → VV → Prop, Con mX11_wrong 1 0 0 [(2, 47), (0, (v 74 (v 47 51)))] X v (fun o X1 v1 => X1 = X ∧ P1 o v1) ∧ ∀ (w3 : VV), P1 none w3 → Ex mX11_comes d 165 [(2, 47), (0, a1), (0, x2), (0, x3), (0, x4), (0, x5)] [] X w3 mc ms Q))))) : Ex mX11_comes d 142 [(2, 47), (0, a1), (0, x2), (0, x3), (0, x4), (0, x5)] [] X v mc ms Q := by
  refine x_li32 (i := 1) rfl (fun ha1 => ?_)
  have F := F ha1
  refine x_li32 (i := 2) rfl (fun hx2 => ?_)
  have F := F hx2
  refine x_li32 (i := 3) rfl (fun hx3 => ?_)
  have F := F hx3
  refine x_li32 (i := 4) rfl (fun hx4 => ?_)
  have F := F hx4
  refine x_li32 (i := 5) rfl (fun hx5 => ?_)
  have F := F hx5
  refine x_iload dX11_comes_142 rfl ?_
  refine x_if_eq 165 dX11_comes_144 rfl (fun hc => ?_) (fun hc => ?_)
  · have F := F.1 hc
    exact F
  · have F := F.2 hc
    refine x_iload dX11_comes_147 rfl ?_
    refine x_if_ne 165 dX11_comes_149 rfl (fun hc => ?_) (fun hc => ?_)
    · have F := F.1 hc
      exact F
    · have F := F.2 hc
      refine x_aload_n dX11_comes_152 rfl ?_
      refine x_aload_n dX11_comes_153 rfl ?_
      refine x_getr (r' := 74) flX11_120 dX11_comes_154 (sW47 hW) (gW47 hW) (rW47_47 hW) rfl (Nat.le_of_ble_eq_true rfl) ?_
      refine x_aload_n dX11_comes_157 rfl ?_
      refine x_geti (e := (v 47 51)) 0 flX11_265 dX11_comes_158 (sW47 hW) (gW47 hW) rfl rfl (Nat.le_of_ble_eq_true rfl) (tagn2 rfl) ?_
      obtain ⟨hi, F⟩ := F
      refine x_iald (e := (v 74 (v 47 51))) dX11_comes_161 (sW74 hW) (gW74 hW) hi rfl ?_
      obtain ⟨P1, hC, F⟩ := F
      refine x_inv dX11_comes_162 mlX11_268 hC (sW47 hW) (Nat.le_of_ble_eq_true rfl) (gW47 hW) rfl rfl (by omega) (Nat.zero_le _) (Nat.zero_le _) (Nat.le_of_ble_eq_true rfl) (fun o1 Y4 w3 ht hP => ?_)
      obtain rfl : o1 = none := ht
      obtain ⟨rfl, hP⟩ := hP
      have F := F w3 hP
      exact F

set_option maxRecDepth 100000 in
set_option maxHeartbeats 4000000 in
theorem bX11_comes_165 {d mc ms : Nat} {X : XX} {v : VV} {Q : QQ} (a1 : Int) (x2 : Int) (x3 : Int) (x4 : Int) (x5 : Int) (hd : 2 ≤ d) (hW : SW X) (F : i32 a1 → i32 x2 → i32 x3 → i32 x4 → i32 x5 → (0 ≤ (v 47 51) ∧ (v 47 51) < 4) ∧ Q none X (upd2 v 72 (v 47 51) x5)) : Ex mX11_comes d 165 [(2, 47), (0, a1), (0, x2), (0, x3), (0, x4), (0, x5)] [] X v mc ms Q := by
  refine x_li32 (i := 1) rfl (fun ha1 => ?_)
  have F := F ha1
  refine x_li32 (i := 2) rfl (fun hx2 => ?_)
  have F := F hx2
  refine x_li32 (i := 3) rfl (fun hx3 => ?_)
  have F := F hx3
  refine x_li32 (i := 4) rfl (fun hx4 => ?_)
  have F := F hx4
  refine x_li32 (i := 5) rfl (fun hx5 => ?_)
  have F := F hx5
  refine x_aload_n dX11_comes_165 rfl ?_
  refine x_getr (r' := 72) flX11_114 dX11_comes_166 (sW47 hW) (gW47 hW) (rW47_45 hW) rfl (Nat.le_of_ble_eq_true rfl) ?_
  refine x_aload_n dX11_comes_169 rfl ?_
  refine x_geti (e := (v 47 51)) 0 flX11_265 dX11_comes_170 (sW47 hW) (gW47 hW) rfl rfl (Nat.le_of_ble_eq_true rfl) (tagn2 rfl) ?_
  refine x_iload dX11_comes_173 rfl ?_
  obtain ⟨hi, F⟩ := F
  refine x_iast dX11_comes_175 (sW72 hW) (gW72 hW) hi ?_
  exact x_ret none rfl ⟨dX11_comes_176, rfl⟩ F

set_option maxRecDepth 100000 in
set_option maxHeartbeats 4000000 in
theorem bX11_typeOf_0 {d mc ms : Nat} {X : XX} {v : VV} {Q : QQ} (a1 : Int) (a2 : Int) (hd : 3 ≤ d) (hW : SW X) (F : i32 a1 → i32 a2 → i32 (8 * a1) ∧ (i32 (8 * a1) → i32 ((8 * a1) + a2)) ∧ (0 ≤ ((8 * a1) + a2) ∧ ((8 * a1) + a2) < 136) ∧ Ex mX11_typeOf d 31 [(2, 47), (0, a1), (0, a2), (0, (v 65 ((8 * a1) + a2))), (3, 0), (3, 0), (3, 0)] [] X (upd2 (upd2 (upd2 v 47 51 0) 72 0 0) 73 0 0) mc ms Q) : Ex mX11_typeOf d 0 [(2, 47), (0, a1), (0, a2), (3, 0), (3, 0), (3, 0), (3, 0)] [] X v mc ms Q := by
  refine x_li32 (i := 1) rfl (fun ha1 => ?_)
  have F := F ha1
  refine x_li32 (i := 2) rfl (fun ha2 => ?_)
  have F := F ha2
  refine x_aload_n dX11_typeOf_0 rfl ?_
  refine x_iconst dX11_typeOf_1 rfl (i32_of rfl) ?_
  refine x_puti 0 fwX11_265 dX11_typeOf_2 (sW47 hW) (gW47 hW) (fun h => Bool.noConfusion h) (Nat.le_of_ble_eq_true rfl) rfl (Or.inl ⟨rfl, Or.inl rfl⟩) ?_
  refine x_aload_n dX11_typeOf_5 rfl ?_
  refine x_getr (r' := 72) flX11_114 dX11_typeOf_6 (sW47 hW) (gW47 hW) (rW47_45 hW) rfl (Nat.le_of_ble_eq_true rfl) ?_
  refine x_iconst dX11_typeOf_9 rfl (i32_of rfl) ?_
  refine x_iconst dX11_typeOf_10 rfl (i32_of rfl) ?_
  refine x_iast dX11_typeOf_11 (sW72 hW) (gW72 hW) ⟨by decide, by decide⟩ ?_
  refine x_aload_n dX11_typeOf_12 rfl ?_
  refine x_getr (r' := 73) flX11_117 dX11_typeOf_13 (sW47 hW) (gW47 hW) (rW47_46 hW) rfl (Nat.le_of_ble_eq_true rfl) ?_
  refine x_iconst dX11_typeOf_16 rfl (i32_of rfl) ?_
  refine x_iconst dX11_typeOf_17 rfl (i32_of rfl) ?_
  refine x_iast dX11_typeOf_18 (sW73 hW) (gW73 hW) ⟨by decide, by decide⟩ ?_
  refine x_aload_n dX11_typeOf_19 rfl ?_
  refine x_getr (r' := 65) flX11_63 dX11_typeOf_20 (sW47 hW) (gW47 hW) (rW47_18 hW) rfl (Nat.le_of_ble_eq_true rfl) ?_
  refine x_bipush dX11_typeOf_23 kb_8 (i32_of rfl) ?_
  refine x_iload_n dX11_typeOf_25 rfl ?_
  obtain ⟨hz, F⟩ := F
  refine x_imul dX11_typeOf_26 hz ?_
  refine x_iload_n dX11_typeOf_27 rfl ?_
  refine x_si32 (i := 1) rfl (fun hk1 => ?_)
  obtain ⟨hz, F⟩ := F
  have hz := hz hk1
  refine x_iadd dX11_typeOf_28 hz ?_
  obtain ⟨hi, F⟩ := F
  refine x_iald (e := (v 65 ((8 * a1) + a2))) dX11_typeOf_29 (sW65 hW) (gW65 hW) hi rfl ?_
  refine x_istore_n [(2, 47), (0, a1), (0, a2), (0, (v 65 ((8 * a1) + a2))), (3, 0), (3, 0), (3, 0)] dX11_typeOf_30 rfl (Nat.le_of_ble_eq_true rfl) ?_
  exact F

set_option maxRecDepth 100000 in
set_option maxHeartbeats 4000000 in
theorem bX11_typeOf_31 {d mc ms : Nat} {X : XX} {v : VV} {Q : QQ} (a1 : Int) (a2 : Int) (x3 : Int) (hd : 3 ≤ d) (hW : SW X) (F : i32 a1 → i32 a2 → i32 x3 → i32 (8 * a1) ∧ (i32 (8 * a1) → i32 ((8 * a1) + a2)) ∧ (0 ≤ ((8 * a1) + a2) ∧ ((8 * a1) + a2) < 136) ∧ ((((v 66 ((8 * a1) + a2)) ≤ x3) → Q (some (0, (v 72 0))) X v) ∧ ((x3 < (v 66 ((8 * a1) + a2))) → i32 (400 * a1) ∧ (i32 (400 * a1) → i32 ((400 * a1) + x3)) ∧ (0 ≤ ((400 * a1) + x3) ∧ ((400 * a1) + x3) < 6800) ∧ (((¬ (v 61 ((400 * a1) + x3)) = 2) → (0 ≤ ((400 * a1) + x3) ∧ ((400 * a1) + x3) < 6800) ∧ (((¬ (v 61 ((400 * a1) + x3)) = 3) → (0 ≤ ((400 * a1) + x3) ∧ ((400 * a1) + x3) < 6800) ∧ (((¬ (v 61 ((400 * a1) + x3)) = 1) → Ex mX11_typeOf d 202 [(2, 47), (0, a1), (0, a2), (0, x3), (0, ((400 * a1) + x3)), (3, 0), (3, 0)] [] X v mc ms Q) ∧ (((v 61 ((400 * a1) + x3)) = 1) → (i32 ((400 * a1) + x3) → i32 (((400 * a1) + x3) + 1)) ∧ (0 ≤ (((400 * a1) + x3) + 1) ∧ (((400 * a1) + x3) + 1) < 6800) ∧ (((¬ (v 61 (((400 * a1) + x3) + 1)) = 40) → Ex mX11_typeOf d 202 [(2, 47), (0, a1), (0, a2), (0, x3), (0, ((400 * a1) + x3)), (3, 0), (3, 0)] [] X v mc ms Q) ∧ (((v 61 (((400 * a1) + x3) + 1)) = 40) → (i32 (v 47 51) → i32 ((v 47 51) + 1)) ∧ (0 ≤ ((v 47 51) + 1) ∧ ((v 47 51) + 1) < 4) ∧ (0 ≤ ((v 47 51) + 1) ∧ ((v 47 51) + 1) < 4) ∧ ∃ P1 : Option AV → VV → Prop, Con mX11_wordOf 0 0 0 [(2, 47), (0, a1), (0, x3)] X (upd2 (upd2 (upd2 v 47 51 ((v 47 51) + 1)) 72 ((v 47 51) + 1) 0) 73 ((v 47 51) + 1) 0) (fun o X1 v1 => X1 = X ∧ P1 o v1) ∧ ∀ (r2 : Int) (w3 : VV), P1 (some (1, r2)) w3 → (((¬ r2 = (w3 47 38)) → (0 ≤ ((v 47 51) + 1) ∧ ((v 47 51) + 1) < 4) ∧ (0 ≤ ((400 * a1) + x3) ∧ ((400 * a1) + x3) < 6800) ∧ (0 ≤ (w3 47 51) ∧ (w3 47 51) < 4) ∧ i32 (x3 + 1) ∧ i32 ((x3 + 1) + 1) ∧ Ex mX11_typeOf d 31 [(2, 47), (0, a1), (0, a2), (0, ((x3 + 1) + 1)), (3, 0), (3, 0), (3, 0)] [] X (upd2 (upd2 w3 75 ((v 47 51) + 1) 110) 76 (w3 47 51) (w3 62 ((400 * a1) + x3))) mc ms Q) ∧ ((r2 = (w3 47 38)) → (0 ≤ ((v 47 51) + 1) ∧ ((v 47 51) + 1) < 4) ∧ (0 ≤ ((400 * a1) + x3) ∧ ((400 * a1) + x3) < 6800) ∧ (0 ≤ (w3 47 51) ∧ (w3 47 51) < 4) ∧ i32 (x3 + 1) ∧ i32 ((x3 + 1) + 1) ∧ Ex mX11_typeOf d 31 [(2, 47), (0, a1), (0, a2), (0, ((x3 + 1) + 1)), (3, 0), (3, 0), (3, 0)] [] X (upd2 (upd2 w3 75 ((v 47 51) + 1) 116) 76 (w3 47 51) (w3 62 ((400 * a1) + x3))) mc ms Q))))))) ∧ (((v 61 ((400 * a1) + x3)) = 3) → ∃ P6 : Option AV → VV → Prop, Con mX11_comes 2 0 0 [(2, 47), (0, 116)] X v (fun o X1 v1 => X1 = X ∧ P6 o v1) ∧ ∀ (w8 : VV), P6 none w8 → i32 (x3 + 1) ∧ Ex mX11_typeOf d 31 [(2, 47), (0, a1), (0, a2), (0, (x3 + 1)), (3, 0), (3, 0), (3, 0)] [] X w8 mc ms Q))) ∧ (((v 61 ((400 * a1) + x3)) = 2) → ∃ P10 : Option AV → VV → Prop, Con mX11_comes 2 0 0 [(2, 47), (0, 110)] X v (fun o X1 v1 => X1 = X ∧ P10 o v1) ∧ ∀ (w12 : VV), P10 none w12 → i32 (x3 + 1) ∧ Ex mX11_typeOf d 31 [(2, 47), (0, a1), (0, a2), (0, (x3 + 1)), (3, 0), (3, 0), (3, 0)] [] X w12 mc ms Q))))) : Ex mX11_typeOf d 31 [(2, 47), (0, a1), (0, a2), (0, x3), (3, 0), (3, 0), (3, 0)] [] X v mc ms Q := by
  refine x_li32 (i := 1) rfl (fun ha1 => ?_)
  have F := F ha1
  refine x_li32 (i := 2) rfl (fun ha2 => ?_)
  have F := F ha2
  refine x_li32 (i := 3) rfl (fun hx3 => ?_)
  have F := F hx3
  refine x_iload_n dX11_typeOf_31 rfl ?_
  refine x_aload_n dX11_typeOf_32 rfl ?_
  refine x_getr (r' := 66) flX11_66 dX11_typeOf_33 (sW47 hW) (gW47 hW) (rW47_19 hW) rfl (Nat.le_of_ble_eq_true rfl) ?_
  refine x_bipush dX11_typeOf_36 kb_8 (i32_of rfl) ?_
  refine x_iload_n dX11_typeOf_38 rfl ?_
  obtain ⟨hz, F⟩ := F
  refine x_imul dX11_typeOf_39 hz ?_
  refine x_iload_n dX11_typeOf_40 rfl ?_
  refine x_si32 (i := 1) rfl (fun hk1 => ?_)
  obtain ⟨hz, F⟩ := F
  have hz := hz hk1
  refine x_iadd dX11_typeOf_41 hz ?_
  obtain ⟨hi, F⟩ := F
  refine x_iald (e := (v 66 ((8 * a1) + a2))) dX11_typeOf_42 (sW66 hW) (gW66 hW) hi rfl ?_
  refine x_icmp_ge 357 dX11_typeOf_43 rfl (fun hc => ?_) (fun hc => ?_)
  · have F := F.1 hc
    refine x_aload_n dX11_typeOf_357 rfl ?_
    refine x_getr (r' := 72) flX11_114 dX11_typeOf_358 (sW47 hW) (gW47 hW) (rW47_45 hW) rfl (Nat.le_of_ble_eq_true rfl) ?_
    refine x_iconst dX11_typeOf_361 rfl (i32_of rfl) ?_
    refine x_iald (e := (v 72 0)) dX11_typeOf_362 (sW72 hW) (gW72 hW) ⟨by decide, by decide⟩ rfl ?_
    exact x_ret (some (0, (v 72 0))) rfl ⟨dX11_typeOf_363, Or.inl rfl⟩ F
  · have F := F.2 hc
    refine x_sipush dX11_typeOf_46 ks_400 (i32_of rfl) ?_
    refine x_iload_n dX11_typeOf_49 rfl ?_
    obtain ⟨hz, F⟩ := F
    refine x_imul dX11_typeOf_50 hz ?_
    refine x_iload_n dX11_typeOf_51 rfl ?_
    refine x_si32 (i := 1) rfl (fun hk1 => ?_)
    obtain ⟨hz, F⟩ := F
    have hz := hz hk1
    refine x_iadd dX11_typeOf_52 hz ?_
    refine x_istore [(2, 47), (0, a1), (0, a2), (0, x3), (0, ((400 * a1) + x3)), (3, 0), (3, 0)] dX11_typeOf_53 rfl (Nat.le_of_ble_eq_true rfl) ?_
    refine x_aload_n dX11_typeOf_55 rfl ?_
    refine x_getr (r' := 61) flX11_51 dX11_typeOf_56 (sW47 hW) (gW47 hW) (rW47_14 hW) rfl (Nat.le_of_ble_eq_true rfl) ?_
    refine x_iload dX11_typeOf_59 rfl ?_
    obtain ⟨hi, F⟩ := F
    refine x_iald (e := (v 61 ((400 * a1) + x3))) dX11_typeOf_61 (sW61 hW) (gW61 hW) hi rfl ?_
    refine x_iconst dX11_typeOf_62 rfl (i32_of rfl) ?_
    refine x_icmp_ne 75 dX11_typeOf_63 rfl (fun hc => ?_) (fun hc => ?_)
    · have F := F.1 hc
      refine x_aload_n dX11_typeOf_75 rfl ?_
      refine x_getr (r' := 61) flX11_51 dX11_typeOf_76 (sW47 hW) (gW47 hW) (rW47_14 hW) rfl (Nat.le_of_ble_eq_true rfl) ?_
      refine x_iload dX11_typeOf_79 rfl ?_
      obtain ⟨hi, F⟩ := F
      refine x_iald (e := (v 61 ((400 * a1) + x3))) dX11_typeOf_81 (sW61 hW) (gW61 hW) hi rfl ?_
      refine x_iconst dX11_typeOf_82 rfl (i32_of rfl) ?_
      refine x_icmp_ne 95 dX11_typeOf_83 rfl (fun hc => ?_) (fun hc => ?_)
      · have F := F.1 hc
        refine x_aload_n dX11_typeOf_95 rfl ?_
        refine x_getr (r' := 61) flX11_51 dX11_typeOf_96 (sW47 hW) (gW47 hW) (rW47_14 hW) rfl (Nat.le_of_ble_eq_true rfl) ?_
        refine x_iload dX11_typeOf_99 rfl ?_
        obtain ⟨hi, F⟩ := F
        refine x_iald (e := (v 61 ((400 * a1) + x3))) dX11_typeOf_101 (sW61 hW) (gW61 hW) hi rfl ?_
        refine x_iconst dX11_typeOf_102 rfl (i32_of rfl) ?_
        refine x_icmp_ne 202 dX11_typeOf_103 rfl (fun hc => ?_) (fun hc => ?_)
        · have F := F.1 hc
          exact F
        · have F := F.2 hc
          refine x_aload_n dX11_typeOf_106 rfl ?_
          refine x_getr (r' := 61) flX11_51 dX11_typeOf_107 (sW47 hW) (gW47 hW) (rW47_14 hW) rfl (Nat.le_of_ble_eq_true rfl) ?_
          refine x_iload dX11_typeOf_110 rfl ?_
          refine x_iconst dX11_typeOf_112 rfl (i32_of rfl) ?_
          refine x_si32 (i := 1) rfl (fun hk1 => ?_)
          obtain ⟨hz, F⟩ := F
          have hz := hz hk1
          refine x_iadd dX11_typeOf_113 hz ?_
          obtain ⟨hi, F⟩ := F
          refine x_iald (e := (v 61 (((400 * a1) + x3) + 1))) dX11_typeOf_114 (sW61 hW) (gW61 hW) hi rfl ?_
          refine x_bipush dX11_typeOf_115 kb_40 (i32_of rfl) ?_
          refine x_icmp_ne 202 dX11_typeOf_117 rfl (fun hc => ?_) (fun hc => ?_)
          · have F := F.1 hc
            exact F
          · have F := F.2 hc
            refine x_aload_n dX11_typeOf_120 rfl ?_
            refine x_dup dX11_typeOf_121 (tag1 rfl) ?_
            refine x_geti (e := (v 47 51)) 0 flX11_265 dX11_typeOf_122 (sW47 hW) (gW47 hW) rfl rfl (Nat.le_of_ble_eq_true rfl) (tagn2 rfl) ?_
            refine x_iconst dX11_typeOf_125 rfl (i32_of rfl) ?_
            refine x_si32 (i := 1) rfl (fun hk1 => ?_)
            obtain ⟨hz, F⟩ := F
            have hz := hz hk1
            refine x_iadd dX11_typeOf_126 hz ?_
            refine x_puti 0 fwX11_265 dX11_typeOf_127 (sW47 hW) (gW47 hW) (fun h => Bool.noConfusion h) (Nat.le_of_ble_eq_true rfl) rfl (Or.inl ⟨rfl, Or.inl rfl⟩) ?_
            refine x_aload_n dX11_typeOf_130 rfl ?_
            refine x_getr (r' := 72) flX11_114 dX11_typeOf_131 (sW47 hW) (gW47 hW) (rW47_45 hW) rfl (Nat.le_of_ble_eq_true rfl) ?_
            refine x_aload_n dX11_typeOf_134 rfl ?_
            refine x_geti (e := ((v 47 51) + 1)) 0 flX11_265 dX11_typeOf_135 (sW47 hW) (gW47 hW) rfl rfl (Nat.le_of_ble_eq_true rfl) (tagn2 rfl) ?_
            refine x_iconst dX11_typeOf_138 rfl (i32_of rfl) ?_
            obtain ⟨hi, F⟩ := F
            refine x_iast dX11_typeOf_139 (sW72 hW) (gW72 hW) hi ?_
            refine x_aload_n dX11_typeOf_140 rfl ?_
            refine x_getr (r' := 73) flX11_117 dX11_typeOf_141 (sW47 hW) (gW47 hW) (rW47_46 hW) rfl (Nat.le_of_ble_eq_true rfl) ?_
            refine x_aload_n dX11_typeOf_144 rfl ?_
            refine x_geti (e := ((v 47 51) + 1)) 0 flX11_265 dX11_typeOf_145 (sW47 hW) (gW47 hW) rfl rfl (Nat.le_of_ble_eq_true rfl) (tagn2 rfl) ?_
            refine x_iconst dX11_typeOf_148 rfl (i32_of rfl) ?_
            obtain ⟨hi, F⟩ := F
            refine x_iast dX11_typeOf_149 (sW73 hW) (gW73 hW) hi ?_
            refine x_aload_n dX11_typeOf_150 rfl ?_
            refine x_getr (r' := 75) flX11_123 dX11_typeOf_151 (sW47 hW) (gW47 hW) (rW47_48 hW) rfl (Nat.le_of_ble_eq_true rfl) ?_
            refine x_aload_n dX11_typeOf_154 rfl ?_
            refine x_geti (e := ((v 47 51) + 1)) 0 flX11_265 dX11_typeOf_155 (sW47 hW) (gW47 hW) rfl rfl (Nat.le_of_ble_eq_true rfl) (tagn2 rfl) ?_
            refine x_aload_n dX11_typeOf_158 rfl ?_
            refine x_iload_n dX11_typeOf_159 rfl ?_
            refine x_iload_n dX11_typeOf_160 rfl ?_
            obtain ⟨P1, hC, F⟩ := F
            refine x_inv dX11_typeOf_161 mlX11_274 hC (sW47 hW) (Nat.le_of_ble_eq_true rfl) (gW47 hW) rfl rfl (by omega) (Nat.zero_le _) (Nat.zero_le _) (Nat.le_of_ble_eq_true rfl) (fun o1 Y4 w3 ht hP => ?_)
            obtain ⟨r2, rfl⟩ : ∃ i, o1 = some (1, i) := ht
            obtain ⟨rfl, hP⟩ := hP
            have F := F r2 w3 hP
            refine x_aload_n dX11_typeOf_164 rfl ?_
            refine x_geti (e := (w3 47 38)) 1 flX11_99 dX11_typeOf_165 (sW47 hW) (gW47 hW) rfl rfl (Nat.le_of_ble_eq_true rfl) (tagn2 rfl) ?_
            refine x_lcmp dX11_typeOf_168 (fun z5 hz51 hz52 hz53 => ?_)
            refine x_if_ne 177 dX11_typeOf_169 rfl (fun hc => ?_) (fun hc => ?_)
            · have F := F.1 (fun q => hc (hz51.mpr q))
              refine x_bipush dX11_typeOf_177 kb_110 (i32_of rfl) ?_
              obtain ⟨hi, F⟩ := F
              refine x_iast dX11_typeOf_179 (sW75 hW) (gW75 hW) hi ?_
              refine x_aload_n dX11_typeOf_180 rfl ?_
              refine x_getr (r' := 76) flX11_126 dX11_typeOf_181 (sW47 hW) (gW47 hW) (rW47_49 hW) rfl (Nat.le_of_ble_eq_true rfl) ?_
              refine x_aload_n dX11_typeOf_184 rfl ?_
              refine x_geti (e := (w3 47 51)) 0 flX11_265 dX11_typeOf_185 (sW47 hW) (gW47 hW) rfl rfl (Nat.le_of_ble_eq_true rfl) (tagn2 rfl) ?_
              refine x_aload_n dX11_typeOf_188 rfl ?_
              refine x_getr (r' := 62) flX11_54 dX11_typeOf_189 (sW47 hW) (gW47 hW) (rW47_15 hW) rfl (Nat.le_of_ble_eq_true rfl) ?_
              refine x_iload dX11_typeOf_192 rfl ?_
              obtain ⟨hi, F⟩ := F
              refine x_iald (e := (w3 62 ((400 * a1) + x3))) dX11_typeOf_194 (sW62 hW) (gW62 hW) hi rfl ?_
              obtain ⟨hi, F⟩ := F
              refine x_iast dX11_typeOf_195 (sW76 hW) (gW76 hW) hi ?_
              obtain ⟨hz, F⟩ := F
              refine x_iinc [(2, 47), (0, a1), (0, a2), (0, (x3 + 1)), (0, ((400 * a1) + x3)), (3, 0), (3, 0)] dX11_typeOf_196 rfl rfl (Nat.le_of_ble_eq_true rfl) hz ?_
              refine x_goto 351 dX11_typeOf_199 rfl ?_
              obtain ⟨hz, F⟩ := F
              refine x_iinc [(2, 47), (0, a1), (0, a2), (0, ((x3 + 1) + 1)), (0, ((400 * a1) + x3)), (3, 0), (3, 0)] dX11_typeOf_351 rfl rfl (Nat.le_of_ble_eq_true rfl) hz ?_
              refine x_goto 31 dX11_typeOf_354 rfl ?_
              exact x_less [(2, 47), (0, a1), (0, a2), (0, ((x3 + 1) + 1)), (3, 0), (3, 0), (3, 0)] ⟨Or.inr rfl, ⟨Or.inr rfl, ⟨Or.inr rfl, ⟨Or.inr rfl, ⟨Or.inl rfl, ⟨Or.inr rfl, ⟨Or.inr rfl, trivial⟩⟩⟩⟩⟩⟩⟩ F
            · have F := F.2 (hz51.mp hc)
              refine x_bipush dX11_typeOf_172 kb_116 (i32_of rfl) ?_
              refine x_goto 179 dX11_typeOf_174 rfl ?_
              obtain ⟨hi, F⟩ := F
              refine x_iast dX11_typeOf_179 (sW75 hW) (gW75 hW) hi ?_
              refine x_aload_n dX11_typeOf_180 rfl ?_
              refine x_getr (r' := 76) flX11_126 dX11_typeOf_181 (sW47 hW) (gW47 hW) (rW47_49 hW) rfl (Nat.le_of_ble_eq_true rfl) ?_
              refine x_aload_n dX11_typeOf_184 rfl ?_
              refine x_geti (e := (w3 47 51)) 0 flX11_265 dX11_typeOf_185 (sW47 hW) (gW47 hW) rfl rfl (Nat.le_of_ble_eq_true rfl) (tagn2 rfl) ?_
              refine x_aload_n dX11_typeOf_188 rfl ?_
              refine x_getr (r' := 62) flX11_54 dX11_typeOf_189 (sW47 hW) (gW47 hW) (rW47_15 hW) rfl (Nat.le_of_ble_eq_true rfl) ?_
              refine x_iload dX11_typeOf_192 rfl ?_
              obtain ⟨hi, F⟩ := F
              refine x_iald (e := (w3 62 ((400 * a1) + x3))) dX11_typeOf_194 (sW62 hW) (gW62 hW) hi rfl ?_
              obtain ⟨hi, F⟩ := F
              refine x_iast dX11_typeOf_195 (sW76 hW) (gW76 hW) hi ?_
              obtain ⟨hz, F⟩ := F
              refine x_iinc [(2, 47), (0, a1), (0, a2), (0, (x3 + 1)), (0, ((400 * a1) + x3)), (3, 0), (3, 0)] dX11_typeOf_196 rfl rfl (Nat.le_of_ble_eq_true rfl) hz ?_
              refine x_goto 351 dX11_typeOf_199 rfl ?_
              obtain ⟨hz, F⟩ := F
              refine x_iinc [(2, 47), (0, a1), (0, a2), (0, ((x3 + 1) + 1)), (0, ((400 * a1) + x3)), (3, 0), (3, 0)] dX11_typeOf_351 rfl rfl (Nat.le_of_ble_eq_true rfl) hz ?_
              refine x_goto 31 dX11_typeOf_354 rfl ?_
              exact x_less [(2, 47), (0, a1), (0, a2), (0, ((x3 + 1) + 1)), (3, 0), (3, 0), (3, 0)] ⟨Or.inr rfl, ⟨Or.inr rfl, ⟨Or.inr rfl, ⟨Or.inr rfl, ⟨Or.inl rfl, ⟨Or.inr rfl, ⟨Or.inr rfl, trivial⟩⟩⟩⟩⟩⟩⟩ F
      · have F := F.2 hc
        refine x_aload_n dX11_typeOf_86 rfl ?_
        refine x_bipush dX11_typeOf_87 kb_116 (i32_of rfl) ?_
        obtain ⟨P6, hC, F⟩ := F
        refine x_inv dX11_typeOf_89 mlX11_271 hC (sW47 hW) (Nat.le_of_ble_eq_true rfl) (gW47 hW) rfl rfl (by omega) (Nat.zero_le _) (Nat.zero_le _) (Nat.le_of_ble_eq_true rfl) (fun o1 Y9 w8 ht hP => ?_)
        obtain rfl : o1 = none := ht
        obtain ⟨rfl, hP⟩ := hP
        have F := F w8 hP
        refine x_goto 351 dX11_typeOf_92 rfl ?_
        obtain ⟨hz, F⟩ := F
        refine x_iinc [(2, 47), (0, a1), (0, a2), (0, (x3 + 1)), (0, ((400 * a1) + x3)), (3, 0), (3, 0)] dX11_typeOf_351 rfl rfl (Nat.le_of_ble_eq_true rfl) hz ?_
        refine x_goto 31 dX11_typeOf_354 rfl ?_
        exact x_less [(2, 47), (0, a1), (0, a2), (0, (x3 + 1)), (3, 0), (3, 0), (3, 0)] ⟨Or.inr rfl, ⟨Or.inr rfl, ⟨Or.inr rfl, ⟨Or.inr rfl, ⟨Or.inl rfl, ⟨Or.inr rfl, ⟨Or.inr rfl, trivial⟩⟩⟩⟩⟩⟩⟩ F
    · have F := F.2 hc
      refine x_aload_n dX11_typeOf_66 rfl ?_
      refine x_bipush dX11_typeOf_67 kb_110 (i32_of rfl) ?_
      obtain ⟨P10, hC, F⟩ := F
      refine x_inv dX11_typeOf_69 mlX11_271 hC (sW47 hW) (Nat.le_of_ble_eq_true rfl) (gW47 hW) rfl rfl (by omega) (Nat.zero_le _) (Nat.zero_le _) (Nat.le_of_ble_eq_true rfl) (fun o1 Y13 w12 ht hP => ?_)
      obtain rfl : o1 = none := ht
      obtain ⟨rfl, hP⟩ := hP
      have F := F w12 hP
      refine x_goto 351 dX11_typeOf_72 rfl ?_
      obtain ⟨hz, F⟩ := F
      refine x_iinc [(2, 47), (0, a1), (0, a2), (0, (x3 + 1)), (0, ((400 * a1) + x3)), (3, 0), (3, 0)] dX11_typeOf_351 rfl rfl (Nat.le_of_ble_eq_true rfl) hz ?_
      refine x_goto 31 dX11_typeOf_354 rfl ?_
      exact x_less [(2, 47), (0, a1), (0, a2), (0, (x3 + 1)), (3, 0), (3, 0), (3, 0)] ⟨Or.inr rfl, ⟨Or.inr rfl, ⟨Or.inr rfl, ⟨Or.inr rfl, ⟨Or.inl rfl, ⟨Or.inr rfl, ⟨Or.inr rfl, trivial⟩⟩⟩⟩⟩⟩⟩ F

set_option maxRecDepth 100000 in
set_option maxHeartbeats 4000000 in
theorem bX11_typeOf_202 {d mc ms : Nat} {X : XX} {v : VV} {Q : QQ} (a1 : Int) (a2 : Int) (x3 : Int) (x4 : Int) (hd : 3 ≤ d) (hW : SW X) (F : i32 a1 → i32 a2 → i32 x3 → i32 x4 → (0 ≤ x4 ∧ x4 < 6800) ∧ (((¬ (v 61 x4) = 1) → (0 ≤ x4 ∧ x4 < 6800) ∧ (((¬ (v 61 x4) = 41) → (0 ≤ x4 ∧ x4 < 6800) ∧ (0 ≤ (v 47 51) ∧ (v 47 51) < 4) ∧ (0 ≤ x4 ∧ x4 < 6800) ∧ (0 ≤ (v 47 51) ∧ (v 47 51) < 4) ∧ i32 (x3 + 1) ∧ Ex mX11_typeOf d 31 [(2, 47), (0, a1), (0, a2), (0, (x3 + 1)), (3, 0), (3, 0), (3, 0)] [] X (upd2 (upd2 v 73 (v 47 51) (v 61 x4)) 74 (v 47 51) (v 62 x4)) mc ms Q) ∧ (((v 61 x4) = 41) → (0 ≤ (v 47 51) ∧ (v 47 51) < 4) ∧ (0 ≤ (v 47 51) ∧ (v 47 51) < 4) ∧ ((((v 72 (v 47 51)) = 0) → Ex mX11_typeOf d 288 [(2, 47), (0, a1), (0, a2), (0, x3), (0, x4), (0, (v 72 (v 47 51))), (0, (v 75 (v 47 51)))] [] X v mc ms Q) ∧ ((¬ (v 72 (v 47 51)) = 0) → ((((v 72 (v 47 51)) = (v 75 (v 47 51))) → Ex mX11_typeOf d 288 [(2, 47), (0, a1), (0, a2), (0, x3), (0, x4), (0, (v 72 (v 47 51))), (0, (v 75 (v 47 51)))] [] X v mc ms Q) ∧ ((¬ (v 72 (v 47 51)) = (v 75 (v 47 51))) → (0 ≤ (v 47 51) ∧ (v 47 51) < 4) ∧ ∃ P14 : Option AV → VV → Prop, Con mX11_wrong 1 0 0 [(2, 47), (0, (v 76 (v 47 51)))] X v (fun o X1 v1 => X1 = X ∧ P14 o v1) ∧ ∀ (w16 : VV), P14 none w16 → Ex mX11_typeOf d 288 [(2, 47), (0, a1), (0, a2), (0, x3), (0, x4), (0, (v 72 (v 47 51))), (0, (v 75 (v 47 51)))] [] X w16 mc ms Q))))))) ∧ (((v 61 x4) = 1) → ∃ P18 : Option AV → VV → Prop, Con mX11_typeOfName 1 0 0 [(2, 47), (0, a1), (0, x3)] X v (fun o X1 v1 => X1 = X ∧ P18 o v1) ∧ ∀ (r19 : Int) (w20 : VV), P18 (some (0, r19)) w20 → ∃ P22 : Option AV → VV → Prop, Con mX11_comes 2 0 0 [(2, 47), (0, r19)] X w20 (fun o X1 v1 => X1 = X ∧ P22 o v1) ∧ ∀ (w24 : VV), P22 none w24 → i32 (x3 + 2) ∧ i32 ((x3 + 2) + 1) ∧ Ex mX11_typeOf d 31 [(2, 47), (0, a1), (0, a2), (0, ((x3 + 2) + 1)), (3, 0), (3, 0), (3, 0)] [] X w24 mc ms Q))) : Ex mX11_typeOf d 202 [(2, 47), (0, a1), (0, a2), (0, x3), (0, x4), (3, 0), (3, 0)] [] X v mc ms Q := by
  refine x_li32 (i := 1) rfl (fun ha1 => ?_)
  have F := F ha1
  refine x_li32 (i := 2) rfl (fun ha2 => ?_)
  have F := F ha2
  refine x_li32 (i := 3) rfl (fun hx3 => ?_)
  have F := F hx3
  refine x_li32 (i := 4) rfl (fun hx4 => ?_)
  have F := F hx4
  refine x_aload_n dX11_typeOf_202 rfl ?_
  refine x_getr (r' := 61) flX11_51 dX11_typeOf_203 (sW47 hW) (gW47 hW) (rW47_14 hW) rfl (Nat.le_of_ble_eq_true rfl) ?_
  refine x_iload dX11_typeOf_206 rfl ?_
  obtain ⟨hi, F⟩ := F
  refine x_iald (e := (v 61 x4)) dX11_typeOf_208 (sW61 hW) (gW61 hW) hi rfl ?_
  refine x_iconst dX11_typeOf_209 rfl (i32_of rfl) ?_
  refine x_icmp_ne 229 dX11_typeOf_210 rfl (fun hc => ?_) (fun hc => ?_)
  · have F := F.1 hc
    refine x_aload_n dX11_typeOf_229 rfl ?_
    refine x_getr (r' := 61) flX11_51 dX11_typeOf_230 (sW47 hW) (gW47 hW) (rW47_14 hW) rfl (Nat.le_of_ble_eq_true rfl) ?_
    refine x_iload dX11_typeOf_233 rfl ?_
    obtain ⟨hi, F⟩ := F
    refine x_iald (e := (v 61 x4)) dX11_typeOf_235 (sW61 hW) (gW61 hW) hi rfl ?_
    refine x_bipush dX11_typeOf_236 kb_41 (i32_of rfl) ?_
    refine x_icmp_ne 319 dX11_typeOf_238 rfl (fun hc => ?_) (fun hc => ?_)
    · have F := F.1 hc
      refine x_aload_n dX11_typeOf_319 rfl ?_
      refine x_getr (r' := 73) flX11_117 dX11_typeOf_320 (sW47 hW) (gW47 hW) (rW47_46 hW) rfl (Nat.le_of_ble_eq_true rfl) ?_
      refine x_aload_n dX11_typeOf_323 rfl ?_
      refine x_geti (e := (v 47 51)) 0 flX11_265 dX11_typeOf_324 (sW47 hW) (gW47 hW) rfl rfl (Nat.le_of_ble_eq_true rfl) (tagn2 rfl) ?_
      refine x_aload_n dX11_typeOf_327 rfl ?_
      refine x_getr (r' := 61) flX11_51 dX11_typeOf_328 (sW47 hW) (gW47 hW) (rW47_14 hW) rfl (Nat.le_of_ble_eq_true rfl) ?_
      refine x_iload dX11_typeOf_331 rfl ?_
      obtain ⟨hi, F⟩ := F
      refine x_iald (e := (v 61 x4)) dX11_typeOf_333 (sW61 hW) (gW61 hW) hi rfl ?_
      obtain ⟨hi, F⟩ := F
      refine x_iast dX11_typeOf_334 (sW73 hW) (gW73 hW) hi ?_
      refine x_aload_n dX11_typeOf_335 rfl ?_
      refine x_getr (r' := 74) flX11_120 dX11_typeOf_336 (sW47 hW) (gW47 hW) (rW47_47 hW) rfl (Nat.le_of_ble_eq_true rfl) ?_
      refine x_aload_n dX11_typeOf_339 rfl ?_
      refine x_geti (e := (v 47 51)) 0 flX11_265 dX11_typeOf_340 (sW47 hW) (gW47 hW) rfl rfl (Nat.le_of_ble_eq_true rfl) (tagn2 rfl) ?_
      refine x_aload_n dX11_typeOf_343 rfl ?_
      refine x_getr (r' := 62) flX11_54 dX11_typeOf_344 (sW47 hW) (gW47 hW) (rW47_15 hW) rfl (Nat.le_of_ble_eq_true rfl) ?_
      refine x_iload dX11_typeOf_347 rfl ?_
      obtain ⟨hi, F⟩ := F
      refine x_iald (e := (v 62 x4)) dX11_typeOf_349 (sW62 hW) (gW62 hW) hi rfl ?_
      obtain ⟨hi, F⟩ := F
      refine x_iast dX11_typeOf_350 (sW74 hW) (gW74 hW) hi ?_
      obtain ⟨hz, F⟩ := F
      refine x_iinc [(2, 47), (0, a1), (0, a2), (0, (x3 + 1)), (0, x4), (3, 0), (3, 0)] dX11_typeOf_351 rfl rfl (Nat.le_of_ble_eq_true rfl) hz ?_
      refine x_goto 31 dX11_typeOf_354 rfl ?_
      exact x_less [(2, 47), (0, a1), (0, a2), (0, (x3 + 1)), (3, 0), (3, 0), (3, 0)] ⟨Or.inr rfl, ⟨Or.inr rfl, ⟨Or.inr rfl, ⟨Or.inr rfl, ⟨Or.inl rfl, ⟨Or.inr rfl, ⟨Or.inr rfl, trivial⟩⟩⟩⟩⟩⟩⟩ F
    · have F := F.2 hc
      refine x_aload_n dX11_typeOf_241 rfl ?_
      refine x_getr (r' := 72) flX11_114 dX11_typeOf_242 (sW47 hW) (gW47 hW) (rW47_45 hW) rfl (Nat.le_of_ble_eq_true rfl) ?_
      refine x_aload_n dX11_typeOf_245 rfl ?_
      refine x_geti (e := (v 47 51)) 0 flX11_265 dX11_typeOf_246 (sW47 hW) (gW47 hW) rfl rfl (Nat.le_of_ble_eq_true rfl) (tagn2 rfl) ?_
      obtain ⟨hi, F⟩ := F
      refine x_iald (e := (v 72 (v 47 51))) dX11_typeOf_249 (sW72 hW) (gW72 hW) hi rfl ?_
      refine x_istore [(2, 47), (0, a1), (0, a2), (0, x3), (0, x4), (0, (v 72 (v 47 51))), (3, 0)] dX11_typeOf_250 rfl (Nat.le_of_ble_eq_true rfl) ?_
      refine x_aload_n dX11_typeOf_252 rfl ?_
      refine x_getr (r' := 75) flX11_123 dX11_typeOf_253 (sW47 hW) (gW47 hW) (rW47_48 hW) rfl (Nat.le_of_ble_eq_true rfl) ?_
      refine x_aload_n dX11_typeOf_256 rfl ?_
      refine x_geti (e := (v 47 51)) 0 flX11_265 dX11_typeOf_257 (sW47 hW) (gW47 hW) rfl rfl (Nat.le_of_ble_eq_true rfl) (tagn2 rfl) ?_
      obtain ⟨hi, F⟩ := F
      refine x_iald (e := (v 75 (v 47 51))) dX11_typeOf_260 (sW75 hW) (gW75 hW) hi rfl ?_
      refine x_istore [(2, 47), (0, a1), (0, a2), (0, x3), (0, x4), (0, (v 72 (v 47 51))), (0, (v 75 (v 47 51)))] dX11_typeOf_261 rfl (Nat.le_of_ble_eq_true rfl) ?_
      refine x_iload dX11_typeOf_263 rfl ?_
      refine x_if_eq 288 dX11_typeOf_265 rfl (fun hc => ?_) (fun hc => ?_)
      · have F := F.1 hc
        exact F
      · have F := F.2 hc
        refine x_iload dX11_typeOf_268 rfl ?_
        refine x_iload dX11_typeOf_270 rfl ?_
        refine x_icmp_eq 288 dX11_typeOf_272 rfl (fun hc => ?_) (fun hc => ?_)
        · have F := F.1 hc
          exact F
        · have F := F.2 hc
          refine x_aload_n dX11_typeOf_275 rfl ?_
          refine x_aload_n dX11_typeOf_276 rfl ?_
          refine x_getr (r' := 76) flX11_126 dX11_typeOf_277 (sW47 hW) (gW47 hW) (rW47_49 hW) rfl (Nat.le_of_ble_eq_true rfl) ?_
          refine x_aload_n dX11_typeOf_280 rfl ?_
          refine x_geti (e := (v 47 51)) 0 flX11_265 dX11_typeOf_281 (sW47 hW) (gW47 hW) rfl rfl (Nat.le_of_ble_eq_true rfl) (tagn2 rfl) ?_
          obtain ⟨hi, F⟩ := F
          refine x_iald (e := (v 76 (v 47 51))) dX11_typeOf_284 (sW76 hW) (gW76 hW) hi rfl ?_
          obtain ⟨P14, hC, F⟩ := F
          refine x_inv dX11_typeOf_285 mlX11_268 hC (sW47 hW) (Nat.le_of_ble_eq_true rfl) (gW47 hW) rfl rfl (by omega) (Nat.zero_le _) (Nat.zero_le _) (Nat.le_of_ble_eq_true rfl) (fun o1 Y17 w16 ht hP => ?_)
          obtain rfl : o1 = none := ht
          obtain ⟨rfl, hP⟩ := hP
          have F := F w16 hP
          exact F
  · have F := F.2 hc
    refine x_aload_n dX11_typeOf_213 rfl ?_
    refine x_aload_n dX11_typeOf_214 rfl ?_
    refine x_iload_n dX11_typeOf_215 rfl ?_
    refine x_iload_n dX11_typeOf_216 rfl ?_
    obtain ⟨P18, hC, F⟩ := F
    refine x_inv dX11_typeOf_217 mlX11_277 hC (sW47 hW) (Nat.le_of_ble_eq_true rfl) (gW47 hW) rfl rfl (by omega) (Nat.zero_le _) (Nat.zero_le _) (Nat.le_of_ble_eq_true rfl) (fun o1 Y21 w20 ht hP => ?_)
    obtain ⟨r19, rfl⟩ : ∃ i, o1 = some (0, i) := ht
    obtain ⟨rfl, hP⟩ := hP
    have F := F r19 w20 hP
    obtain ⟨P22, hC, F⟩ := F
    refine x_inv dX11_typeOf_220 mlX11_271 hC (sW47 hW) (Nat.le_of_ble_eq_true rfl) (gW47 hW) rfl rfl (by omega) (Nat.zero_le _) (Nat.zero_le _) (Nat.le_of_ble_eq_true rfl) (fun o1 Y25 w24 ht hP => ?_)
    obtain rfl : o1 = none := ht
    obtain ⟨rfl, hP⟩ := hP
    have F := F w24 hP
    obtain ⟨hz, F⟩ := F
    refine x_iinc [(2, 47), (0, a1), (0, a2), (0, (x3 + 2)), (0, x4), (3, 0), (3, 0)] dX11_typeOf_223 rfl rfl (Nat.le_of_ble_eq_true rfl) hz ?_
    refine x_goto 351 dX11_typeOf_226 rfl ?_
    obtain ⟨hz, F⟩ := F
    refine x_iinc [(2, 47), (0, a1), (0, a2), (0, ((x3 + 2) + 1)), (0, x4), (3, 0), (3, 0)] dX11_typeOf_351 rfl rfl (Nat.le_of_ble_eq_true rfl) hz ?_
    refine x_goto 31 dX11_typeOf_354 rfl ?_
    exact x_less [(2, 47), (0, a1), (0, a2), (0, ((x3 + 2) + 1)), (3, 0), (3, 0), (3, 0)] ⟨Or.inr rfl, ⟨Or.inr rfl, ⟨Or.inr rfl, ⟨Or.inr rfl, ⟨Or.inl rfl, ⟨Or.inr rfl, ⟨Or.inr rfl, trivial⟩⟩⟩⟩⟩⟩⟩ F

set_option maxRecDepth 100000 in
set_option maxHeartbeats 4000000 in
theorem bX11_typeOf_288 {d mc ms : Nat} {X : XX} {v : VV} {Q : QQ} (a1 : Int) (a2 : Int) (x3 : Int) (x4 : Int) (x5 : Int) (x6 : Int) (hd : 3 ≤ d) (hW : SW X) (F : i32 a1 → i32 a2 → i32 x3 → i32 x4 → i32 x5 → i32 x6 → (i32 (v 47 51) → i32 ((v 47 51) - 1)) ∧ (((¬ x6 = 116) → ∃ P26 : Option AV → VV → Prop, Con mX11_comes 2 0 0 [(2, 47), (0, 116)] X (upd2 v 47 51 ((v 47 51) - 1)) (fun o X1 v1 => X1 = X ∧ P26 o v1) ∧ ∀ (w28 : VV), P26 none w28 → i32 (x3 + 1) ∧ Ex mX11_typeOf d 31 [(2, 47), (0, a1), (0, a2), (0, (x3 + 1)), (3, 0), (3, 0), (3, 0)] [] X w28 mc ms Q) ∧ ((x6 = 116) → ∃ P30 : Option AV → VV → Prop, Con mX11_comes 2 0 0 [(2, 47), (0, 110)] X (upd2 v 47 51 ((v 47 51) - 1)) (fun o X1 v1 => X1 = X ∧ P30 o v1) ∧ ∀ (w32 : VV), P30 none w32 → i32 (x3 + 1) ∧ Ex mX11_typeOf d 31 [(2, 47), (0, a1), (0, a2), (0, (x3 + 1)), (3, 0), (3, 0), (3, 0)] [] X w32 mc ms Q))) : Ex mX11_typeOf d 288 [(2, 47), (0, a1), (0, a2), (0, x3), (0, x4), (0, x5), (0, x6)] [] X v mc ms Q := by
  refine x_li32 (i := 1) rfl (fun ha1 => ?_)
  have F := F ha1
  refine x_li32 (i := 2) rfl (fun ha2 => ?_)
  have F := F ha2
  refine x_li32 (i := 3) rfl (fun hx3 => ?_)
  have F := F hx3
  refine x_li32 (i := 4) rfl (fun hx4 => ?_)
  have F := F hx4
  refine x_li32 (i := 5) rfl (fun hx5 => ?_)
  have F := F hx5
  refine x_li32 (i := 6) rfl (fun hx6 => ?_)
  have F := F hx6
  refine x_aload_n dX11_typeOf_288 rfl ?_
  refine x_dup dX11_typeOf_289 (tag1 rfl) ?_
  refine x_geti (e := (v 47 51)) 0 flX11_265 dX11_typeOf_290 (sW47 hW) (gW47 hW) rfl rfl (Nat.le_of_ble_eq_true rfl) (tagn2 rfl) ?_
  refine x_iconst dX11_typeOf_293 rfl (i32_of rfl) ?_
  refine x_si32 (i := 1) rfl (fun hk1 => ?_)
  obtain ⟨hz, F⟩ := F
  have hz := hz hk1
  refine x_isub dX11_typeOf_294 hz ?_
  refine x_puti 0 fwX11_265 dX11_typeOf_295 (sW47 hW) (gW47 hW) (fun h => Bool.noConfusion h) (Nat.le_of_ble_eq_true rfl) rfl (Or.inl ⟨rfl, Or.inl rfl⟩) ?_
  refine x_aload_n dX11_typeOf_298 rfl ?_
  refine x_iload dX11_typeOf_299 rfl ?_
  refine x_bipush dX11_typeOf_301 kb_116 (i32_of rfl) ?_
  refine x_icmp_ne 311 dX11_typeOf_303 rfl (fun hc => ?_) (fun hc => ?_)
  · have F := F.1 hc
    refine x_bipush dX11_typeOf_311 kb_116 (i32_of rfl) ?_
    obtain ⟨P26, hC, F⟩ := F
    refine x_inv dX11_typeOf_313 mlX11_271 hC (sW47 hW) (Nat.le_of_ble_eq_true rfl) (gW47 hW) rfl rfl (by omega) (Nat.zero_le _) (Nat.zero_le _) (Nat.le_of_ble_eq_true rfl) (fun o1 Y29 w28 ht hP => ?_)
    obtain rfl : o1 = none := ht
    obtain ⟨rfl, hP⟩ := hP
    have F := F w28 hP
    refine x_goto 351 dX11_typeOf_316 rfl ?_
    obtain ⟨hz, F⟩ := F
    refine x_iinc [(2, 47), (0, a1), (0, a2), (0, (x3 + 1)), (0, x4), (0, x5), (0, x6)] dX11_typeOf_351 rfl rfl (Nat.le_of_ble_eq_true rfl) hz ?_
    refine x_goto 31 dX11_typeOf_354 rfl ?_
    exact x_less [(2, 47), (0, a1), (0, a2), (0, (x3 + 1)), (3, 0), (3, 0), (3, 0)] ⟨Or.inr rfl, ⟨Or.inr rfl, ⟨Or.inr rfl, ⟨Or.inr rfl, ⟨Or.inl rfl, ⟨Or.inl rfl, ⟨Or.inl rfl, trivial⟩⟩⟩⟩⟩⟩⟩ F
  · have F := F.2 hc
    refine x_bipush dX11_typeOf_306 kb_110 (i32_of rfl) ?_
    refine x_goto 313 dX11_typeOf_308 rfl ?_
    obtain ⟨P30, hC, F⟩ := F
    refine x_inv dX11_typeOf_313 mlX11_271 hC (sW47 hW) (Nat.le_of_ble_eq_true rfl) (gW47 hW) rfl rfl (by omega) (Nat.zero_le _) (Nat.zero_le _) (Nat.le_of_ble_eq_true rfl) (fun o1 Y33 w32 ht hP => ?_)
    obtain rfl : o1 = none := ht
    obtain ⟨rfl, hP⟩ := hP
    have F := F w32 hP
    refine x_goto 351 dX11_typeOf_316 rfl ?_
    obtain ⟨hz, F⟩ := F
    refine x_iinc [(2, 47), (0, a1), (0, a2), (0, (x3 + 1)), (0, x4), (0, x5), (0, x6)] dX11_typeOf_351 rfl rfl (Nat.le_of_ble_eq_true rfl) hz ?_
    refine x_goto 31 dX11_typeOf_354 rfl ?_
    exact x_less [(2, 47), (0, a1), (0, a2), (0, (x3 + 1)), (3, 0), (3, 0), (3, 0)] ⟨Or.inr rfl, ⟨Or.inr rfl, ⟨Or.inr rfl, ⟨Or.inr rfl, ⟨Or.inl rfl, ⟨Or.inl rfl, ⟨Or.inl rfl, trivial⟩⟩⟩⟩⟩⟩⟩ F

set_option maxRecDepth 100000 in
set_option maxHeartbeats 4000000 in
theorem bX11_typeOfName_0 {d mc ms : Nat} {X : XX} {v : VV} {Q : QQ} (a1 : Int) (a2 : Int) (hd : 1 ≤ d) (hW : SW X) (F : i32 a1 → i32 a2 → ∃ P1 : Option AV → VV → Prop, Con mX11_wordOf 0 0 0 [(2, 47), (0, a1), (0, a2)] X v (fun o X1 v1 => X1 = X ∧ P1 o v1) ∧ ∀ (r2 : Int) (w3 : VV), P1 (some (1, r2)) w3 → ∃ P5 : Option AV → VV → Prop, Con mX11_behindNamed 0 0 0 [(2, 47), (0, a1), (1, r2)] X w3 (fun o X1 v1 => X1 = X ∧ P5 o v1) ∧ ∀ (r6 : Int) (w7 : VV), P5 (some (0, r6)) w7 → (((¬ r6 = (-1)) → i32 (a2 + 2) ∧ ∃ P9 : Option AV → VV → Prop, Con mX11_wordOf 0 0 0 [(2, 47), (0, a1), (0, (a2 + 2))] X w7 (fun o X1 v1 => X1 = X ∧ P9 o v1) ∧ ∀ (r10 : Int) (w11 : VV), P9 (some (1, r10)) w11 → ∃ P13 : Option AV → VV → Prop, Con mX11_columnNamed 0 0 0 [(2, 47), (0, r6), (1, r10)] X w11 (fun o X1 v1 => X1 = X ∧ P13 o v1) ∧ ∀ (r14 : Int) (w15 : VV), P13 (some (0, r14)) w15 → (((¬ r14 = (-1)) → ((((w15 47 52) = 0) → (i32 r6 → i32 (8 * r6)) ∧ (i32 r14 → i32 (8 * r6) → i32 ((8 * r6) + r14)) ∧ (0 ≤ ((8 * r6) + r14) ∧ ((8 * r6) + r14) < 136) ∧ Q (some (0, (w15 77 ((8 * r6) + r14)))) X w15) ∧ ((¬ (w15 47 52) = 0) → (i32 r6 → i32 (8 * r6)) ∧ (i32 r14 → i32 (8 * r6) → i32 ((8 * r6) + r14)) ∧ (0 ≤ ((8 * r6) + r14) ∧ ((8 * r6) + r14) < 136) ∧ Q (some (0, (w15 53 ((8 * r6) + r14)))) X w15))) ∧ ((r14 = (-1)) → ((((w15 47 52) = 0) → Q (some (0, 0)) X w15) ∧ ((¬ (w15 47 52) = 0) → i32 (400 * a1) ∧ (i32 (400 * a1) → i32 ((400 * a1) + a2)) ∧ (i32 ((400 * a1) + a2) → i32 (((400 * a1) + a2) + 2)) ∧ (0 ≤ (((400 * a1) + a2) + 2) ∧ (((400 * a1) + a2) + 2) < 6800) ∧ ∃ P17 : Option AV → VV → Prop, Con mX11_means 0 0 0 [(2, 47), (0, 2), (0, (w15 62 (((400 * a1) + a2) + 2)))] X w15 (fun o X1 v1 => X1 = X ∧ P17 o v1) ∧ ∀ (w19 : VV), P17 none w19 → Q (some (0, 0)) X w19))))) ∧ ((r6 = (-1)) → Ex mX11_typeOfName d 23 [(2, 47), (0, a1), (0, a2), (0, r6), (0, 0), (0, 0)] [] X w7 mc ms Q))) : Ex mX11_typeOfName d 0 [(2, 47), (0, a1), (0, a2), (3, 0), (3, 0), (3, 0)] [] X v mc ms Q := by
  refine x_li32 (i := 1) rfl (fun ha1 => ?_)
  have F := F ha1
  refine x_li32 (i := 2) rfl (fun ha2 => ?_)
  have F := F ha2
  refine x_aload_n dX11_typeOfName_0 rfl ?_
  refine x_iload_n dX11_typeOfName_1 rfl ?_
  refine x_aload_n dX11_typeOfName_2 rfl ?_
  refine x_iload_n dX11_typeOfName_3 rfl ?_
  refine x_iload_n dX11_typeOfName_4 rfl ?_
  obtain ⟨P1, hC, F⟩ := F
  refine x_inv dX11_typeOfName_5 mlX11_274 hC (sW47 hW) (Nat.le_of_ble_eq_true rfl) (gW47 hW) rfl rfl (by omega) (Nat.zero_le _) (Nat.zero_le _) (Nat.le_of_ble_eq_true rfl) (fun o1 Y4 w3 ht hP => ?_)
  obtain ⟨r2, rfl⟩ : ∃ i, o1 = some (1, i) := ht
  obtain ⟨rfl, hP⟩ := hP
  have F := F r2 w3 hP
  obtain ⟨P5, hC, F⟩ := F
  refine x_inv dX11_typeOfName_8 mlX11_281 hC (sW47 hW) (Nat.le_of_ble_eq_true rfl) (gW47 hW) rfl rfl (by omega) (Nat.zero_le _) (Nat.zero_le _) (Nat.le_of_ble_eq_true rfl) (fun o1 Y8 w7 ht hP => ?_)
  obtain ⟨r6, rfl⟩ : ∃ i, o1 = some (0, i) := ht
  obtain ⟨rfl, hP⟩ := hP
  have F := F r6 w7 hP
  refine x_istore_n [(2, 47), (0, a1), (0, a2), (0, r6), (3, 0), (3, 0)] dX11_typeOfName_11 rfl (Nat.le_of_ble_eq_true rfl) ?_
  refine x_iload_n dX11_typeOfName_12 rfl ?_
  refine x_iconst dX11_typeOfName_13 rfl (i32_of rfl) ?_
  refine x_icmp_ne 107 dX11_typeOfName_14 rfl (fun hc => ?_) (fun hc => ?_)
  · have F := F.1 hc
    refine x_aload_n dX11_typeOfName_107 rfl ?_
    refine x_iload_n dX11_typeOfName_108 rfl ?_
    refine x_aload_n dX11_typeOfName_109 rfl ?_
    refine x_iload_n dX11_typeOfName_110 rfl ?_
    refine x_iload_n dX11_typeOfName_111 rfl ?_
    refine x_iconst dX11_typeOfName_112 rfl (i32_of rfl) ?_
    obtain ⟨hz, F⟩ := F
    refine x_iadd dX11_typeOfName_113 hz ?_
    obtain ⟨P9, hC, F⟩ := F
    refine x_inv dX11_typeOfName_114 mlX11_274 hC (sW47 hW) (Nat.le_of_ble_eq_true rfl) (gW47 hW) rfl rfl (by omega) (Nat.zero_le _) (Nat.zero_le _) (Nat.le_of_ble_eq_true rfl) (fun o1 Y12 w11 ht hP => ?_)
    obtain ⟨r10, rfl⟩ : ∃ i, o1 = some (1, i) := ht
    obtain ⟨rfl, hP⟩ := hP
    have F := F r10 w11 hP
    obtain ⟨P13, hC, F⟩ := F
    refine x_inv dX11_typeOfName_117 mlX11_285 hC (sW47 hW) (Nat.le_of_ble_eq_true rfl) (gW47 hW) rfl rfl (by omega) (Nat.zero_le _) (Nat.zero_le _) (Nat.le_of_ble_eq_true rfl) (fun o1 Y16 w15 ht hP => ?_)
    obtain ⟨r14, rfl⟩ : ∃ i, o1 = some (0, i) := ht
    obtain ⟨rfl, hP⟩ := hP
    have F := F r14 w15 hP
    refine x_istore [(2, 47), (0, a1), (0, a2), (0, r6), (0, r14), (3, 0)] dX11_typeOfName_120 rfl (Nat.le_of_ble_eq_true rfl) ?_
    refine x_iload dX11_typeOfName_122 rfl ?_
    refine x_iconst dX11_typeOfName_124 rfl (i32_of rfl) ?_
    refine x_icmp_ne 156 dX11_typeOfName_125 rfl (fun hc => ?_) (fun hc => ?_)
    · have F := F.1 hc
      refine x_aload_n dX11_typeOfName_156 rfl ?_
      refine x_geti (e := (w15 47 52)) 0 flX11_258 dX11_typeOfName_157 (sW47 hW) (gW47 hW) rfl rfl (Nat.le_of_ble_eq_true rfl) (tagn2 rfl) ?_
      refine x_if_eq 178 dX11_typeOfName_160 rfl (fun hc => ?_) (fun hc => ?_)
      · have F := F.1 hc
        refine x_aload_n dX11_typeOfName_178 rfl ?_
        refine x_getr (r' := 77) flX11_129 dX11_typeOfName_179 (sW47 hW) (gW47 hW) (rW47_53 hW) rfl (Nat.le_of_ble_eq_true rfl) ?_
        refine x_bipush dX11_typeOfName_182 kb_8 (i32_of rfl) ?_
        refine x_iload_n dX11_typeOfName_184 rfl ?_
        refine x_si32 (i := 0) rfl (fun hk0 => ?_)
        obtain ⟨hz, F⟩ := F
        have hz := hz hk0
        refine x_imul dX11_typeOfName_185 hz ?_
        refine x_iload dX11_typeOfName_186 rfl ?_
        refine x_si32 (i := 0) rfl (fun hk0 => ?_)
        refine x_si32 (i := 1) rfl (fun hk1 => ?_)
        obtain ⟨hz, F⟩ := F
        have hz := hz hk0 hk1
        refine x_iadd dX11_typeOfName_188 hz ?_
        obtain ⟨hi, F⟩ := F
        refine x_iald (e := (w15 77 ((8 * r6) + r14))) dX11_typeOfName_189 (sW77 hW) (gW77 hW) hi rfl ?_
        exact x_ret (some (0, (w15 77 ((8 * r6) + r14)))) rfl ⟨dX11_typeOfName_190, Or.inl rfl⟩ F
      · have F := F.2 hc
        refine x_aload_n dX11_typeOfName_163 rfl ?_
        refine x_getr (r' := 53) flX11_27 dX11_typeOfName_164 (sW47 hW) (gW47 hW) (rW47_6 hW) rfl (Nat.le_of_ble_eq_true rfl) ?_
        refine x_bipush dX11_typeOfName_167 kb_8 (i32_of rfl) ?_
        refine x_iload_n dX11_typeOfName_169 rfl ?_
        refine x_si32 (i := 0) rfl (fun hk0 => ?_)
        obtain ⟨hz, F⟩ := F
        have hz := hz hk0
        refine x_imul dX11_typeOfName_170 hz ?_
        refine x_iload dX11_typeOfName_171 rfl ?_
        refine x_si32 (i := 0) rfl (fun hk0 => ?_)
        refine x_si32 (i := 1) rfl (fun hk1 => ?_)
        obtain ⟨hz, F⟩ := F
        have hz := hz hk0 hk1
        refine x_iadd dX11_typeOfName_173 hz ?_
        obtain ⟨hi, F⟩ := F
        refine x_iald (e := (w15 53 ((8 * r6) + r14))) dX11_typeOfName_174 (sW53 hW) (gW53 hW) hi rfl ?_
        refine x_goto 190 dX11_typeOfName_175 rfl ?_
        exact x_ret (some (0, (w15 53 ((8 * r6) + r14)))) rfl ⟨dX11_typeOfName_190, Or.inl rfl⟩ F
    · have F := F.2 hc
      refine x_aload_n dX11_typeOfName_128 rfl ?_
      refine x_geti (e := (w15 47 52)) 0 flX11_258 dX11_typeOfName_129 (sW47 hW) (gW47 hW) rfl rfl (Nat.le_of_ble_eq_true rfl) (tagn2 rfl) ?_
      refine x_if_eq 154 dX11_typeOfName_132 rfl (fun hc => ?_) (fun hc => ?_)
      · have F := F.1 hc
        refine x_iconst dX11_typeOfName_154 rfl (i32_of rfl) ?_
        exact x_ret (some (0, 0)) rfl ⟨dX11_typeOfName_155, Or.inl rfl⟩ F
      · have F := F.2 hc
        refine x_aload_n dX11_typeOfName_135 rfl ?_
        refine x_iconst dX11_typeOfName_136 rfl (i32_of rfl) ?_
        refine x_aload_n dX11_typeOfName_137 rfl ?_
        refine x_getr (r' := 62) flX11_54 dX11_typeOfName_138 (sW47 hW) (gW47 hW) (rW47_15 hW) rfl (Nat.le_of_ble_eq_true rfl) ?_
        refine x_sipush dX11_typeOfName_141 ks_400 (i32_of rfl) ?_
        refine x_iload_n dX11_typeOfName_144 rfl ?_
        obtain ⟨hz, F⟩ := F
        refine x_imul dX11_typeOfName_145 hz ?_
        refine x_iload_n dX11_typeOfName_146 rfl ?_
        refine x_si32 (i := 1) rfl (fun hk1 => ?_)
        obtain ⟨hz, F⟩ := F
        have hz := hz hk1
        refine x_iadd dX11_typeOfName_147 hz ?_
        refine x_iconst dX11_typeOfName_148 rfl (i32_of rfl) ?_
        refine x_si32 (i := 1) rfl (fun hk1 => ?_)
        obtain ⟨hz, F⟩ := F
        have hz := hz hk1
        refine x_iadd dX11_typeOfName_149 hz ?_
        obtain ⟨hi, F⟩ := F
        refine x_iald (e := (w15 62 (((400 * a1) + a2) + 2))) dX11_typeOfName_150 (sW62 hW) (gW62 hW) hi rfl ?_
        obtain ⟨P17, hC, F⟩ := F
        refine x_inv dX11_typeOfName_151 mlX11_262 hC (sW47 hW) (Nat.le_of_ble_eq_true rfl) (gW47 hW) rfl rfl (by omega) (Nat.zero_le _) (Nat.zero_le _) (Nat.le_of_ble_eq_true rfl) (fun o1 Y20 w19 ht hP => ?_)
        obtain rfl : o1 = none := ht
        obtain ⟨rfl, hP⟩ := hP
        have F := F w19 hP
        refine x_iconst dX11_typeOfName_154 rfl (i32_of rfl) ?_
        exact x_ret (some (0, 0)) rfl ⟨dX11_typeOfName_155, Or.inl rfl⟩ F
  · have F := F.2 hc
    refine x_iconst dX11_typeOfName_17 rfl (i32_of rfl) ?_
    refine x_istore [(2, 47), (0, a1), (0, a2), (0, r6), (0, 0), (3, 0)] dX11_typeOfName_18 rfl (Nat.le_of_ble_eq_true rfl) ?_
    refine x_iconst dX11_typeOfName_20 rfl (i32_of rfl) ?_
    refine x_istore [(2, 47), (0, a1), (0, a2), (0, r6), (0, 0), (0, 0)] dX11_typeOfName_21 rfl (Nat.le_of_ble_eq_true rfl) ?_
    exact F

set_option maxRecDepth 100000 in
set_option maxHeartbeats 4000000 in
theorem bX11_typeOfName_23 {d mc ms : Nat} {X : XX} {v : VV} {Q : QQ} (a1 : Int) (a2 : Int) (x3 : Int) (x4 : Int) (x5 : Int) (hd : 1 ≤ d) (hW : SW X) (F : i32 a1 → i32 a2 → i32 x3 → i32 x4 → i32 x5 → (0 ≤ a1 ∧ a1 < 17) ∧ ((((v 54 a1) ≤ x5) → Ex mX11_typeOfName d 76 [(2, 47), (0, a1), (0, a2), (0, x3), (0, x4), (0, x5)] [] X v mc ms Q) ∧ ((x5 < (v 54 a1)) → ((((v 47 52) = 0) → Ex mX11_typeOfName d 76 [(2, 47), (0, a1), (0, a2), (0, x3), (0, x4), (0, x5)] [] X v mc ms Q) ∧ ((¬ (v 47 52) = 0) → (((¬ x4 = 0) → i32 (x5 + 1) ∧ Ex mX11_typeOfName d 23 [(2, 47), (0, a1), (0, a2), (0, x3), (0, 1), (0, (x5 + 1))] [] X v mc ms Q) ∧ ((x4 = 0) → (0 ≤ x5 ∧ x5 < 3) ∧ ∃ P21 : Option AV → VV → Prop, Con mX11_wordOf 0 0 0 [(2, 47), (0, a1), (0, a2)] X v (fun o X1 v1 => X1 = X ∧ P21 o v1) ∧ ∀ (r22 : Int) (w23 : VV), P21 (some (1, r22)) w23 → (((¬ (v 70 x5) = r22) → i32 (x5 + 1) ∧ Ex mX11_typeOfName d 23 [(2, 47), (0, a1), (0, a2), (0, x3), (0, 0), (0, (x5 + 1))] [] X w23 mc ms Q) ∧ (((v 70 x5) = r22) → i32 (x5 + 1) ∧ Ex mX11_typeOfName d 23 [(2, 47), (0, a1), (0, a2), (0, x3), (0, 1), (0, (x5 + 1))] [] X w23 mc ms Q))))))))) : Ex mX11_typeOfName d 23 [(2, 47), (0, a1), (0, a2), (0, x3), (0, x4), (0, x5)] [] X v mc ms Q := by
  refine x_li32 (i := 1) rfl (fun ha1 => ?_)
  have F := F ha1
  refine x_li32 (i := 2) rfl (fun ha2 => ?_)
  have F := F ha2
  refine x_li32 (i := 3) rfl (fun hx3 => ?_)
  have F := F hx3
  refine x_li32 (i := 4) rfl (fun hx4 => ?_)
  have F := F hx4
  refine x_li32 (i := 5) rfl (fun hx5 => ?_)
  have F := F hx5
  refine x_iload dX11_typeOfName_23 rfl ?_
  refine x_aload_n dX11_typeOfName_25 rfl ?_
  refine x_getr (r' := 54) flX11_30 dX11_typeOfName_26 (sW47 hW) (gW47 hW) (rW47_7 hW) rfl (Nat.le_of_ble_eq_true rfl) ?_
  refine x_iload_n dX11_typeOfName_29 rfl ?_
  obtain ⟨hi, F⟩ := F
  refine x_iald (e := (v 54 a1)) dX11_typeOfName_30 (sW54 hW) (gW54 hW) hi rfl ?_
  refine x_icmp_ge 76 dX11_typeOfName_31 rfl (fun hc => ?_) (fun hc => ?_)
  · have F := F.1 hc
    exact F
  · have F := F.2 hc
    refine x_aload_n dX11_typeOfName_34 rfl ?_
    refine x_geti (e := (v 47 52)) 0 flX11_258 dX11_typeOfName_35 (sW47 hW) (gW47 hW) rfl rfl (Nat.le_of_ble_eq_true rfl) (tagn2 rfl) ?_
    refine x_if_eq 76 dX11_typeOfName_38 rfl (fun hc => ?_) (fun hc => ?_)
    · have F := F.1 hc
      exact F
    · have F := F.2 hc
      refine x_iload dX11_typeOfName_41 rfl ?_
      refine x_if_ne 63 dX11_typeOfName_43 rfl (fun hc => ?_) (fun hc => ?_)
      · have F := F.1 hc
        refine x_iconst dX11_typeOfName_63 rfl (i32_of rfl) ?_
        refine x_goto 68 dX11_typeOfName_64 rfl ?_
        refine x_istore [(2, 47), (0, a1), (0, a2), (0, x3), (0, 1), (0, x5)] dX11_typeOfName_68 rfl (Nat.le_of_ble_eq_true rfl) ?_
        obtain ⟨hz, F⟩ := F
        refine x_iinc [(2, 47), (0, a1), (0, a2), (0, x3), (0, 1), (0, (x5 + 1))] dX11_typeOfName_70 rfl rfl (Nat.le_of_ble_eq_true rfl) hz ?_
        refine x_goto 23 dX11_typeOfName_73 rfl ?_
        exact F
      · have F := F.2 hc
        refine x_aload_n dX11_typeOfName_46 rfl ?_
        refine x_getr (r' := 70) flX11_108 dX11_typeOfName_47 (sW47 hW) (gW47 hW) (rW47_43 hW) rfl (Nat.le_of_ble_eq_true rfl) ?_
        refine x_iload dX11_typeOfName_50 rfl ?_
        obtain ⟨hi, F⟩ := F
        refine x_lald (e := (v 70 x5)) dX11_typeOfName_52 (sW70 hW) (gW70 hW) hi rfl ?_
        refine x_aload_n dX11_typeOfName_53 rfl ?_
        refine x_iload_n dX11_typeOfName_54 rfl ?_
        refine x_iload_n dX11_typeOfName_55 rfl ?_
        obtain ⟨P21, hC, F⟩ := F
        refine x_inv dX11_typeOfName_56 mlX11_274 hC (sW47 hW) (Nat.le_of_ble_eq_true rfl) (gW47 hW) rfl rfl (by omega) (Nat.zero_le _) (Nat.zero_le _) (Nat.le_of_ble_eq_true rfl) (fun o1 Y24 w23 ht hP => ?_)
        obtain ⟨r22, rfl⟩ : ∃ i, o1 = some (1, i) := ht
        obtain ⟨rfl, hP⟩ := hP
        have F := F r22 w23 hP
        refine x_lcmp dX11_typeOfName_59 (fun z25 hz251 hz252 hz253 => ?_)
        refine x_if_ne 67 dX11_typeOfName_60 rfl (fun hc => ?_) (fun hc => ?_)
        · have F := F.1 (fun q => hc (hz251.mpr q))
          refine x_iconst dX11_typeOfName_67 rfl (i32_of rfl) ?_
          refine x_istore [(2, 47), (0, a1), (0, a2), (0, x3), (0, 0), (0, x5)] dX11_typeOfName_68 rfl (Nat.le_of_ble_eq_true rfl) ?_
          obtain ⟨hz, F⟩ := F
          refine x_iinc [(2, 47), (0, a1), (0, a2), (0, x3), (0, 0), (0, (x5 + 1))] dX11_typeOfName_70 rfl rfl (Nat.le_of_ble_eq_true rfl) hz ?_
          refine x_goto 23 dX11_typeOfName_73 rfl ?_
          exact F
        · have F := F.2 (hz251.mp hc)
          refine x_iconst dX11_typeOfName_63 rfl (i32_of rfl) ?_
          refine x_goto 68 dX11_typeOfName_64 rfl ?_
          refine x_istore [(2, 47), (0, a1), (0, a2), (0, x3), (0, 1), (0, x5)] dX11_typeOfName_68 rfl (Nat.le_of_ble_eq_true rfl) ?_
          obtain ⟨hz, F⟩ := F
          refine x_iinc [(2, 47), (0, a1), (0, a2), (0, x3), (0, 1), (0, (x5 + 1))] dX11_typeOfName_70 rfl rfl (Nat.le_of_ble_eq_true rfl) hz ?_
          refine x_goto 23 dX11_typeOfName_73 rfl ?_
          exact F

set_option maxRecDepth 100000 in
set_option maxHeartbeats 4000000 in
theorem bX11_typeOfName_76 {d mc ms : Nat} {X : XX} {v : VV} {Q : QQ} (a1 : Int) (a2 : Int) (x3 : Int) (x4 : Int) (x5 : Int) (hd : 1 ≤ d) (hW : SW X) (F : i32 a1 → i32 a2 → i32 x3 → i32 x4 → i32 x5 → ((((v 47 52) = 0) → Q (some (0, 0)) X v) ∧ ((¬ (v 47 52) = 0) → (((¬ x4 = 0) → Q (some (0, 0)) X v) ∧ ((x4 = 0) → i32 (400 * a1) ∧ (i32 (400 * a1) → i32 ((400 * a1) + a2)) ∧ (0 ≤ ((400 * a1) + a2) ∧ ((400 * a1) + a2) < 6800) ∧ ∃ P26 : Option AV → VV → Prop, Con mX11_means 0 0 0 [(2, 47), (0, 2), (0, (v 62 ((400 * a1) + a2)))] X v (fun o X1 v1 => X1 = X ∧ P26 o v1) ∧ ∀ (w28 : VV), P26 none w28 → Q (some (0, 0)) X w28))))) : Ex mX11_typeOfName d 76 [(2, 47), (0, a1), (0, a2), (0, x3), (0, x4), (0, x5)] [] X v mc ms Q := by
  refine x_li32 (i := 1) rfl (fun ha1 => ?_)
  have F := F ha1
  refine x_li32 (i := 2) rfl (fun ha2 => ?_)
  have F := F ha2
  refine x_li32 (i := 3) rfl (fun hx3 => ?_)
  have F := F hx3
  refine x_li32 (i := 4) rfl (fun hx4 => ?_)
  have F := F hx4
  refine x_li32 (i := 5) rfl (fun hx5 => ?_)
  have F := F hx5
  refine x_aload_n dX11_typeOfName_76 rfl ?_
  refine x_geti (e := (v 47 52)) 0 flX11_258 dX11_typeOfName_77 (sW47 hW) (gW47 hW) rfl rfl (Nat.le_of_ble_eq_true rfl) (tagn2 rfl) ?_
  refine x_if_eq 105 dX11_typeOfName_80 rfl (fun hc => ?_) (fun hc => ?_)
  · have F := F.1 hc
    refine x_iconst dX11_typeOfName_105 rfl (i32_of rfl) ?_
    exact x_ret (some (0, 0)) rfl ⟨dX11_typeOfName_106, Or.inl rfl⟩ F
  · have F := F.2 hc
    refine x_iload dX11_typeOfName_83 rfl ?_
    refine x_if_ne 105 dX11_typeOfName_85 rfl (fun hc => ?_) (fun hc => ?_)
    · have F := F.1 hc
      refine x_iconst dX11_typeOfName_105 rfl (i32_of rfl) ?_
      exact x_ret (some (0, 0)) rfl ⟨dX11_typeOfName_106, Or.inl rfl⟩ F
    · have F := F.2 hc
      refine x_aload_n dX11_typeOfName_88 rfl ?_
      refine x_iconst dX11_typeOfName_89 rfl (i32_of rfl) ?_
      refine x_aload_n dX11_typeOfName_90 rfl ?_
      refine x_getr (r' := 62) flX11_54 dX11_typeOfName_91 (sW47 hW) (gW47 hW) (rW47_15 hW) rfl (Nat.le_of_ble_eq_true rfl) ?_
      refine x_sipush dX11_typeOfName_94 ks_400 (i32_of rfl) ?_
      refine x_iload_n dX11_typeOfName_97 rfl ?_
      obtain ⟨hz, F⟩ := F
      refine x_imul dX11_typeOfName_98 hz ?_
      refine x_iload_n dX11_typeOfName_99 rfl ?_
      refine x_si32 (i := 1) rfl (fun hk1 => ?_)
      obtain ⟨hz, F⟩ := F
      have hz := hz hk1
      refine x_iadd dX11_typeOfName_100 hz ?_
      obtain ⟨hi, F⟩ := F
      refine x_iald (e := (v 62 ((400 * a1) + a2))) dX11_typeOfName_101 (sW62 hW) (gW62 hW) hi rfl ?_
      obtain ⟨P26, hC, F⟩ := F
      refine x_inv dX11_typeOfName_102 mlX11_262 hC (sW47 hW) (Nat.le_of_ble_eq_true rfl) (gW47 hW) rfl rfl (by omega) (Nat.zero_le _) (Nat.zero_le _) (Nat.le_of_ble_eq_true rfl) (fun o1 Y29 w28 ht hP => ?_)
      obtain rfl : o1 = none := ht
      obtain ⟨rfl, hP⟩ := hP
      have F := F w28 hP
      refine x_iconst dX11_typeOfName_105 rfl (i32_of rfl) ?_
      exact x_ret (some (0, 0)) rfl ⟨dX11_typeOfName_106, Or.inl rfl⟩ F

set_option maxRecDepth 100000 in
set_option maxHeartbeats 4000000 in
theorem bX11_hasWhere_0 {d mc ms : Nat} {X : XX} {v : VV} {Q : QQ} (a1 : Int) (hd : 0 ≤ d) (hW : SW X) (F : i32 a1 → i32 (8 * a1) ∧ (i32 (8 * a1) → i32 ((8 * a1) + 7)) ∧ (0 ≤ ((8 * a1) + 7) ∧ ((8 * a1) + 7) < 136) ∧ ((((v 66 ((8 * a1) + 7)) ≤ 0) → Q (some (0, 0)) X v) ∧ ((0 < (v 66 ((8 * a1) + 7))) → Q (some (0, 1)) X v))) : Ex mX11_hasWhere d 0 [(2, 47), (0, a1)] [] X v mc ms Q := by
  refine x_li32 (i := 1) rfl (fun ha1 => ?_)
  have F := F ha1
  refine x_aload_n dX11_hasWhere_0 rfl ?_
  refine x_getr (r' := 66) flX11_66 dX11_hasWhere_1 (sW47 hW) (gW47 hW) (rW47_19 hW) rfl (Nat.le_of_ble_eq_true rfl) ?_
  refine x_bipush dX11_hasWhere_4 kb_8 (i32_of rfl) ?_
  refine x_iload_n dX11_hasWhere_6 rfl ?_
  obtain ⟨hz, F⟩ := F
  refine x_imul dX11_hasWhere_7 hz ?_
  refine x_bipush dX11_hasWhere_8 kb_7 (i32_of rfl) ?_
  refine x_si32 (i := 1) rfl (fun hk1 => ?_)
  obtain ⟨hz, F⟩ := F
  have hz := hz hk1
  refine x_iadd dX11_hasWhere_10 hz ?_
  obtain ⟨hi, F⟩ := F
  refine x_iald (e := (v 66 ((8 * a1) + 7))) dX11_hasWhere_11 (sW66 hW) (gW66 hW) hi rfl ?_
  refine x_if_le 19 dX11_hasWhere_12 rfl (fun hc => ?_) (fun hc => ?_)
  · have F := F.1 hc
    refine x_iconst dX11_hasWhere_19 rfl (i32_of rfl) ?_
    exact x_ret (some (0, 0)) rfl ⟨dX11_hasWhere_20, Or.inr ⟨rfl, Or.inl rfl⟩⟩ F
  · have F := F.2 hc
    refine x_iconst dX11_hasWhere_15 rfl (i32_of rfl) ?_
    refine x_goto 20 dX11_hasWhere_16 rfl ?_
    exact x_ret (some (0, 1)) rfl ⟨dX11_hasWhere_20, Or.inr ⟨rfl, Or.inr rfl⟩⟩ F

set_option maxRecDepth 100000 in
set_option maxHeartbeats 4000000 in
theorem bX11_meant_0 {d mc ms : Nat} {X : XX} {v : VV} {Q : QQ} (hd : 4 ≤ d) (hW : SW X) (F : (0 ≤ (v 47 0) ∧ (v 47 0) < 17) ∧ ∃ P1 : Option AV → VV → Prop, Con mX11_tableNamed 0 0 0 [(2, 47), (1, (v 49 (v 47 0)))] X v (fun o X1 v1 => X1 = X ∧ P1 o v1) ∧ ∀ (r2 : Int) (w3 : VV), P1 (some (0, r2)) w3 → (((r2 = (-1)) → Ex mX11_meant d 40 [(2, 47), (0, (v 47 0)), (0, 3), (0, 0), (3, 0)] [] X w3 mc ms Q) ∧ ((¬ r2 = (-1)) → (i32 (v 47 0) → i32 (400 * (v 47 0))) ∧ (i32 (400 * (v 47 0)) → i32 ((400 * (v 47 0)) + 1)) ∧ (0 ≤ ((400 * (v 47 0)) + 1) ∧ ((400 * (v 47 0)) + 1) < 6800) ∧ ∃ P5 : Option AV → VV → Prop, Con mX11_means 0 0 0 [(2, 47), (0, 4), (0, (w3 62 ((400 * (v 47 0)) + 1)))] X w3 (fun o X1 v1 => X1 = X ∧ P5 o v1) ∧ ∀ (w7 : VV), P5 none w7 → Ex mX11_meant d 40 [(2, 47), (0, (v 47 0)), (0, 3), (0, 0), (3, 0)] [] X w7 mc ms Q))) : Ex mX11_meant d 0 [(2, 47), (3, 0), (3, 0), (3, 0), (3, 0)] [] X v mc ms Q := by
  refine x_aload_n dX11_meant_0 rfl ?_
  refine x_geti (e := (v 47 0)) 0 flX11_159 dX11_meant_1 (sW47 hW) (gW47 hW) rfl rfl (Nat.le_of_ble_eq_true rfl) (tagn2 rfl) ?_
  refine x_istore_n [(2, 47), (0, (v 47 0)), (3, 0), (3, 0), (3, 0)] dX11_meant_4 rfl (Nat.le_of_ble_eq_true rfl) ?_
  refine x_aload_n dX11_meant_5 rfl ?_
  refine x_aload_n dX11_meant_6 rfl ?_
  refine x_getr (r' := 49) flX11_13 dX11_meant_7 (sW47 hW) (gW47 hW) (rW47_2 hW) rfl (Nat.le_of_ble_eq_true rfl) ?_
  refine x_iload_n dX11_meant_10 rfl ?_
  obtain ⟨hi, F⟩ := F
  refine x_lald (e := (v 49 (v 47 0))) dX11_meant_11 (sW49 hW) (gW49 hW) hi rfl ?_
  obtain ⟨P1, hC, F⟩ := F
  refine x_inv dX11_meant_12 mlX11_288 hC (sW47 hW) (Nat.le_of_ble_eq_true rfl) (gW47 hW) rfl rfl (by omega) (Nat.zero_le _) (Nat.zero_le _) (Nat.le_of_ble_eq_true rfl) (fun o1 Y4 w3 ht hP => ?_)
  obtain ⟨r2, rfl⟩ : ∃ i, o1 = some (0, i) := ht
  obtain ⟨rfl, hP⟩ := hP
  have F := F r2 w3 hP
  refine x_iconst dX11_meant_15 rfl (i32_of rfl) ?_
  refine x_icmp_eq 36 dX11_meant_16 rfl (fun hc => ?_) (fun hc => ?_)
  · have F := F.1 hc
    refine x_iconst dX11_meant_36 rfl (i32_of rfl) ?_
    refine x_istore_n [(2, 47), (0, (v 47 0)), (0, 3), (3, 0), (3, 0)] dX11_meant_37 rfl (Nat.le_of_ble_eq_true rfl) ?_
    refine x_iconst dX11_meant_38 rfl (i32_of rfl) ?_
    refine x_istore_n [(2, 47), (0, (v 47 0)), (0, 3), (0, 0), (3, 0)] dX11_meant_39 rfl (Nat.le_of_ble_eq_true rfl) ?_
    exact F
  · have F := F.2 hc
    refine x_aload_n dX11_meant_19 rfl ?_
    refine x_iconst dX11_meant_20 rfl (i32_of rfl) ?_
    refine x_aload_n dX11_meant_21 rfl ?_
    refine x_getr (r' := 62) flX11_54 dX11_meant_22 (sW47 hW) (gW47 hW) (rW47_15 hW) rfl (Nat.le_of_ble_eq_true rfl) ?_
    refine x_sipush dX11_meant_25 ks_400 (i32_of rfl) ?_
    refine x_iload_n dX11_meant_28 rfl ?_
    refine x_si32 (i := 0) rfl (fun hk0 => ?_)
    obtain ⟨hz, F⟩ := F
    have hz := hz hk0
    refine x_imul dX11_meant_29 hz ?_
    refine x_iconst dX11_meant_30 rfl (i32_of rfl) ?_
    refine x_si32 (i := 1) rfl (fun hk1 => ?_)
    obtain ⟨hz, F⟩ := F
    have hz := hz hk1
    refine x_iadd dX11_meant_31 hz ?_
    obtain ⟨hi, F⟩ := F
    refine x_iald (e := (w3 62 ((400 * (v 47 0)) + 1))) dX11_meant_32 (sW62 hW) (gW62 hW) hi rfl ?_
    obtain ⟨P5, hC, F⟩ := F
    refine x_inv dX11_meant_33 mlX11_262 hC (sW47 hW) (Nat.le_of_ble_eq_true rfl) (gW47 hW) rfl rfl (by omega) (Nat.zero_le _) (Nat.zero_le _) (Nat.le_of_ble_eq_true rfl) (fun o1 Y8 w7 ht hP => ?_)
    obtain rfl : o1 = none := ht
    obtain ⟨rfl, hP⟩ := hP
    have F := F w7 hP
    refine x_iconst dX11_meant_36 rfl (i32_of rfl) ?_
    refine x_istore_n [(2, 47), (0, (v 47 0)), (0, 3), (3, 0), (3, 0)] dX11_meant_37 rfl (Nat.le_of_ble_eq_true rfl) ?_
    refine x_iconst dX11_meant_38 rfl (i32_of rfl) ?_
    refine x_istore_n [(2, 47), (0, (v 47 0)), (0, 3), (0, 0), (3, 0)] dX11_meant_39 rfl (Nat.le_of_ble_eq_true rfl) ?_
    exact F

set_option maxRecDepth 100000 in
set_option maxHeartbeats 4000000 in
theorem bX11_meant_40 {d mc ms : Nat} {X : XX} {v : VV} {Q : QQ} (x1 : Int) (x2 : Int) (x3 : Int) (hd : 4 ≤ d) (hW : SW X) (F : i32 x1 → i32 x2 → i32 x3 → (0 ≤ x1 ∧ x1 < 17) ∧ ((((v 51 x1) ≤ x3) → Ex mX11_meant d 146 [(2, 47), (0, x1), (0, x2), (0, 0), (3, 0)] [] X v mc ms Q) ∧ ((x3 < (v 51 x1)) → Ex mX11_meant d 53 [(2, 47), (0, x1), (0, x2), (0, x3), (0, 0)] [] X v mc ms Q))) : Ex mX11_meant d 40 [(2, 47), (0, x1), (0, x2), (0, x3), (3, 0)] [] X v mc ms Q := by
  refine x_li32 (i := 1) rfl (fun hx1 => ?_)
  have F := F hx1
  refine x_li32 (i := 2) rfl (fun hx2 => ?_)
  have F := F hx2
  refine x_li32 (i := 3) rfl (fun hx3 => ?_)
  have F := F hx3
  refine x_iload_n dX11_meant_40 rfl ?_
  refine x_aload_n dX11_meant_41 rfl ?_
  refine x_getr (r' := 51) flX11_21 dX11_meant_42 (sW47 hW) (gW47 hW) (rW47_4 hW) rfl (Nat.le_of_ble_eq_true rfl) ?_
  refine x_iload_n dX11_meant_45 rfl ?_
  obtain ⟨hi, F⟩ := F
  refine x_iald (e := (v 51 x1)) dX11_meant_46 (sW51 hW) (gW51 hW) hi rfl ?_
  refine x_icmp_ge 144 dX11_meant_47 rfl (fun hc => ?_) (fun hc => ?_)
  · have F := F.1 hc
    refine x_iconst dX11_meant_144 rfl (i32_of rfl) ?_
    refine x_istore_n [(2, 47), (0, x1), (0, x2), (0, 0), (3, 0)] dX11_meant_145 rfl (Nat.le_of_ble_eq_true rfl) ?_
    exact F
  · have F := F.2 hc
    refine x_iconst dX11_meant_50 rfl (i32_of rfl) ?_
    refine x_istore [(2, 47), (0, x1), (0, x2), (0, x3), (0, 0)] dX11_meant_51 rfl (Nat.le_of_ble_eq_true rfl) ?_
    exact F

set_option maxRecDepth 100000 in
set_option maxHeartbeats 4000000 in
theorem bX11_meant_53 {d mc ms : Nat} {X : XX} {v : VV} {Q : QQ} (x1 : Int) (x2 : Int) (x3 : Int) (x4 : Int) (hd : 4 ≤ d) (hW : SW X) (F : i32 x1 → i32 x2 → i32 x3 → i32 x4 → (((x3 ≤ x4) → (0 ≤ x1 ∧ x1 < 17) ∧ (((¬ (v 50 x1) = 0) → i32 (8 * x1) ∧ (i32 (8 * x1) → i32 ((8 * x1) + x3)) ∧ (0 ≤ ((8 * x1) + x3) ∧ ((8 * x1) + x3) < 136) ∧ (i32 (v 66 ((8 * x1) + x3)) → i32 ((v 66 ((8 * x1) + x3)) + 1)) ∧ i32 (x3 + 1) ∧ Ex mX11_meant d 40 [(2, 47), (0, x1), (0, ((v 66 ((8 * x1) + x3)) + 1)), (0, (x3 + 1)), (3, 0)] [] X v mc ms Q) ∧ (((v 50 x1) = 0) → i32 (x2 + 3) ∧ i32 (x3 + 1) ∧ Ex mX11_meant d 40 [(2, 47), (0, x1), (0, (x2 + 3)), (0, (x3 + 1)), (3, 0)] [] X v mc ms Q))) ∧ ((x4 < x3) → i32 (8 * x1) ∧ (i32 (8 * x1) → i32 ((8 * x1) + x4)) ∧ (0 ≤ ((8 * x1) + x4) ∧ ((8 * x1) + x4) < 136) ∧ i32 (8 * x1) ∧ (i32 (8 * x1) → i32 ((8 * x1) + x3)) ∧ (0 ≤ ((8 * x1) + x3) ∧ ((8 * x1) + x3) < 136) ∧ (((¬ (v 52 ((8 * x1) + x4)) = (v 52 ((8 * x1) + x3))) → i32 (x4 + 1) ∧ Ex mX11_meant d 53 [(2, 47), (0, x1), (0, x2), (0, x3), (0, (x4 + 1))] [] X v mc ms Q) ∧ (((v 52 ((8 * x1) + x4)) = (v 52 ((8 * x1) + x3))) → i32 (400 * x1) ∧ (i32 (400 * x1) → i32 ((400 * x1) + x2)) ∧ (0 ≤ ((400 * x1) + x2) ∧ ((400 * x1) + x2) < 6800) ∧ ∃ P10 : Option AV → VV → Prop, Con mX11_means 0 0 0 [(2, 47), (0, 4), (0, (v 62 ((400 * x1) + x2)))] X v (fun o X1 v1 => X1 = X ∧ P10 o v1) ∧ ∀ (w12 : VV), P10 none w12 → i32 (x4 + 1) ∧ Ex mX11_meant d 53 [(2, 47), (0, x1), (0, x2), (0, x3), (0, (x4 + 1))] [] X w12 mc ms Q))))) : Ex mX11_meant d 53 [(2, 47), (0, x1), (0, x2), (0, x3), (0, x4)] [] X v mc ms Q := by
  refine x_li32 (i := 1) rfl (fun hx1 => ?_)
  have F := F hx1
  refine x_li32 (i := 2) rfl (fun hx2 => ?_)
  have F := F hx2
  refine x_li32 (i := 3) rfl (fun hx3 => ?_)
  have F := F hx3
  refine x_li32 (i := 4) rfl (fun hx4 => ?_)
  have F := F hx4
  refine x_iload dX11_meant_53 rfl ?_
  refine x_iload_n dX11_meant_55 rfl ?_
  refine x_icmp_ge 109 dX11_meant_56 rfl (fun hc => ?_) (fun hc => ?_)
  · have F := F.1 hc
    refine x_aload_n dX11_meant_109 rfl ?_
    refine x_getr (r' := 50) flX11_17 dX11_meant_110 (sW47 hW) (gW47 hW) (rW47_3 hW) rfl (Nat.le_of_ble_eq_true rfl) ?_
    refine x_iload_n dX11_meant_113 rfl ?_
    obtain ⟨hi, F⟩ := F
    refine x_iald (e := (v 50 x1)) dX11_meant_114 (sW50 hW) (gW50 hW) hi rfl ?_
    refine x_if_ne 124 dX11_meant_115 rfl (fun hc => ?_) (fun hc => ?_)
    · have F := F.1 hc
      refine x_aload_n dX11_meant_124 rfl ?_
      refine x_getr (r' := 66) flX11_66 dX11_meant_125 (sW47 hW) (gW47 hW) (rW47_19 hW) rfl (Nat.le_of_ble_eq_true rfl) ?_
      refine x_bipush dX11_meant_128 kb_8 (i32_of rfl) ?_
      refine x_iload_n dX11_meant_130 rfl ?_
      obtain ⟨hz, F⟩ := F
      refine x_imul dX11_meant_131 hz ?_
      refine x_iload_n dX11_meant_132 rfl ?_
      refine x_si32 (i := 1) rfl (fun hk1 => ?_)
      obtain ⟨hz, F⟩ := F
      have hz := hz hk1
      refine x_iadd dX11_meant_133 hz ?_
      obtain ⟨hi, F⟩ := F
      refine x_iald (e := (v 66 ((8 * x1) + x3))) dX11_meant_134 (sW66 hW) (gW66 hW) hi rfl ?_
      refine x_iconst dX11_meant_135 rfl (i32_of rfl) ?_
      refine x_si32 (i := 1) rfl (fun hk1 => ?_)
      obtain ⟨hz, F⟩ := F
      have hz := hz hk1
      refine x_iadd dX11_meant_136 hz ?_
      refine x_istore_n [(2, 47), (0, x1), (0, ((v 66 ((8 * x1) + x3)) + 1)), (0, x3), (0, x4)] dX11_meant_137 rfl (Nat.le_of_ble_eq_true rfl) ?_
      obtain ⟨hz, F⟩ := F
      refine x_iinc [(2, 47), (0, x1), (0, ((v 66 ((8 * x1) + x3)) + 1)), (0, (x3 + 1)), (0, x4)] dX11_meant_138 rfl rfl (Nat.le_of_ble_eq_true rfl) hz ?_
      refine x_goto 40 dX11_meant_141 rfl ?_
      exact x_less [(2, 47), (0, x1), (0, ((v 66 ((8 * x1) + x3)) + 1)), (0, (x3 + 1)), (3, 0)] ⟨Or.inr rfl, ⟨Or.inr rfl, ⟨Or.inr rfl, ⟨Or.inr rfl, ⟨Or.inl rfl, trivial⟩⟩⟩⟩⟩ F
    · have F := F.2 hc
      refine x_iload_n dX11_meant_118 rfl ?_
      refine x_iconst dX11_meant_119 rfl (i32_of rfl) ?_
      obtain ⟨hz, F⟩ := F
      refine x_iadd dX11_meant_120 hz ?_
      refine x_goto 137 dX11_meant_121 rfl ?_
      refine x_istore_n [(2, 47), (0, x1), (0, (x2 + 3)), (0, x3), (0, x4)] dX11_meant_137 rfl (Nat.le_of_ble_eq_true rfl) ?_
      obtain ⟨hz, F⟩ := F
      refine x_iinc [(2, 47), (0, x1), (0, (x2 + 3)), (0, (x3 + 1)), (0, x4)] dX11_meant_138 rfl rfl (Nat.le_of_ble_eq_true rfl) hz ?_
      refine x_goto 40 dX11_meant_141 rfl ?_
      exact x_less [(2, 47), (0, x1), (0, (x2 + 3)), (0, (x3 + 1)), (3, 0)] ⟨Or.inr rfl, ⟨Or.inr rfl, ⟨Or.inr rfl, ⟨Or.inr rfl, ⟨Or.inl rfl, trivial⟩⟩⟩⟩⟩ F
  · have F := F.2 hc
    refine x_aload_n dX11_meant_59 rfl ?_
    refine x_getr (r' := 52) flX11_24 dX11_meant_60 (sW47 hW) (gW47 hW) (rW47_5 hW) rfl (Nat.le_of_ble_eq_true rfl) ?_
    refine x_bipush dX11_meant_63 kb_8 (i32_of rfl) ?_
    refine x_iload_n dX11_meant_65 rfl ?_
    obtain ⟨hz, F⟩ := F
    refine x_imul dX11_meant_66 hz ?_
    refine x_iload dX11_meant_67 rfl ?_
    refine x_si32 (i := 1) rfl (fun hk1 => ?_)
    obtain ⟨hz, F⟩ := F
    have hz := hz hk1
    refine x_iadd dX11_meant_69 hz ?_
    obtain ⟨hi, F⟩ := F
    refine x_lald (e := (v 52 ((8 * x1) + x4))) dX11_meant_70 (sW52 hW) (gW52 hW) hi rfl ?_
    refine x_aload_n dX11_meant_71 rfl ?_
    refine x_getr (r' := 52) flX11_24 dX11_meant_72 (sW47 hW) (gW47 hW) (rW47_5 hW) rfl (Nat.le_of_ble_eq_true rfl) ?_
    refine x_bipush dX11_meant_75 kb_8 (i32_of rfl) ?_
    refine x_iload_n dX11_meant_77 rfl ?_
    obtain ⟨hz, F⟩ := F
    refine x_imul dX11_meant_78 hz ?_
    refine x_iload_n dX11_meant_79 rfl ?_
    refine x_si32 (i := 1) rfl (fun hk1 => ?_)
    obtain ⟨hz, F⟩ := F
    have hz := hz hk1
    refine x_iadd dX11_meant_80 hz ?_
    obtain ⟨hi, F⟩ := F
    refine x_lald (e := (v 52 ((8 * x1) + x3))) dX11_meant_81 (sW52 hW) (gW52 hW) hi rfl ?_
    refine x_lcmp dX11_meant_82 (fun z9 hz91 hz92 hz93 => ?_)
    refine x_if_ne 103 dX11_meant_83 rfl (fun hc => ?_) (fun hc => ?_)
    · have F := F.1 (fun q => hc (hz91.mpr q))
      obtain ⟨hz, F⟩ := F
      refine x_iinc [(2, 47), (0, x1), (0, x2), (0, x3), (0, (x4 + 1))] dX11_meant_103 rfl rfl (Nat.le_of_ble_eq_true rfl) hz ?_
      refine x_goto 53 dX11_meant_106 rfl ?_
      exact F
    · have F := F.2 (hz91.mp hc)
      refine x_aload_n dX11_meant_86 rfl ?_
      refine x_iconst dX11_meant_87 rfl (i32_of rfl) ?_
      refine x_aload_n dX11_meant_88 rfl ?_
      refine x_getr (r' := 62) flX11_54 dX11_meant_89 (sW47 hW) (gW47 hW) (rW47_15 hW) rfl (Nat.le_of_ble_eq_true rfl) ?_
      refine x_sipush dX11_meant_92 ks_400 (i32_of rfl) ?_
      refine x_iload_n dX11_meant_95 rfl ?_
      obtain ⟨hz, F⟩ := F
      refine x_imul dX11_meant_96 hz ?_
      refine x_iload_n dX11_meant_97 rfl ?_
      refine x_si32 (i := 1) rfl (fun hk1 => ?_)
      obtain ⟨hz, F⟩ := F
      have hz := hz hk1
      refine x_iadd dX11_meant_98 hz ?_
      obtain ⟨hi, F⟩ := F
      refine x_iald (e := (v 62 ((400 * x1) + x2))) dX11_meant_99 (sW62 hW) (gW62 hW) hi rfl ?_
      obtain ⟨P10, hC, F⟩ := F
      refine x_inv dX11_meant_100 mlX11_262 hC (sW47 hW) (Nat.le_of_ble_eq_true rfl) (gW47 hW) rfl rfl (by omega) (Nat.zero_le _) (Nat.zero_le _) (Nat.le_of_ble_eq_true rfl) (fun o1 Y13 w12 ht hP => ?_)
      obtain rfl : o1 = none := ht
      obtain ⟨rfl, hP⟩ := hP
      have F := F w12 hP
      obtain ⟨hz, F⟩ := F
      refine x_iinc [(2, 47), (0, x1), (0, x2), (0, x3), (0, (x4 + 1))] dX11_meant_103 rfl rfl (Nat.le_of_ble_eq_true rfl) hz ?_
      refine x_goto 53 dX11_meant_106 rfl ?_
      exact F

set_option maxRecDepth 100000 in
set_option maxHeartbeats 4000000 in
theorem bX11_meant_146 {d mc ms : Nat} {X : XX} {v : VV} {Q : QQ} (x1 : Int) (x2 : Int) (x3 : Int) (hd : 4 ≤ d) (hW : SW X) (F : i32 x1 → i32 x2 → i32 x3 → (0 ≤ x1 ∧ x1 < 17) ∧ ((((v 54 x1) ≤ x3) → (0 ≤ x1 ∧ x1 < 17) ∧ ((((v 50 x1) ≤ 0) → Ex mX11_meant d 299 [(2, 47), (0, x1), (0, x2), (0, x3), (3, 0)] [] X (upd2 v 47 52 1) mc ms Q) ∧ ((0 < (v 50 x1)) → Ex mX11_meant d 266 [(2, 47), (0, x1), (0, x2), (0, 0), (3, 0)] [] X (upd2 v 47 52 1) mc ms Q))) ∧ ((x3 < (v 54 x1)) → i32 (3 * x1) ∧ (i32 (3 * x1) → i32 ((3 * x1) + x3)) ∧ (0 ≤ x3 ∧ x3 < 3) ∧ ∃ P14 : Option AV → VV → Prop, Con mX11_tableNamed 0 0 0 [(2, 47), (1, (v 70 x3))] X v (fun o X1 v1 => X1 = X ∧ P14 o v1) ∧ ∀ (r15 : Int) (w16 : VV), P14 (some (0, r15)) w16 → (0 ≤ ((3 * x1) + x3) ∧ ((3 * x1) + x3) < 51) ∧ i32 (3 * x1) ∧ (i32 (3 * x1) → i32 ((3 * x1) + x3)) ∧ (0 ≤ ((3 * x1) + x3) ∧ ((3 * x1) + x3) < 51) ∧ (((¬ r15 = (-1)) → Ex mX11_meant d 204 [(2, 47), (0, x1), (0, x2), (0, x3), (0, 0)] [] X (upd2 w16 55 ((3 * x1) + x3) r15) mc ms Q) ∧ ((r15 = (-1)) → (0 ≤ x3 ∧ x3 < 3) ∧ ∃ P18 : Option AV → VV → Prop, Con mX11_means 0 0 0 [(2, 47), (0, 2), (0, (w16 71 x3))] X (upd2 w16 55 ((3 * x1) + x3) r15) (fun o X1 v1 => X1 = X ∧ P18 o v1) ∧ ∀ (w20 : VV), P18 none w20 → Ex mX11_meant d 204 [(2, 47), (0, x1), (0, x2), (0, x3), (0, 0)] [] X w20 mc ms Q))))) : Ex mX11_meant d 146 [(2, 47), (0, x1), (0, x2), (0, x3), (3, 0)] [] X v mc ms Q := by
  refine x_li32 (i := 1) rfl (fun hx1 => ?_)
  have F := F hx1
  refine x_li32 (i := 2) rfl (fun hx2 => ?_)
  have F := F hx2
  refine x_li32 (i := 3) rfl (fun hx3 => ?_)
  have F := F hx3
  refine x_iload_n dX11_meant_146 rfl ?_
  refine x_aload_n dX11_meant_147 rfl ?_
  refine x_getr (r' := 54) flX11_30 dX11_meant_148 (sW47 hW) (gW47 hW) (rW47_7 hW) rfl (Nat.le_of_ble_eq_true rfl) ?_
  refine x_iload_n dX11_meant_151 rfl ?_
  obtain ⟨hi, F⟩ := F
  refine x_iald (e := (v 54 x1)) dX11_meant_152 (sW54 hW) (gW54 hW) hi rfl ?_
  refine x_icmp_ge 250 dX11_meant_153 rfl (fun hc => ?_) (fun hc => ?_)
  · have F := F.1 hc
    refine x_aload_n dX11_meant_250 rfl ?_
    refine x_iconst dX11_meant_251 rfl (i32_of rfl) ?_
    refine x_puti 0 fwX11_258 dX11_meant_252 (sW47 hW) (gW47 hW) (fun h => Bool.noConfusion h) (Nat.le_of_ble_eq_true rfl) rfl (Or.inl ⟨rfl, Or.inr ⟨rfl, Or.inr rfl⟩⟩) ?_
    refine x_aload_n dX11_meant_255 rfl ?_
    refine x_getr (r' := 50) flX11_17 dX11_meant_256 (sW47 hW) (gW47 hW) (rW47_3 hW) rfl (Nat.le_of_ble_eq_true rfl) ?_
    refine x_iload_n dX11_meant_259 rfl ?_
    obtain ⟨hi, F⟩ := F
    refine x_iald (e := (v 50 x1)) dX11_meant_260 (sW50 hW) (gW50 hW) hi rfl ?_
    refine x_if_le 299 dX11_meant_261 rfl (fun hc => ?_) (fun hc => ?_)
    · have F := F.1 hc
      exact F
    · have F := F.2 hc
      refine x_iconst dX11_meant_264 rfl (i32_of rfl) ?_
      refine x_istore_n [(2, 47), (0, x1), (0, x2), (0, 0), (3, 0)] dX11_meant_265 rfl (Nat.le_of_ble_eq_true rfl) ?_
      exact F
  · have F := F.2 hc
    refine x_aload_n dX11_meant_156 rfl ?_
    refine x_getr (r' := 55) flX11_33 dX11_meant_157 (sW47 hW) (gW47 hW) (rW47_8 hW) rfl (Nat.le_of_ble_eq_true rfl) ?_
    refine x_iconst dX11_meant_160 rfl (i32_of rfl) ?_
    refine x_iload_n dX11_meant_161 rfl ?_
    obtain ⟨hz, F⟩ := F
    refine x_imul dX11_meant_162 hz ?_
    refine x_iload_n dX11_meant_163 rfl ?_
    refine x_si32 (i := 1) rfl (fun hk1 => ?_)
    obtain ⟨hz, F⟩ := F
    have hz := hz hk1
    refine x_iadd dX11_meant_164 hz ?_
    refine x_aload_n dX11_meant_165 rfl ?_
    refine x_aload_n dX11_meant_166 rfl ?_
    refine x_getr (r' := 70) flX11_108 dX11_meant_167 (sW47 hW) (gW47 hW) (rW47_43 hW) rfl (Nat.le_of_ble_eq_true rfl) ?_
    refine x_iload_n dX11_meant_170 rfl ?_
    obtain ⟨hi, F⟩ := F
    refine x_lald (e := (v 70 x3)) dX11_meant_171 (sW70 hW) (gW70 hW) hi rfl ?_
    obtain ⟨P14, hC, F⟩ := F
    refine x_inv dX11_meant_172 mlX11_288 hC (sW47 hW) (Nat.le_of_ble_eq_true rfl) (gW47 hW) rfl rfl (by omega) (Nat.zero_le _) (Nat.zero_le _) (Nat.le_of_ble_eq_true rfl) (fun o1 Y17 w16 ht hP => ?_)
    obtain ⟨r15, rfl⟩ : ∃ i, o1 = some (0, i) := ht
    obtain ⟨rfl, hP⟩ := hP
    have F := F r15 w16 hP
    obtain ⟨hi, F⟩ := F
    refine x_iast dX11_meant_175 (sW55 hW) (gW55 hW) hi ?_
    refine x_aload_n dX11_meant_176 rfl ?_
    refine x_getr (r' := 55) flX11_33 dX11_meant_177 (sW47 hW) (gW47 hW) (rW47_8 hW) rfl (Nat.le_of_ble_eq_true rfl) ?_
    refine x_iconst dX11_meant_180 rfl (i32_of rfl) ?_
    refine x_iload_n dX11_meant_181 rfl ?_
    obtain ⟨hz, F⟩ := F
    refine x_imul dX11_meant_182 hz ?_
    refine x_iload_n dX11_meant_183 rfl ?_
    refine x_si32 (i := 1) rfl (fun hk1 => ?_)
    obtain ⟨hz, F⟩ := F
    have hz := hz hk1
    refine x_iadd dX11_meant_184 hz ?_
    obtain ⟨hi, F⟩ := F
    refine x_iald (e := r15) dX11_meant_185 (sW55 hW) (gW55 hW) hi (by simp [upd2]) ?_
    refine x_iconst dX11_meant_186 rfl (i32_of rfl) ?_
    refine x_icmp_ne 201 dX11_meant_187 rfl (fun hc => ?_) (fun hc => ?_)
    · have F := F.1 hc
      refine x_iconst dX11_meant_201 rfl (i32_of rfl) ?_
      refine x_istore [(2, 47), (0, x1), (0, x2), (0, x3), (0, 0)] dX11_meant_202 rfl (Nat.le_of_ble_eq_true rfl) ?_
      exact F
    · have F := F.2 hc
      refine x_aload_n dX11_meant_190 rfl ?_
      refine x_iconst dX11_meant_191 rfl (i32_of rfl) ?_
      refine x_aload_n dX11_meant_192 rfl ?_
      refine x_getr (r' := 71) flX11_111 dX11_meant_193 (sW47 hW) (gW47 hW) (rW47_44 hW) rfl (Nat.le_of_ble_eq_true rfl) ?_
      refine x_iload_n dX11_meant_196 rfl ?_
      obtain ⟨hi, F⟩ := F
      refine x_iald (e := (w16 71 x3)) dX11_meant_197 (sW71 hW) (gW71 hW) hi rfl ?_
      obtain ⟨P18, hC, F⟩ := F
      refine x_inv dX11_meant_198 mlX11_262 hC (sW47 hW) (Nat.le_of_ble_eq_true rfl) (gW47 hW) rfl rfl (by omega) (Nat.zero_le _) (Nat.zero_le _) (Nat.le_of_ble_eq_true rfl) (fun o1 Y21 w20 ht hP => ?_)
      obtain rfl : o1 = none := ht
      obtain ⟨rfl, hP⟩ := hP
      have F := F w20 hP
      refine x_iconst dX11_meant_201 rfl (i32_of rfl) ?_
      refine x_istore [(2, 47), (0, x1), (0, x2), (0, x3), (0, 0)] dX11_meant_202 rfl (Nat.le_of_ble_eq_true rfl) ?_
      exact F

set_option maxRecDepth 100000 in
set_option maxHeartbeats 4000000 in
theorem bX11_meant_204 {d mc ms : Nat} {X : XX} {v : VV} {Q : QQ} (x1 : Int) (x2 : Int) (x3 : Int) (x4 : Int) (hd : 4 ≤ d) (hW : SW X) (F : i32 x1 → i32 x2 → i32 x3 → i32 x4 → (((x3 ≤ x4) → i32 (x3 + 1) ∧ Ex mX11_meant d 146 [(2, 47), (0, x1), (0, x2), (0, (x3 + 1)), (3, 0)] [] X v mc ms Q) ∧ ((x4 < x3) → (0 ≤ x4 ∧ x4 < 3) ∧ (0 ≤ x3 ∧ x3 < 3) ∧ (((¬ (v 70 x4) = (v 70 x3)) → i32 (x4 + 1) ∧ Ex mX11_meant d 204 [(2, 47), (0, x1), (0, x2), (0, x3), (0, (x4 + 1))] [] X v mc ms Q) ∧ (((v 70 x4) = (v 70 x3)) → (0 ≤ x3 ∧ x3 < 3) ∧ ∃ P23 : Option AV → VV → Prop, Con mX11_means 0 0 0 [(2, 47), (0, 4), (0, (v 71 x3))] X v (fun o X1 v1 => X1 = X ∧ P23 o v1) ∧ ∀ (w25 : VV), P23 none w25 → i32 (x4 + 1) ∧ Ex mX11_meant d 204 [(2, 47), (0, x1), (0, x2), (0, x3), (0, (x4 + 1))] [] X w25 mc ms Q))))) : Ex mX11_meant d 204 [(2, 47), (0, x1), (0, x2), (0, x3), (0, x4)] [] X v mc ms Q := by
  refine x_li32 (i := 1) rfl (fun hx1 => ?_)
  have F := F hx1
  refine x_li32 (i := 2) rfl (fun hx2 => ?_)
  have F := F hx2
  refine x_li32 (i := 3) rfl (fun hx3 => ?_)
  have F := F hx3
  refine x_li32 (i := 4) rfl (fun hx4 => ?_)
  have F := F hx4
  refine x_iload dX11_meant_204 rfl ?_
  refine x_iload_n dX11_meant_206 rfl ?_
  refine x_icmp_ge 244 dX11_meant_207 rfl (fun hc => ?_) (fun hc => ?_)
  · have F := F.1 hc
    obtain ⟨hz, F⟩ := F
    refine x_iinc [(2, 47), (0, x1), (0, x2), (0, (x3 + 1)), (0, x4)] dX11_meant_244 rfl rfl (Nat.le_of_ble_eq_true rfl) hz ?_
    refine x_goto 146 dX11_meant_247 rfl ?_
    exact x_less [(2, 47), (0, x1), (0, x2), (0, (x3 + 1)), (3, 0)] ⟨Or.inr rfl, ⟨Or.inr rfl, ⟨Or.inr rfl, ⟨Or.inr rfl, ⟨Or.inl rfl, trivial⟩⟩⟩⟩⟩ F
  · have F := F.2 hc
    refine x_aload_n dX11_meant_210 rfl ?_
    refine x_getr (r' := 70) flX11_108 dX11_meant_211 (sW47 hW) (gW47 hW) (rW47_43 hW) rfl (Nat.le_of_ble_eq_true rfl) ?_
    refine x_iload dX11_meant_214 rfl ?_
    obtain ⟨hi, F⟩ := F
    refine x_lald (e := (v 70 x4)) dX11_meant_216 (sW70 hW) (gW70 hW) hi rfl ?_
    refine x_aload_n dX11_meant_217 rfl ?_
    refine x_getr (r' := 70) flX11_108 dX11_meant_218 (sW47 hW) (gW47 hW) (rW47_43 hW) rfl (Nat.le_of_ble_eq_true rfl) ?_
    refine x_iload_n dX11_meant_221 rfl ?_
    obtain ⟨hi, F⟩ := F
    refine x_lald (e := (v 70 x3)) dX11_meant_222 (sW70 hW) (gW70 hW) hi rfl ?_
    refine x_lcmp dX11_meant_223 (fun z22 hz221 hz222 hz223 => ?_)
    refine x_if_ne 238 dX11_meant_224 rfl (fun hc => ?_) (fun hc => ?_)
    · have F := F.1 (fun q => hc (hz221.mpr q))
      obtain ⟨hz, F⟩ := F
      refine x_iinc [(2, 47), (0, x1), (0, x2), (0, x3), (0, (x4 + 1))] dX11_meant_238 rfl rfl (Nat.le_of_ble_eq_true rfl) hz ?_
      refine x_goto 204 dX11_meant_241 rfl ?_
      exact F
    · have F := F.2 (hz221.mp hc)
      refine x_aload_n dX11_meant_227 rfl ?_
      refine x_iconst dX11_meant_228 rfl (i32_of rfl) ?_
      refine x_aload_n dX11_meant_229 rfl ?_
      refine x_getr (r' := 71) flX11_111 dX11_meant_230 (sW47 hW) (gW47 hW) (rW47_44 hW) rfl (Nat.le_of_ble_eq_true rfl) ?_
      refine x_iload_n dX11_meant_233 rfl ?_
      obtain ⟨hi, F⟩ := F
      refine x_iald (e := (v 71 x3)) dX11_meant_234 (sW71 hW) (gW71 hW) hi rfl ?_
      obtain ⟨P23, hC, F⟩ := F
      refine x_inv dX11_meant_235 mlX11_262 hC (sW47 hW) (Nat.le_of_ble_eq_true rfl) (gW47 hW) rfl rfl (by omega) (Nat.zero_le _) (Nat.zero_le _) (Nat.le_of_ble_eq_true rfl) (fun o1 Y26 w25 ht hP => ?_)
      obtain rfl : o1 = none := ht
      obtain ⟨rfl, hP⟩ := hP
      have F := F w25 hP
      obtain ⟨hz, F⟩ := F
      refine x_iinc [(2, 47), (0, x1), (0, x2), (0, x3), (0, (x4 + 1))] dX11_meant_238 rfl rfl (Nat.le_of_ble_eq_true rfl) hz ?_
      refine x_goto 204 dX11_meant_241 rfl ?_
      exact F

set_option maxRecDepth 100000 in
set_option maxHeartbeats 4000000 in
theorem bX11_meant_266 {d mc ms : Nat} {X : XX} {v : VV} {Q : QQ} (x1 : Int) (x2 : Int) (x3 : Int) (hd : 4 ≤ d) (hW : SW X) (F : i32 x1 → i32 x2 → i32 x3 → (0 ≤ x1 ∧ x1 < 17) ∧ ((((v 51 x1) ≤ x3) → Ex mX11_meant d 299 [(2, 47), (0, x1), (0, x2), (0, x3), (3, 0)] [] X v mc ms Q) ∧ ((x3 < (v 51 x1)) → i32 (8 * x1) ∧ (i32 (8 * x1) → i32 ((8 * x1) + x3)) ∧ ∃ P27 : Option AV → VV → Prop, Con mX11_typeOf 3 0 0 [(2, 47), (0, x1), (0, x3)] X v (fun o X1 v1 => X1 = X ∧ P27 o v1) ∧ ∀ (r28 : Int) (w29 : VV), P27 (some (0, r28)) w29 → (0 ≤ ((8 * x1) + x3) ∧ ((8 * x1) + x3) < 136) ∧ i32 (x3 + 1) ∧ Ex mX11_meant d 266 [(2, 47), (0, x1), (0, x2), (0, (x3 + 1)), (3, 0)] [] X (upd2 w29 53 ((8 * x1) + x3) r28) mc ms Q))) : Ex mX11_meant d 266 [(2, 47), (0, x1), (0, x2), (0, x3), (3, 0)] [] X v mc ms Q := by
  refine x_li32 (i := 1) rfl (fun hx1 => ?_)
  have F := F hx1
  refine x_li32 (i := 2) rfl (fun hx2 => ?_)
  have F := F hx2
  refine x_li32 (i := 3) rfl (fun hx3 => ?_)
  have F := F hx3
  refine x_iload_n dX11_meant_266 rfl ?_
  refine x_aload_n dX11_meant_267 rfl ?_
  refine x_getr (r' := 51) flX11_21 dX11_meant_268 (sW47 hW) (gW47 hW) (rW47_4 hW) rfl (Nat.le_of_ble_eq_true rfl) ?_
  refine x_iload_n dX11_meant_271 rfl ?_
  obtain ⟨hi, F⟩ := F
  refine x_iald (e := (v 51 x1)) dX11_meant_272 (sW51 hW) (gW51 hW) hi rfl ?_
  refine x_icmp_ge 299 dX11_meant_273 rfl (fun hc => ?_) (fun hc => ?_)
  · have F := F.1 hc
    exact F
  · have F := F.2 hc
    refine x_aload_n dX11_meant_276 rfl ?_
    refine x_getr (r' := 53) flX11_27 dX11_meant_277 (sW47 hW) (gW47 hW) (rW47_6 hW) rfl (Nat.le_of_ble_eq_true rfl) ?_
    refine x_bipush dX11_meant_280 kb_8 (i32_of rfl) ?_
    refine x_iload_n dX11_meant_282 rfl ?_
    obtain ⟨hz, F⟩ := F
    refine x_imul dX11_meant_283 hz ?_
    refine x_iload_n dX11_meant_284 rfl ?_
    refine x_si32 (i := 1) rfl (fun hk1 => ?_)
    obtain ⟨hz, F⟩ := F
    have hz := hz hk1
    refine x_iadd dX11_meant_285 hz ?_
    refine x_aload_n dX11_meant_286 rfl ?_
    refine x_iload_n dX11_meant_287 rfl ?_
    refine x_iload_n dX11_meant_288 rfl ?_
    obtain ⟨P27, hC, F⟩ := F
    refine x_inv dX11_meant_289 mlX11_292 hC (sW47 hW) (Nat.le_of_ble_eq_true rfl) (gW47 hW) rfl rfl (by omega) (Nat.zero_le _) (Nat.zero_le _) (Nat.le_of_ble_eq_true rfl) (fun o1 Y30 w29 ht hP => ?_)
    obtain ⟨r28, rfl⟩ : ∃ i, o1 = some (0, i) := ht
    obtain ⟨rfl, hP⟩ := hP
    have F := F r28 w29 hP
    obtain ⟨hi, F⟩ := F
    refine x_iast dX11_meant_292 (sW53 hW) (gW53 hW) hi ?_
    obtain ⟨hz, F⟩ := F
    refine x_iinc [(2, 47), (0, x1), (0, x2), (0, (x3 + 1)), (3, 0)] dX11_meant_293 rfl rfl (Nat.le_of_ble_eq_true rfl) hz ?_
    refine x_goto 266 dX11_meant_296 rfl ?_
    exact F

set_option maxRecDepth 100000 in
set_option maxHeartbeats 4000000 in
theorem bX11_meant_299 {d mc ms : Nat} {X : XX} {v : VV} {Q : QQ} (x1 : Int) (x2 : Int) (x3 : Int) (hd : 4 ≤ d) (hW : SW X) (F : i32 x1 → i32 x2 → i32 x3 → ∃ P31 : Option AV → VV → Prop, Con mX11_hasWhere 0 0 0 [(2, 47), (0, x1)] X v (fun o X1 v1 => X1 = X ∧ P31 o v1) ∧ ∀ (r32 : Int) (w33 : VV), P31 (some (0, r32)) w33 → (((r32 = 0) → Q none X (upd2 w33 47 52 0)) ∧ ((¬ r32 = 0) → ∃ P35 : Option AV → VV → Prop, Con mX11_typeOf 3 0 0 [(2, 47), (0, x1), (0, 6)] X w33 (fun o X1 v1 => X1 = X ∧ P35 o v1) ∧ ∀ (r36 : Int) (w37 : VV), P35 (some (0, r36)) w37 → ∃ P39 : Option AV → VV → Prop, Con mX11_typeOf 3 0 0 [(2, 47), (0, x1), (0, 7)] X w37 (fun o X1 v1 => X1 = X ∧ P39 o v1) ∧ ∀ (r40 : Int) (w41 : VV), P39 (some (0, r40)) w41 → (((r36 = 0) → Q none X (upd2 w41 47 52 0)) ∧ ((¬ r36 = 0) → (((r40 = 0) → Q none X (upd2 w41 47 52 0)) ∧ ((¬ r40 = 0) → (((r36 = r40) → Q none X (upd2 w41 47 52 0)) ∧ ((¬ r36 = r40) → ∃ P43 : Option AV → VV → Prop, Con mX11_means 0 0 0 [(2, 47), (0, 3), (0, (w41 47 42))] X w41 (fun o X1 v1 => X1 = X ∧ P43 o v1) ∧ ∀ (w45 : VV), P43 none w45 → Q none X (upd2 w45 47 52 0)))))))))) : Ex mX11_meant d 299 [(2, 47), (0, x1), (0, x2), (0, x3), (3, 0)] [] X v mc ms Q := by
  refine x_li32 (i := 1) rfl (fun hx1 => ?_)
  have F := F hx1
  refine x_li32 (i := 2) rfl (fun hx2 => ?_)
  have F := F hx2
  refine x_li32 (i := 3) rfl (fun hx3 => ?_)
  have F := F hx3
  refine x_aload_n dX11_meant_299 rfl ?_
  refine x_iload_n dX11_meant_300 rfl ?_
  obtain ⟨P31, hC, F⟩ := F
  refine x_inv dX11_meant_301 mlX11_295 hC (sW47 hW) (Nat.le_of_ble_eq_true rfl) (gW47 hW) rfl rfl (by omega) (Nat.zero_le _) (Nat.zero_le _) (Nat.le_of_ble_eq_true rfl) (fun o1 Y34 w33 ht hP => ?_)
  obtain ⟨r32, rfl⟩ : ∃ i, o1 = some (0, i) := ht
  obtain ⟨rfl, hP⟩ := hP
  have F := F r32 w33 hP
  refine x_if_eq 348 dX11_meant_304 rfl (fun hc => ?_) (fun hc => ?_)
  · have F := F.1 hc
    refine x_aload_n dX11_meant_348 rfl ?_
    refine x_iconst dX11_meant_349 rfl (i32_of rfl) ?_
    refine x_puti 0 fwX11_258 dX11_meant_350 (sW47 hW) (gW47 hW) (fun h => Bool.noConfusion h) (Nat.le_of_ble_eq_true rfl) rfl (Or.inl ⟨rfl, Or.inr ⟨rfl, Or.inl rfl⟩⟩) ?_
    exact x_ret none rfl ⟨dX11_meant_353, rfl⟩ F
  · have F := F.2 hc
    refine x_aload_n dX11_meant_307 rfl ?_
    refine x_iload_n dX11_meant_308 rfl ?_
    refine x_bipush dX11_meant_309 kb_6 (i32_of rfl) ?_
    obtain ⟨P35, hC, F⟩ := F
    refine x_inv dX11_meant_311 mlX11_292 hC (sW47 hW) (Nat.le_of_ble_eq_true rfl) (gW47 hW) rfl rfl (by omega) (Nat.zero_le _) (Nat.zero_le _) (Nat.le_of_ble_eq_true rfl) (fun o1 Y38 w37 ht hP => ?_)
    obtain ⟨r36, rfl⟩ : ∃ i, o1 = some (0, i) := ht
    obtain ⟨rfl, hP⟩ := hP
    have F := F r36 w37 hP
    refine x_istore_n [(2, 47), (0, x1), (0, x2), (0, r36), (3, 0)] dX11_meant_314 rfl (Nat.le_of_ble_eq_true rfl) ?_
    refine x_aload_n dX11_meant_315 rfl ?_
    refine x_iload_n dX11_meant_316 rfl ?_
    refine x_bipush dX11_meant_317 kb_7 (i32_of rfl) ?_
    obtain ⟨P39, hC, F⟩ := F
    refine x_inv dX11_meant_319 mlX11_292 hC (sW47 hW) (Nat.le_of_ble_eq_true rfl) (gW47 hW) rfl rfl (by omega) (Nat.zero_le _) (Nat.zero_le _) (Nat.le_of_ble_eq_true rfl) (fun o1 Y42 w41 ht hP => ?_)
    obtain ⟨r40, rfl⟩ : ∃ i, o1 = some (0, i) := ht
    obtain ⟨rfl, hP⟩ := hP
    have F := F r40 w41 hP
    refine x_istore [(2, 47), (0, x1), (0, x2), (0, r36), (0, r40)] dX11_meant_322 rfl (Nat.le_of_ble_eq_true rfl) ?_
    refine x_iload_n dX11_meant_324 rfl ?_
    refine x_if_eq 348 dX11_meant_325 rfl (fun hc => ?_) (fun hc => ?_)
    · have F := F.1 hc
      refine x_aload_n dX11_meant_348 rfl ?_
      refine x_iconst dX11_meant_349 rfl (i32_of rfl) ?_
      refine x_puti 0 fwX11_258 dX11_meant_350 (sW47 hW) (gW47 hW) (fun h => Bool.noConfusion h) (Nat.le_of_ble_eq_true rfl) rfl (Or.inl ⟨rfl, Or.inr ⟨rfl, Or.inl rfl⟩⟩) ?_
      exact x_ret none rfl ⟨dX11_meant_353, rfl⟩ F
    · have F := F.2 hc
      refine x_iload dX11_meant_328 rfl ?_
      refine x_if_eq 348 dX11_meant_330 rfl (fun hc => ?_) (fun hc => ?_)
      · have F := F.1 hc
        refine x_aload_n dX11_meant_348 rfl ?_
        refine x_iconst dX11_meant_349 rfl (i32_of rfl) ?_
        refine x_puti 0 fwX11_258 dX11_meant_350 (sW47 hW) (gW47 hW) (fun h => Bool.noConfusion h) (Nat.le_of_ble_eq_true rfl) rfl (Or.inl ⟨rfl, Or.inr ⟨rfl, Or.inl rfl⟩⟩) ?_
        exact x_ret none rfl ⟨dX11_meant_353, rfl⟩ F
      · have F := F.2 hc
        refine x_iload_n dX11_meant_333 rfl ?_
        refine x_iload dX11_meant_334 rfl ?_
        refine x_icmp_eq 348 dX11_meant_336 rfl (fun hc => ?_) (fun hc => ?_)
        · have F := F.1 hc
          refine x_aload_n dX11_meant_348 rfl ?_
          refine x_iconst dX11_meant_349 rfl (i32_of rfl) ?_
          refine x_puti 0 fwX11_258 dX11_meant_350 (sW47 hW) (gW47 hW) (fun h => Bool.noConfusion h) (Nat.le_of_ble_eq_true rfl) rfl (Or.inl ⟨rfl, Or.inr ⟨rfl, Or.inl rfl⟩⟩) ?_
          exact x_ret none rfl ⟨dX11_meant_353, rfl⟩ F
        · have F := F.2 hc
          refine x_aload_n dX11_meant_339 rfl ?_
          refine x_iconst dX11_meant_340 rfl (i32_of rfl) ?_
          refine x_aload_n dX11_meant_341 rfl ?_
          refine x_geti (e := (w41 47 42)) 0 flX11_252 dX11_meant_342 (sW47 hW) (gW47 hW) rfl rfl (Nat.le_of_ble_eq_true rfl) (tagn2 rfl) ?_
          obtain ⟨P43, hC, F⟩ := F
          refine x_inv dX11_meant_345 mlX11_262 hC (sW47 hW) (Nat.le_of_ble_eq_true rfl) (gW47 hW) rfl rfl (by omega) (Nat.zero_le _) (Nat.zero_le _) (Nat.le_of_ble_eq_true rfl) (fun o1 Y46 w45 ht hP => ?_)
          obtain rfl : o1 = none := ht
          obtain ⟨rfl, hP⟩ := hP
          have F := F w45 hP
          refine x_aload_n dX11_meant_348 rfl ?_
          refine x_iconst dX11_meant_349 rfl (i32_of rfl) ?_
          refine x_puti 0 fwX11_258 dX11_meant_350 (sW47 hW) (gW47 hW) (fun h => Bool.noConfusion h) (Nat.le_of_ble_eq_true rfl) rfl (Or.inl ⟨rfl, Or.inr ⟨rfl, Or.inl rfl⟩⟩) ?_
          exact x_ret none rfl ⟨dX11_meant_353, rfl⟩ F
