set_option maxRecDepth 100000 in
set_option maxHeartbeats 4000000 in
theorem bX11_looks_0 {d mc ms : Nat} {X : XX} {v : VV} {Q : QQ} (a1 : Int) (hd : 0 ≤ d) (hW : SW X) (F : i32 a1 → (0 ≤ (v 47 65) ∧ (v 47 65) < 136) ∧ (i32 (v 47 65) → i32 ((v 47 65) + 1)) ∧ Q none X (upd2 (upd2 v 86 (v 47 65) a1) 47 65 ((v 47 65) + 1))) : Ex mX11_looks d 0 [(2, 47), (0, a1)] [] X v mc ms Q := by
  refine x_li32 (i := 1) rfl (fun ha1 => ?_)
  have F := F ha1
  refine x_aload_n dX11_looks_0 rfl ?_
  refine x_getr (r' := 86) flX11_156 dX11_looks_1 (sW47 hW) (gW47 hW) (rW47_66 hW) rfl (Nat.le_of_ble_eq_true rfl) ?_
  refine x_aload_n dX11_looks_4 rfl ?_
  refine x_geti (e := (v 47 65)) 0 flX11_357 dX11_looks_5 (sW47 hW) (gW47 hW) rfl rfl (Nat.le_of_ble_eq_true rfl) (tagn2 rfl) ?_
  refine x_iload_n dX11_looks_8 rfl ?_
  obtain ⟨hi, F⟩ := F
  refine x_iast dX11_looks_9 (sW86 hW) (gW86 hW) hi ?_
  refine x_aload_n dX11_looks_10 rfl ?_
  refine x_dup dX11_looks_11 (tag1 rfl) ?_
  refine x_geti (e := (v 47 65)) 0 flX11_357 dX11_looks_12 (sW47 hW) (gW47 hW) rfl rfl (Nat.le_of_ble_eq_true rfl) (tagn2 rfl) ?_
  refine x_iconst dX11_looks_15 rfl (i32_of rfl) ?_
  refine x_si32 (i := 1) rfl (fun hk1 => ?_)
  obtain ⟨hz, F⟩ := F
  have hz := hz hk1
  refine x_iadd dX11_looks_16 hz ?_
  refine x_puti 0 fwX11_357 dX11_looks_17 (sW47 hW) (gW47 hW) (fun h => Bool.noConfusion h) (Nat.le_of_ble_eq_true rfl) rfl (Or.inl ⟨rfl, Or.inl rfl⟩) ?_
  exact x_ret none rfl ⟨dX11_looks_20, rfl⟩ F

set_option maxRecDepth 100000 in
set_option maxHeartbeats 4000000 in
theorem bX11_hasBehind_0 {d mc ms : Nat} {X : XX} {v : VV} {Q : QQ} (a1 : Int) (a2 : Int) (hd : 0 ≤ d) (hW : SW X) (F : i32 a1 → i32 a2 → Ex mX11_hasBehind d 2 [(2, 47), (0, a1), (0, a2), (0, 0)] [] X v mc ms Q) : Ex mX11_hasBehind d 0 [(2, 47), (0, a1), (0, a2), (3, 0)] [] X v mc ms Q := by
  refine x_li32 (i := 1) rfl (fun ha1 => ?_)
  have F := F ha1
  refine x_li32 (i := 2) rfl (fun ha2 => ?_)
  have F := F ha2
  refine x_iconst dX11_hasBehind_0 rfl (i32_of rfl) ?_
  refine x_istore_n [(2, 47), (0, a1), (0, a2), (0, 0)] dX11_hasBehind_1 rfl (Nat.le_of_ble_eq_true rfl) ?_
  exact F

set_option maxRecDepth 100000 in
set_option maxHeartbeats 4000000 in
theorem bX11_hasBehind_2 {d mc ms : Nat} {X : XX} {v : VV} {Q : QQ} (a1 : Int) (a2 : Int) (x3 : Int) (hd : 0 ≤ d) (hW : SW X) (F : i32 a1 → i32 a2 → i32 x3 → (0 ≤ a1 ∧ a1 < 17) ∧ ((((v 54 a1) ≤ x3) → Q (some (0, 0)) X v) ∧ ((x3 < (v 54 a1)) → i32 (3 * a1) ∧ (i32 (3 * a1) → i32 ((3 * a1) + x3)) ∧ (0 ≤ ((3 * a1) + x3) ∧ ((3 * a1) + x3) < 51) ∧ (((¬ (v 55 ((3 * a1) + x3)) = a2) → i32 (x3 + 1) ∧ Ex mX11_hasBehind d 2 [(2, 47), (0, a1), (0, a2), (0, (x3 + 1))] [] X v mc ms Q) ∧ (((v 55 ((3 * a1) + x3)) = a2) → Q (some (0, 1)) X v))))) : Ex mX11_hasBehind d 2 [(2, 47), (0, a1), (0, a2), (0, x3)] [] X v mc ms Q := by
  refine x_li32 (i := 1) rfl (fun ha1 => ?_)
  have F := F ha1
  refine x_li32 (i := 2) rfl (fun ha2 => ?_)
  have F := F ha2
  refine x_li32 (i := 3) rfl (fun hx3 => ?_)
  have F := F hx3
  refine x_iload_n dX11_hasBehind_2 rfl ?_
  refine x_aload_n dX11_hasBehind_3 rfl ?_
  refine x_getr (r' := 54) flX11_30 dX11_hasBehind_4 (sW47 hW) (gW47 hW) (rW47_7 hW) rfl (Nat.le_of_ble_eq_true rfl) ?_
  refine x_iload_n dX11_hasBehind_7 rfl ?_
  obtain ⟨hi, F⟩ := F
  refine x_iald (e := (v 54 a1)) dX11_hasBehind_8 (sW54 hW) (gW54 hW) hi rfl ?_
  refine x_icmp_ge 34 dX11_hasBehind_9 rfl (fun hc => ?_) (fun hc => ?_)
  · have F := F.1 hc
    refine x_iconst dX11_hasBehind_34 rfl (i32_of rfl) ?_
    exact x_ret (some (0, 0)) rfl ⟨dX11_hasBehind_35, Or.inr ⟨rfl, Or.inl rfl⟩⟩ F
  · have F := F.2 hc
    refine x_aload_n dX11_hasBehind_12 rfl ?_
    refine x_getr (r' := 55) flX11_33 dX11_hasBehind_13 (sW47 hW) (gW47 hW) (rW47_8 hW) rfl (Nat.le_of_ble_eq_true rfl) ?_
    refine x_iconst dX11_hasBehind_16 rfl (i32_of rfl) ?_
    refine x_iload_n dX11_hasBehind_17 rfl ?_
    obtain ⟨hz, F⟩ := F
    refine x_imul dX11_hasBehind_18 hz ?_
    refine x_iload_n dX11_hasBehind_19 rfl ?_
    refine x_si32 (i := 1) rfl (fun hk1 => ?_)
    obtain ⟨hz, F⟩ := F
    have hz := hz hk1
    refine x_iadd dX11_hasBehind_20 hz ?_
    obtain ⟨hi, F⟩ := F
    refine x_iald (e := (v 55 ((3 * a1) + x3))) dX11_hasBehind_21 (sW55 hW) (gW55 hW) hi rfl ?_
    refine x_iload_n dX11_hasBehind_22 rfl ?_
    refine x_icmp_ne 28 dX11_hasBehind_23 rfl (fun hc => ?_) (fun hc => ?_)
    · have F := F.1 hc
      obtain ⟨hz, F⟩ := F
      refine x_iinc [(2, 47), (0, a1), (0, a2), (0, (x3 + 1))] dX11_hasBehind_28 rfl rfl (Nat.le_of_ble_eq_true rfl) hz ?_
      refine x_goto 2 dX11_hasBehind_31 rfl ?_
      exact F
    · have F := F.2 hc
      refine x_iconst dX11_hasBehind_26 rfl (i32_of rfl) ?_
      exact x_ret (some (0, 1)) rfl ⟨dX11_hasBehind_27, Or.inr ⟨rfl, Or.inr rfl⟩⟩ F

set_option maxRecDepth 100000 in
set_option maxHeartbeats 4000000 in
theorem bX11_drop_0 {d mc ms : Nat} {X : XX} {v : VV} {Q : QQ} (a1 : Int) (hd : 1 ≤ d) (hW : SW X) (F : i32 a1 → ∃ P1 : Option AV → VV → Prop, Con mX11_isTable 0 0 0 [(2, 47), (0, a1)] X v (fun o X1 v1 => X1 = X ∧ P1 o v1) ∧ ∀ (r2 : Int) (w3 : VV), P1 (some (0, r2)) w3 → (((¬ r2 = 0) → Ex mX11_drop d 12 [(2, 47), (0, a1), (0, 0), (3, 0)] [] X w3 mc ms Q) ∧ ((r2 = 0) → Q (some (0, (-1))) X w3))) : Ex mX11_drop d 0 [(2, 47), (0, a1), (3, 0), (3, 0)] [] X v mc ms Q := by
  refine x_li32 (i := 1) rfl (fun ha1 => ?_)
  have F := F ha1
  refine x_aload_n dX11_drop_0 rfl ?_
  refine x_iload_n dX11_drop_1 rfl ?_
  obtain ⟨P1, hC, F⟩ := F
  refine x_inv dX11_drop_2 mlX11_162 hC (sW47 hW) (Nat.le_of_ble_eq_true rfl) (gW47 hW) rfl rfl (by omega) (Nat.zero_le _) (Nat.zero_le _) (Nat.le_of_ble_eq_true rfl) (fun o1 Y4 w3 ht hP => ?_)
  obtain ⟨r2, rfl⟩ : ∃ i, o1 = some (0, i) := ht
  obtain ⟨rfl, hP⟩ := hP
  have F := F r2 w3 hP
  refine x_if_ne 10 dX11_drop_5 rfl (fun hc => ?_) (fun hc => ?_)
  · have F := F.1 hc
    refine x_iconst dX11_drop_10 rfl (i32_of rfl) ?_
    refine x_istore_n [(2, 47), (0, a1), (0, 0), (3, 0)] dX11_drop_11 rfl (Nat.le_of_ble_eq_true rfl) ?_
    exact F
  · have F := F.2 hc
    refine x_iconst dX11_drop_8 rfl (i32_of rfl) ?_
    exact x_ret (some (0, (-1))) rfl ⟨dX11_drop_9, Or.inl rfl⟩ F

set_option maxRecDepth 100000 in
set_option maxHeartbeats 4000000 in
theorem bX11_drop_12 {d mc ms : Nat} {X : XX} {v : VV} {Q : QQ} (a1 : Int) (x2 : Int) (hd : 1 ≤ d) (hW : SW X) (F : i32 a1 → i32 x2 → ((((v 47 0) ≤ x2) → (0 ≤ a1 ∧ a1 < 17) ∧ Ex mX11_drop d 58 [(2, 47), (0, a1), (0, 0), (0, 0)] [] X (upd2 v 48 a1 0) mc ms Q) ∧ ((x2 < (v 47 0)) → (0 ≤ x2 ∧ x2 < 17) ∧ ((((v 48 x2) = 0) → i32 (x2 + 1) ∧ Ex mX11_drop d 12 [(2, 47), (0, a1), (0, (x2 + 1)), (3, 0)] [] X v mc ms Q) ∧ ((¬ (v 48 x2) = 0) → ∃ P5 : Option AV → VV → Prop, Con mX11_hasBehind 0 0 0 [(2, 47), (0, x2), (0, a1)] X v (fun o X1 v1 => X1 = X ∧ P5 o v1) ∧ ∀ (r6 : Int) (w7 : VV), P5 (some (0, r6)) w7 → (((r6 = 0) → i32 (x2 + 1) ∧ Ex mX11_drop d 12 [(2, 47), (0, a1), (0, (x2 + 1)), (3, 0)] [] X w7 mc ms Q) ∧ ((¬ r6 = 0) → Q (some (0, (-2))) X w7))))))) : Ex mX11_drop d 12 [(2, 47), (0, a1), (0, x2), (3, 0)] [] X v mc ms Q := by
  refine x_li32 (i := 1) rfl (fun ha1 => ?_)
  have F := F ha1
  refine x_li32 (i := 2) rfl (fun hx2 => ?_)
  have F := F hx2
  refine x_iload_n dX11_drop_12 rfl ?_
  refine x_aload_n dX11_drop_13 rfl ?_
  refine x_geti (e := (v 47 0)) 0 flX11_159 dX11_drop_14 (sW47 hW) (gW47 hW) rfl rfl (Nat.le_of_ble_eq_true rfl) (tagn2 rfl) ?_
  refine x_icmp_ge 47 dX11_drop_17 rfl (fun hc => ?_) (fun hc => ?_)
  · have F := F.1 hc
    refine x_aload_n dX11_drop_47 rfl ?_
    refine x_getr (r' := 48) flX11_7 dX11_drop_48 (sW47 hW) (gW47 hW) (rW47_1 hW) rfl (Nat.le_of_ble_eq_true rfl) ?_
    refine x_iload_n dX11_drop_51 rfl ?_
    refine x_iconst dX11_drop_52 rfl (i32_of rfl) ?_
    obtain ⟨hi, F⟩ := F
    refine x_zast dX11_drop_53 (sW48 hW) (gW48 hW) hi (Or.inl rfl) ?_
    refine x_iconst dX11_drop_54 rfl (i32_of rfl) ?_
    refine x_istore_n [(2, 47), (0, a1), (0, 0), (3, 0)] dX11_drop_55 rfl (Nat.le_of_ble_eq_true rfl) ?_
    refine x_iconst dX11_drop_56 rfl (i32_of rfl) ?_
    refine x_istore_n [(2, 47), (0, a1), (0, 0), (0, 0)] dX11_drop_57 rfl (Nat.le_of_ble_eq_true rfl) ?_
    exact F
  · have F := F.2 hc
    refine x_aload_n dX11_drop_20 rfl ?_
    refine x_getr (r' := 48) flX11_7 dX11_drop_21 (sW47 hW) (gW47 hW) (rW47_1 hW) rfl (Nat.le_of_ble_eq_true rfl) ?_
    refine x_iload_n dX11_drop_24 rfl ?_
    obtain ⟨hi, F⟩ := F
    refine x_zald (e := (v 48 x2)) dX11_drop_25 (sW48 hW) (gW48 hW) hi rfl ?_
    refine x_if_eq 41 dX11_drop_26 rfl (fun hc => ?_) (fun hc => ?_)
    · have F := F.1 hc
      obtain ⟨hz, F⟩ := F
      refine x_iinc [(2, 47), (0, a1), (0, (x2 + 1)), (3, 0)] dX11_drop_41 rfl rfl (Nat.le_of_ble_eq_true rfl) hz ?_
      refine x_goto 12 dX11_drop_44 rfl ?_
      exact F
    · have F := F.2 hc
      refine x_aload_n dX11_drop_29 rfl ?_
      refine x_iload_n dX11_drop_30 rfl ?_
      refine x_iload_n dX11_drop_31 rfl ?_
      obtain ⟨P5, hC, F⟩ := F
      refine x_inv dX11_drop_32 mlX11_360 hC (sW47 hW) (Nat.le_of_ble_eq_true rfl) (gW47 hW) rfl rfl (by omega) (Nat.zero_le _) (Nat.zero_le _) (Nat.le_of_ble_eq_true rfl) (fun o1 Y8 w7 ht hP => ?_)
      obtain ⟨r6, rfl⟩ : ∃ i, o1 = some (0, i) := ht
      obtain ⟨rfl, hP⟩ := hP
      have F := F r6 w7 hP
      refine x_if_eq 41 dX11_drop_35 rfl (fun hc => ?_) (fun hc => ?_)
      · have F := F.1 hc
        obtain ⟨hz, F⟩ := F
        refine x_iinc [(2, 47), (0, a1), (0, (x2 + 1)), (3, 0)] dX11_drop_41 rfl rfl (Nat.le_of_ble_eq_true rfl) hz ?_
        refine x_goto 12 dX11_drop_44 rfl ?_
        exact F
      · have F := F.2 hc
        refine x_bipush dX11_drop_38 kb_m2 (i32_of rfl) ?_
        exact x_ret (some (0, (-2))) rfl ⟨dX11_drop_40, Or.inl rfl⟩ F

set_option maxRecDepth 100000 in
set_option maxHeartbeats 4000000 in
theorem bX11_drop_58 {d mc ms : Nat} {X : XX} {v : VV} {Q : QQ} (a1 : Int) (x2 : Int) (x3 : Int) (hd : 1 ≤ d) (hW : SW X) (F : i32 a1 → i32 x2 → i32 x3 → ((((v 47 59) ≤ x3) → Q (some (0, x2)) X v) ∧ ((x3 < (v 47 59)) → (0 ≤ x3 ∧ x3 < 40) ∧ (((¬ (v 83 x3) = a1) → i32 (x3 + 1) ∧ Ex mX11_drop d 58 [(2, 47), (0, a1), (0, x2), (0, (x3 + 1))] [] X v mc ms Q) ∧ (((v 83 x3) = a1) → (0 ≤ x3 ∧ x3 < 40) ∧ (((¬ (v 84 x3) = 0) → (0 ≤ x3 ∧ x3 < 40) ∧ i32 (x2 + 1) ∧ i32 (x3 + 1) ∧ Ex mX11_drop d 58 [(2, 47), (0, a1), (0, (x2 + 1)), (0, (x3 + 1))] [] X (upd2 v 84 x3 0) mc ms Q) ∧ (((v 84 x3) = 0) → i32 (x3 + 1) ∧ Ex mX11_drop d 58 [(2, 47), (0, a1), (0, x2), (0, (x3 + 1))] [] X v mc ms Q))))))) : Ex mX11_drop d 58 [(2, 47), (0, a1), (0, x2), (0, x3)] [] X v mc ms Q := by
  refine x_li32 (i := 1) rfl (fun ha1 => ?_)
  have F := F ha1
  refine x_li32 (i := 2) rfl (fun hx2 => ?_)
  have F := F hx2
  refine x_li32 (i := 3) rfl (fun hx3 => ?_)
  have F := F hx3
  refine x_iload_n dX11_drop_58 rfl ?_
  refine x_aload_n dX11_drop_59 rfl ?_
  refine x_geti (e := (v 47 59)) 0 flX11_348 dX11_drop_60 (sW47 hW) (gW47 hW) rfl rfl (Nat.le_of_ble_eq_true rfl) (tagn2 rfl) ?_
  refine x_icmp_ge 104 dX11_drop_63 rfl (fun hc => ?_) (fun hc => ?_)
  · have F := F.1 hc
    refine x_iload_n dX11_drop_104 rfl ?_
    exact x_ret (some (0, x2)) rfl ⟨dX11_drop_105, Or.inl rfl⟩ F
  · have F := F.2 hc
    refine x_aload_n dX11_drop_66 rfl ?_
    refine x_getr (r' := 83) flX11_147 dX11_drop_67 (sW47 hW) (gW47 hW) (rW47_61 hW) rfl (Nat.le_of_ble_eq_true rfl) ?_
    refine x_iload_n dX11_drop_70 rfl ?_
    obtain ⟨hi, F⟩ := F
    refine x_iald (e := (v 83 x3)) dX11_drop_71 (sW83 hW) (gW83 hW) hi rfl ?_
    refine x_iload_n dX11_drop_72 rfl ?_
    refine x_icmp_ne 98 dX11_drop_73 rfl (fun hc => ?_) (fun hc => ?_)
    · have F := F.1 hc
      obtain ⟨hz, F⟩ := F
      refine x_iinc [(2, 47), (0, a1), (0, x2), (0, (x3 + 1))] dX11_drop_98 rfl rfl (Nat.le_of_ble_eq_true rfl) hz ?_
      refine x_goto 58 dX11_drop_101 rfl ?_
      exact F
    · have F := F.2 hc
      refine x_aload_n dX11_drop_76 rfl ?_
      refine x_getr (r' := 84) flX11_150 dX11_drop_77 (sW47 hW) (gW47 hW) (rW47_62 hW) rfl (Nat.le_of_ble_eq_true rfl) ?_
      refine x_iload_n dX11_drop_80 rfl ?_
      obtain ⟨hi, F⟩ := F
      refine x_iald (e := (v 84 x3)) dX11_drop_81 (sW84 hW) (gW84 hW) hi rfl ?_
      refine x_if_ne 88 dX11_drop_82 rfl (fun hc => ?_) (fun hc => ?_)
      · have F := F.1 hc
        refine x_aload_n dX11_drop_88 rfl ?_
        refine x_getr (r' := 84) flX11_150 dX11_drop_89 (sW47 hW) (gW47 hW) (rW47_62 hW) rfl (Nat.le_of_ble_eq_true rfl) ?_
        refine x_iload_n dX11_drop_92 rfl ?_
        refine x_iconst dX11_drop_93 rfl (i32_of rfl) ?_
        obtain ⟨hi, F⟩ := F
        refine x_iast dX11_drop_94 (sW84 hW) (gW84 hW) hi ?_
        obtain ⟨hz, F⟩ := F
        refine x_iinc [(2, 47), (0, a1), (0, (x2 + 1)), (0, x3)] dX11_drop_95 rfl rfl (Nat.le_of_ble_eq_true rfl) hz ?_
        obtain ⟨hz, F⟩ := F
        refine x_iinc [(2, 47), (0, a1), (0, (x2 + 1)), (0, (x3 + 1))] dX11_drop_98 rfl rfl (Nat.le_of_ble_eq_true rfl) hz ?_
        refine x_goto 58 dX11_drop_101 rfl ?_
        exact F
      · have F := F.2 hc
        refine x_goto 98 dX11_drop_85 rfl ?_
        obtain ⟨hz, F⟩ := F
        refine x_iinc [(2, 47), (0, a1), (0, x2), (0, (x3 + 1))] dX11_drop_98 rfl rfl (Nat.le_of_ble_eq_true rfl) hz ?_
        refine x_goto 58 dX11_drop_101 rfl ?_
        exact F

set_option maxRecDepth 100000 in
set_option maxHeartbeats 4000000 in
theorem bX11_freeze_0 {d mc ms : Nat} {X : XX} {v : VV} {Q : QQ} (a1 : Int) (hd : 1 ≤ d) (hW : SW X) (F : i32 a1 → ∃ P1 : Option AV → VV → Prop, Con mX11_isTable 0 0 0 [(2, 47), (0, a1)] X v (fun o X1 v1 => X1 = X ∧ P1 o v1) ∧ ∀ (r2 : Int) (w3 : VV), P1 (some (0, r2)) w3 → (((r2 = 0) → Q (some (0, 0)) X w3) ∧ ((¬ r2 = 0) → (0 ≤ a1 ∧ a1 < 17) ∧ ((((w3 50 a1) = 2) → (0 ≤ a1 ∧ a1 < 17) ∧ (0 ≤ a1 ∧ a1 < 17) ∧ Q (some (0, 1)) X (upd2 (upd2 w3 50 a1 3) 54 a1 0)) ∧ ((¬ (w3 50 a1) = 2) → Q (some (0, 0)) X w3))))) : Ex mX11_freeze d 0 [(2, 47), (0, a1)] [] X v mc ms Q := by
  refine x_li32 (i := 1) rfl (fun ha1 => ?_)
  have F := F ha1
  refine x_aload_n dX11_freeze_0 rfl ?_
  refine x_iload_n dX11_freeze_1 rfl ?_
  obtain ⟨P1, hC, F⟩ := F
  refine x_inv dX11_freeze_2 mlX11_162 hC (sW47 hW) (Nat.le_of_ble_eq_true rfl) (gW47 hW) rfl rfl (by omega) (Nat.zero_le _) (Nat.zero_le _) (Nat.le_of_ble_eq_true rfl) (fun o1 Y4 w3 ht hP => ?_)
  obtain ⟨r2, rfl⟩ : ∃ i, o1 = some (0, i) := ht
  obtain ⟨rfl, hP⟩ := hP
  have F := F r2 w3 hP
  refine x_if_eq 18 dX11_freeze_5 rfl (fun hc => ?_) (fun hc => ?_)
  · have F := F.1 hc
    refine x_iconst dX11_freeze_18 rfl (i32_of rfl) ?_
    exact x_ret (some (0, 0)) rfl ⟨dX11_freeze_19, Or.inr ⟨rfl, Or.inl rfl⟩⟩ F
  · have F := F.2 hc
    refine x_aload_n dX11_freeze_8 rfl ?_
    refine x_getr (r' := 50) flX11_17 dX11_freeze_9 (sW47 hW) (gW47 hW) (rW47_3 hW) rfl (Nat.le_of_ble_eq_true rfl) ?_
    refine x_iload_n dX11_freeze_12 rfl ?_
    obtain ⟨hi, F⟩ := F
    refine x_iald (e := (w3 50 a1)) dX11_freeze_13 (sW50 hW) (gW50 hW) hi rfl ?_
    refine x_iconst dX11_freeze_14 rfl (i32_of rfl) ?_
    refine x_icmp_eq 20 dX11_freeze_15 rfl (fun hc => ?_) (fun hc => ?_)
    · have F := F.1 hc
      refine x_aload_n dX11_freeze_20 rfl ?_
      refine x_getr (r' := 50) flX11_17 dX11_freeze_21 (sW47 hW) (gW47 hW) (rW47_3 hW) rfl (Nat.le_of_ble_eq_true rfl) ?_
      refine x_iload_n dX11_freeze_24 rfl ?_
      refine x_iconst dX11_freeze_25 rfl (i32_of rfl) ?_
      obtain ⟨hi, F⟩ := F
      refine x_iast dX11_freeze_26 (sW50 hW) (gW50 hW) hi ?_
      refine x_aload_n dX11_freeze_27 rfl ?_
      refine x_getr (r' := 54) flX11_30 dX11_freeze_28 (sW47 hW) (gW47 hW) (rW47_7 hW) rfl (Nat.le_of_ble_eq_true rfl) ?_
      refine x_iload_n dX11_freeze_31 rfl ?_
      refine x_iconst dX11_freeze_32 rfl (i32_of rfl) ?_
      obtain ⟨hi, F⟩ := F
      refine x_iast dX11_freeze_33 (sW54 hW) (gW54 hW) hi ?_
      refine x_iconst dX11_freeze_34 rfl (i32_of rfl) ?_
      exact x_ret (some (0, 1)) rfl ⟨dX11_freeze_35, Or.inr ⟨rfl, Or.inr rfl⟩⟩ F
    · have F := F.2 hc
      refine x_iconst dX11_freeze_18 rfl (i32_of rfl) ?_
      exact x_ret (some (0, 0)) rfl ⟨dX11_freeze_19, Or.inr ⟨rfl, Or.inl rfl⟩⟩ F

set_option maxRecDepth 100000 in
set_option maxHeartbeats 4000000 in
theorem bX11_today_0 {d mc ms : Nat} {X : XX} {v : VV} {Q : QQ} (a1 : Int) (hd : 0 ≤ d) (hW : SW X) (F : i32 a1 → (((a1 < (v 47 64)) → Q (some (0, 0)) X v) ∧ (((v 47 64) ≤ a1) → (((a1 ≤ 30000) → Q (some (0, 1)) X (upd2 v 47 64 a1)) ∧ ((30000 < a1) → Q (some (0, 0)) X v))))) : Ex mX11_today d 0 [(2, 47), (0, a1)] [] X v mc ms Q := by
  refine x_li32 (i := 1) rfl (fun ha1 => ?_)
  have F := F ha1
  refine x_iload_n dX11_today_0 rfl ?_
  refine x_aload_n dX11_today_1 rfl ?_
  refine x_geti (e := (v 47 64)) 0 flX11_351 dX11_today_2 (sW47 hW) (gW47 hW) rfl rfl (Nat.le_of_ble_eq_true rfl) (tagn2 rfl) ?_
  refine x_icmp_lt 15 dX11_today_5 rfl (fun hc => ?_) (fun hc => ?_)
  · have F := F.1 hc
    refine x_iconst dX11_today_15 rfl (i32_of rfl) ?_
    exact x_ret (some (0, 0)) rfl ⟨dX11_today_16, Or.inr ⟨rfl, Or.inl rfl⟩⟩ F
  · have F := F.2 hc
    refine x_iload_n dX11_today_8 rfl ?_
    refine x_sipush dX11_today_9 ks_30000 (i32_of rfl) ?_
    refine x_icmp_le 17 dX11_today_12 rfl (fun hc => ?_) (fun hc => ?_)
    · have F := F.1 hc
      refine x_aload_n dX11_today_17 rfl ?_
      refine x_iload_n dX11_today_18 rfl ?_
      refine x_puti 0 fwX11_351 dX11_today_19 (sW47 hW) (gW47 hW) (fun h => Bool.noConfusion h) (Nat.le_of_ble_eq_true rfl) rfl (Or.inl ⟨rfl, Or.inl rfl⟩) ?_
      refine x_iconst dX11_today_22 rfl (i32_of rfl) ?_
      exact x_ret (some (0, 1)) rfl ⟨dX11_today_23, Or.inr ⟨rfl, Or.inr rfl⟩⟩ F
    · have F := F.2 hc
      refine x_iconst dX11_today_15 rfl (i32_of rfl) ?_
      exact x_ret (some (0, 0)) rfl ⟨dX11_today_16, Or.inr ⟨rfl, Or.inl rfl⟩⟩ F

set_option maxRecDepth 100000 in
set_option maxHeartbeats 4000000 in
theorem bX11_fed_0 {d mc ms : Nat} {X : XX} {v : VV} {Q : QQ} (a1 : Int) (a2 : Int) (a3 : Int) (hd : 1 ≤ d) (hW : SW X) (F : i32 a1 → i32 a2 → i32 a3 → ∃ P1 : Option AV → VV → Prop, Con mX11_isTable 0 0 0 [(2, 47), (0, a1)] X v (fun o X1 v1 => X1 = X ∧ P1 o v1) ∧ ∀ (r2 : Int) (w3 : VV), P1 (some (0, r2)) w3 → (((r2 = 0) → Q (some (0, 0)) X w3) ∧ ((¬ r2 = 0) → (0 ≤ a1 ∧ a1 < 17) ∧ (((¬ (w3 50 a1) = 0) → Q (some (0, 0)) X w3) ∧ (((w3 50 a1) = 0) → (((a2 < 0) → Q (some (0, 0)) X w3) ∧ ((0 ≤ a2) → (((a3 < a2) → Q (some (0, 0)) X w3) ∧ ((a2 ≤ a3) → (((a3 ≤ (w3 47 64)) → (0 ≤ a1 ∧ a1 < 17) ∧ (0 ≤ a1 ∧ a1 < 17) ∧ Q (some (0, 1)) X (upd2 (upd2 w3 58 a1 a2) 59 a1 a3)) ∧ (((w3 47 64) < a3) → Q (some (0, 0)) X w3))))))))))) : Ex mX11_fed d 0 [(2, 47), (0, a1), (0, a2), (0, a3)] [] X v mc ms Q := by
  refine x_li32 (i := 1) rfl (fun ha1 => ?_)
  have F := F ha1
  refine x_li32 (i := 2) rfl (fun ha2 => ?_)
  have F := F ha2
  refine x_li32 (i := 3) rfl (fun ha3 => ?_)
  have F := F ha3
  refine x_aload_n dX11_fed_0 rfl ?_
  refine x_iload_n dX11_fed_1 rfl ?_
  obtain ⟨P1, hC, F⟩ := F
  refine x_inv dX11_fed_2 mlX11_162 hC (sW47 hW) (Nat.le_of_ble_eq_true rfl) (gW47 hW) rfl rfl (by omega) (Nat.zero_le _) (Nat.zero_le _) (Nat.le_of_ble_eq_true rfl) (fun o1 Y4 w3 ht hP => ?_)
  obtain ⟨r2, rfl⟩ : ∃ i, o1 = some (0, i) := ht
  obtain ⟨rfl, hP⟩ := hP
  have F := F r2 w3 hP
  refine x_if_eq 34 dX11_fed_5 rfl (fun hc => ?_) (fun hc => ?_)
  · have F := F.1 hc
    refine x_iconst dX11_fed_34 rfl (i32_of rfl) ?_
    exact x_ret (some (0, 0)) rfl ⟨dX11_fed_35, Or.inr ⟨rfl, Or.inl rfl⟩⟩ F
  · have F := F.2 hc
    refine x_aload_n dX11_fed_8 rfl ?_
    refine x_getr (r' := 50) flX11_17 dX11_fed_9 (sW47 hW) (gW47 hW) (rW47_3 hW) rfl (Nat.le_of_ble_eq_true rfl) ?_
    refine x_iload_n dX11_fed_12 rfl ?_
    obtain ⟨hi, F⟩ := F
    refine x_iald (e := (w3 50 a1)) dX11_fed_13 (sW50 hW) (gW50 hW) hi rfl ?_
    refine x_if_ne 34 dX11_fed_14 rfl (fun hc => ?_) (fun hc => ?_)
    · have F := F.1 hc
      refine x_iconst dX11_fed_34 rfl (i32_of rfl) ?_
      exact x_ret (some (0, 0)) rfl ⟨dX11_fed_35, Or.inr ⟨rfl, Or.inl rfl⟩⟩ F
    · have F := F.2 hc
      refine x_iload_n dX11_fed_17 rfl ?_
      refine x_if_lt 34 dX11_fed_18 rfl (fun hc => ?_) (fun hc => ?_)
      · have F := F.1 hc
        refine x_iconst dX11_fed_34 rfl (i32_of rfl) ?_
        exact x_ret (some (0, 0)) rfl ⟨dX11_fed_35, Or.inr ⟨rfl, Or.inl rfl⟩⟩ F
      · have F := F.2 hc
        refine x_iload_n dX11_fed_21 rfl ?_
        refine x_iload_n dX11_fed_22 rfl ?_
        refine x_icmp_gt 34 dX11_fed_23 rfl (fun hc => ?_) (fun hc => ?_)
        · have F := F.1 hc
          refine x_iconst dX11_fed_34 rfl (i32_of rfl) ?_
          exact x_ret (some (0, 0)) rfl ⟨dX11_fed_35, Or.inr ⟨rfl, Or.inl rfl⟩⟩ F
        · have F := F.2 hc
          refine x_iload_n dX11_fed_26 rfl ?_
          refine x_aload_n dX11_fed_27 rfl ?_
          refine x_geti (e := (w3 47 64)) 0 flX11_351 dX11_fed_28 (sW47 hW) (gW47 hW) rfl rfl (Nat.le_of_ble_eq_true rfl) (tagn2 rfl) ?_
          refine x_icmp_le 36 dX11_fed_31 rfl (fun hc => ?_) (fun hc => ?_)
          · have F := F.1 hc
            refine x_aload_n dX11_fed_36 rfl ?_
            refine x_getr (r' := 58) flX11_42 dX11_fed_37 (sW47 hW) (gW47 hW) (rW47_11 hW) rfl (Nat.le_of_ble_eq_true rfl) ?_
            refine x_iload_n dX11_fed_40 rfl ?_
            refine x_iload_n dX11_fed_41 rfl ?_
            obtain ⟨hi, F⟩ := F
            refine x_iast dX11_fed_42 (sW58 hW) (gW58 hW) hi ?_
            refine x_aload_n dX11_fed_43 rfl ?_
            refine x_getr (r' := 59) flX11_45 dX11_fed_44 (sW47 hW) (gW47 hW) (rW47_12 hW) rfl (Nat.le_of_ble_eq_true rfl) ?_
            refine x_iload_n dX11_fed_47 rfl ?_
            refine x_iload_n dX11_fed_48 rfl ?_
            obtain ⟨hi, F⟩ := F
            refine x_iast dX11_fed_49 (sW59 hW) (gW59 hW) hi ?_
            refine x_iconst dX11_fed_50 rfl (i32_of rfl) ?_
            exact x_ret (some (0, 1)) rfl ⟨dX11_fed_51, Or.inr ⟨rfl, Or.inr rfl⟩⟩ F
          · have F := F.2 hc
            refine x_iconst dX11_fed_34 rfl (i32_of rfl) ?_
            exact x_ret (some (0, 0)) rfl ⟨dX11_fed_35, Or.inr ⟨rfl, Or.inl rfl⟩⟩ F

set_option maxRecDepth 100000 in
set_option maxHeartbeats 4000000 in
theorem bX11_run_0 {d mc ms : Nat} {X : XX} {v : VV} {Q : QQ} (a1 : Int) (hd : 2 ≤ d) (hW : SW X) (F : i32 a1 → ∃ P1 : Option AV → VV → Prop, Con mX11_isTable 0 0 0 [(2, 47), (0, a1)] X v (fun o X1 v1 => X1 = X ∧ P1 o v1) ∧ ∀ (r2 : Int) (w3 : VV), P1 (some (0, r2)) w3 → (((r2 = 0) → Q (some (0, 0)) X w3) ∧ ((¬ r2 = 0) → (0 ≤ a1 ∧ a1 < 17) ∧ ((((w3 50 a1) = 2) → ∃ P5 : Option AV → VV → Prop, Con mX11_ages 1 0 0 [(2, 47)] X w3 (fun o X1 v1 => X1 = X ∧ P5 o v1) ∧ ∀ (w7 : VV), P5 none w7 → ∃ P9 : Option AV → VV → Prop, Con mX11_agesBehind 0 0 0 [(2, 47), (0, a1)] X w7 (fun o X1 v1 => X1 = X ∧ P9 o v1) ∧ ∀ (w11 : VV), P9 none w11 → (0 ≤ a1 ∧ a1 < 17) ∧ (((¬ (w11 79 a1) = (-1)) → (0 ≤ a1 ∧ a1 < 17) ∧ (0 ≤ a1 ∧ a1 < 17) ∧ (0 ≤ a1 ∧ a1 < 17) ∧ (0 ≤ a1 ∧ a1 < 17) ∧ Q (some (0, 1)) X (upd2 (upd2 w11 58 a1 (w11 78 a1)) 59 a1 (w11 79 a1))) ∧ (((w11 79 a1) = (-1)) → Q (some (0, 0)) X w11))) ∧ ((¬ (w3 50 a1) = 2) → Q (some (0, 0)) X w3))))) : Ex mX11_run d 0 [(2, 47), (0, a1)] [] X v mc ms Q := by
  refine x_li32 (i := 1) rfl (fun ha1 => ?_)
  have F := F ha1
  refine x_aload_n dX11_run_0 rfl ?_
  refine x_iload_n dX11_run_1 rfl ?_
  obtain ⟨P1, hC, F⟩ := F
  refine x_inv dX11_run_2 mlX11_162 hC (sW47 hW) (Nat.le_of_ble_eq_true rfl) (gW47 hW) rfl rfl (by omega) (Nat.zero_le _) (Nat.zero_le _) (Nat.le_of_ble_eq_true rfl) (fun o1 Y4 w3 ht hP => ?_)
  obtain ⟨r2, rfl⟩ : ∃ i, o1 = some (0, i) := ht
  obtain ⟨rfl, hP⟩ := hP
  have F := F r2 w3 hP
  refine x_if_eq 18 dX11_run_5 rfl (fun hc => ?_) (fun hc => ?_)
  · have F := F.1 hc
    refine x_iconst dX11_run_18 rfl (i32_of rfl) ?_
    exact x_ret (some (0, 0)) rfl ⟨dX11_run_19, Or.inr ⟨rfl, Or.inl rfl⟩⟩ F
  · have F := F.2 hc
    refine x_aload_n dX11_run_8 rfl ?_
    refine x_getr (r' := 50) flX11_17 dX11_run_9 (sW47 hW) (gW47 hW) (rW47_3 hW) rfl (Nat.le_of_ble_eq_true rfl) ?_
    refine x_iload_n dX11_run_12 rfl ?_
    obtain ⟨hi, F⟩ := F
    refine x_iald (e := (w3 50 a1)) dX11_run_13 (sW50 hW) (gW50 hW) hi rfl ?_
    refine x_iconst dX11_run_14 rfl (i32_of rfl) ?_
    refine x_icmp_eq 20 dX11_run_15 rfl (fun hc => ?_) (fun hc => ?_)
    · have F := F.1 hc
      refine x_aload_n dX11_run_20 rfl ?_
      obtain ⟨P5, hC, F⟩ := F
      refine x_inv dX11_run_21 mlX11_313 hC (sW47 hW) (Nat.le_of_ble_eq_true rfl) (gW47 hW) rfl rfl (by omega) (Nat.zero_le _) (Nat.zero_le _) (Nat.le_of_ble_eq_true rfl) (fun o1 Y8 w7 ht hP => ?_)
      obtain rfl : o1 = none := ht
      obtain ⟨rfl, hP⟩ := hP
      have F := F w7 hP
      refine x_aload_n dX11_run_24 rfl ?_
      refine x_iload_n dX11_run_25 rfl ?_
      obtain ⟨P9, hC, F⟩ := F
      refine x_inv dX11_run_26 mlX11_310 hC (sW47 hW) (Nat.le_of_ble_eq_true rfl) (gW47 hW) rfl rfl (by omega) (Nat.zero_le _) (Nat.zero_le _) (Nat.le_of_ble_eq_true rfl) (fun o1 Y12 w11 ht hP => ?_)
      obtain rfl : o1 = none := ht
      obtain ⟨rfl, hP⟩ := hP
      have F := F w11 hP
      refine x_aload_n dX11_run_29 rfl ?_
      refine x_getr (r' := 79) flX11_135 dX11_run_30 (sW47 hW) (gW47 hW) (rW47_55 hW) rfl (Nat.le_of_ble_eq_true rfl) ?_
      refine x_iload_n dX11_run_33 rfl ?_
      obtain ⟨hi, F⟩ := F
      refine x_iald (e := (w11 79 a1)) dX11_run_34 (sW79 hW) (gW79 hW) hi rfl ?_
      refine x_iconst dX11_run_35 rfl (i32_of rfl) ?_
      refine x_icmp_ne 41 dX11_run_36 rfl (fun hc => ?_) (fun hc => ?_)
      · have F := F.1 hc
        refine x_aload_n dX11_run_41 rfl ?_
        refine x_getr (r' := 58) flX11_42 dX11_run_42 (sW47 hW) (gW47 hW) (rW47_11 hW) rfl (Nat.le_of_ble_eq_true rfl) ?_
        refine x_iload_n dX11_run_45 rfl ?_
        refine x_aload_n dX11_run_46 rfl ?_
        refine x_getr (r' := 78) flX11_132 dX11_run_47 (sW47 hW) (gW47 hW) (rW47_54 hW) rfl (Nat.le_of_ble_eq_true rfl) ?_
        refine x_iload_n dX11_run_50 rfl ?_
        obtain ⟨hi, F⟩ := F
        refine x_iald (e := (w11 78 a1)) dX11_run_51 (sW78 hW) (gW78 hW) hi rfl ?_
        obtain ⟨hi, F⟩ := F
        refine x_iast dX11_run_52 (sW58 hW) (gW58 hW) hi ?_
        refine x_aload_n dX11_run_53 rfl ?_
        refine x_getr (r' := 59) flX11_45 dX11_run_54 (sW47 hW) (gW47 hW) (rW47_12 hW) rfl (Nat.le_of_ble_eq_true rfl) ?_
        refine x_iload_n dX11_run_57 rfl ?_
        refine x_aload_n dX11_run_58 rfl ?_
        refine x_getr (r' := 79) flX11_135 dX11_run_59 (sW47 hW) (gW47 hW) (rW47_55 hW) rfl (Nat.le_of_ble_eq_true rfl) ?_
        refine x_iload_n dX11_run_62 rfl ?_
        obtain ⟨hi, F⟩ := F
        refine x_iald (e := (w11 79 a1)) dX11_run_63 (sW79 hW) (gW79 hW) hi rfl ?_
        obtain ⟨hi, F⟩ := F
        refine x_iast dX11_run_64 (sW59 hW) (gW59 hW) hi ?_
        refine x_iconst dX11_run_65 rfl (i32_of rfl) ?_
        exact x_ret (some (0, 1)) rfl ⟨dX11_run_66, Or.inr ⟨rfl, Or.inr rfl⟩⟩ F
      · have F := F.2 hc
        refine x_iconst dX11_run_39 rfl (i32_of rfl) ?_
        exact x_ret (some (0, 0)) rfl ⟨dX11_run_40, Or.inr ⟨rfl, Or.inl rfl⟩⟩ F
    · have F := F.2 hc
      refine x_iconst dX11_run_18 rfl (i32_of rfl) ?_
      exact x_ret (some (0, 0)) rfl ⟨dX11_run_19, Or.inr ⟨rfl, Or.inl rfl⟩⟩ F

set_option maxRecDepth 100000 in
set_option maxHeartbeats 4000000 in
theorem bX11_promise_0 {d mc ms : Nat} {X : XX} {v : VV} {Q : QQ} (a1 : Int) (a2 : Int) (hd : 1 ≤ d) (hW : SW X) (F : i32 a1 → i32 a2 → ∃ P1 : Option AV → VV → Prop, Con mX11_isTable 0 0 0 [(2, 47), (0, a1)] X v (fun o X1 v1 => X1 = X ∧ P1 o v1) ∧ ∀ (r2 : Int) (w3 : VV), P1 (some (0, r2)) w3 → (((r2 = 0) → Q (some (0, 0)) X w3) ∧ ((¬ r2 = 0) → (((a2 < (-1)) → Q (some (0, 0)) X w3) ∧ (((-1) ≤ a2) → (((a2 ≤ 1000) → (0 ≤ a1 ∧ a1 < 17) ∧ Q (some (0, 1)) X (upd2 w3 57 a1 a2)) ∧ ((1000 < a2) → Q (some (0, 0)) X w3))))))) : Ex mX11_promise d 0 [(2, 47), (0, a1), (0, a2)] [] X v mc ms Q := by
  refine x_li32 (i := 1) rfl (fun ha1 => ?_)
  have F := F ha1
  refine x_li32 (i := 2) rfl (fun ha2 => ?_)
  have F := F ha2
  refine x_aload_n dX11_promise_0 rfl ?_
  refine x_iload_n dX11_promise_1 rfl ?_
  obtain ⟨P1, hC, F⟩ := F
  refine x_inv dX11_promise_2 mlX11_162 hC (sW47 hW) (Nat.le_of_ble_eq_true rfl) (gW47 hW) rfl rfl (by omega) (Nat.zero_le _) (Nat.zero_le _) (Nat.le_of_ble_eq_true rfl) (fun o1 Y4 w3 ht hP => ?_)
  obtain ⟨r2, rfl⟩ : ∃ i, o1 = some (0, i) := ht
  obtain ⟨rfl, hP⟩ := hP
  have F := F r2 w3 hP
  refine x_if_eq 20 dX11_promise_5 rfl (fun hc => ?_) (fun hc => ?_)
  · have F := F.1 hc
    refine x_iconst dX11_promise_20 rfl (i32_of rfl) ?_
    exact x_ret (some (0, 0)) rfl ⟨dX11_promise_21, Or.inr ⟨rfl, Or.inl rfl⟩⟩ F
  · have F := F.2 hc
    refine x_iload_n dX11_promise_8 rfl ?_
    refine x_iconst dX11_promise_9 rfl (i32_of rfl) ?_
    refine x_icmp_lt 20 dX11_promise_10 rfl (fun hc => ?_) (fun hc => ?_)
    · have F := F.1 hc
      refine x_iconst dX11_promise_20 rfl (i32_of rfl) ?_
      exact x_ret (some (0, 0)) rfl ⟨dX11_promise_21, Or.inr ⟨rfl, Or.inl rfl⟩⟩ F
    · have F := F.2 hc
      refine x_iload_n dX11_promise_13 rfl ?_
      refine x_sipush dX11_promise_14 ks_1000 (i32_of rfl) ?_
      refine x_icmp_le 22 dX11_promise_17 rfl (fun hc => ?_) (fun hc => ?_)
      · have F := F.1 hc
        refine x_aload_n dX11_promise_22 rfl ?_
        refine x_getr (r' := 57) flX11_39 dX11_promise_23 (sW47 hW) (gW47 hW) (rW47_10 hW) rfl (Nat.le_of_ble_eq_true rfl) ?_
        refine x_iload_n dX11_promise_26 rfl ?_
        refine x_iload_n dX11_promise_27 rfl ?_
        obtain ⟨hi, F⟩ := F
        refine x_iast dX11_promise_28 (sW57 hW) (gW57 hW) hi ?_
        refine x_iconst dX11_promise_29 rfl (i32_of rfl) ?_
        exact x_ret (some (0, 1)) rfl ⟨dX11_promise_30, Or.inr ⟨rfl, Or.inr rfl⟩⟩ F
      · have F := F.2 hc
        refine x_iconst dX11_promise_20 rfl (i32_of rfl) ?_
        exact x_ret (some (0, 0)) rfl ⟨dX11_promise_21, Or.inr ⟨rfl, Or.inl rfl⟩⟩ F

set_option maxRecDepth 100000 in
set_option maxHeartbeats 4000000 in
theorem bX11_isBroken_0 {d mc ms : Nat} {X : XX} {v : VV} {Q : QQ} (a1 : Int) (hd : 0 ≤ d) (hW : SW X) (F : i32 a1 → (0 ≤ a1 ∧ a1 < 17) ∧ ((((v 57 a1) = (-1)) → Q (some (0, 0)) X v) ∧ ((¬ (v 57 a1) = (-1)) → (0 ≤ a1 ∧ a1 < 17) ∧ ((((v 79 a1) = (-1)) → Q (some (0, 1)) X v) ∧ ((¬ (v 79 a1) = (-1)) → (0 ≤ a1 ∧ a1 < 17) ∧ (0 ≤ a1 ∧ a1 < 17) ∧ (i32 (v 57 a1) → i32 (v 47 64) → i32 ((v 47 64) - (v 57 a1))) ∧ (((((v 47 64) - (v 57 a1)) ≤ (v 79 a1)) → Q (some (0, 0)) X v) ∧ (((v 79 a1) < ((v 47 64) - (v 57 a1))) → Q (some (0, 1)) X v))))))) : Ex mX11_isBroken d 0 [(2, 47), (0, a1)] [] X v mc ms Q := by
  refine x_li32 (i := 1) rfl (fun ha1 => ?_)
  have F := F ha1
  refine x_aload_n dX11_isBroken_0 rfl ?_
  refine x_getr (r' := 57) flX11_39 dX11_isBroken_1 (sW47 hW) (gW47 hW) (rW47_10 hW) rfl (Nat.le_of_ble_eq_true rfl) ?_
  refine x_iload_n dX11_isBroken_4 rfl ?_
  obtain ⟨hi, F⟩ := F
  refine x_iald (e := (v 57 a1)) dX11_isBroken_5 (sW57 hW) (gW57 hW) hi rfl ?_
  refine x_iconst dX11_isBroken_6 rfl (i32_of rfl) ?_
  refine x_icmp_eq 44 dX11_isBroken_7 rfl (fun hc => ?_) (fun hc => ?_)
  · have F := F.1 hc
    refine x_iconst dX11_isBroken_44 rfl (i32_of rfl) ?_
    exact x_ret (some (0, 0)) rfl ⟨dX11_isBroken_45, Or.inr ⟨rfl, Or.inl rfl⟩⟩ F
  · have F := F.2 hc
    refine x_aload_n dX11_isBroken_10 rfl ?_
    refine x_getr (r' := 79) flX11_135 dX11_isBroken_11 (sW47 hW) (gW47 hW) (rW47_55 hW) rfl (Nat.le_of_ble_eq_true rfl) ?_
    refine x_iload_n dX11_isBroken_14 rfl ?_
    obtain ⟨hi, F⟩ := F
    refine x_iald (e := (v 79 a1)) dX11_isBroken_15 (sW79 hW) (gW79 hW) hi rfl ?_
    refine x_iconst dX11_isBroken_16 rfl (i32_of rfl) ?_
    refine x_icmp_eq 40 dX11_isBroken_17 rfl (fun hc => ?_) (fun hc => ?_)
    · have F := F.1 hc
      refine x_iconst dX11_isBroken_40 rfl (i32_of rfl) ?_
      refine x_goto 45 dX11_isBroken_41 rfl ?_
      exact x_ret (some (0, 1)) rfl ⟨dX11_isBroken_45, Or.inr ⟨rfl, Or.inr rfl⟩⟩ F
    · have F := F.2 hc
      refine x_aload_n dX11_isBroken_20 rfl ?_
      refine x_getr (r' := 79) flX11_135 dX11_isBroken_21 (sW47 hW) (gW47 hW) (rW47_55 hW) rfl (Nat.le_of_ble_eq_true rfl) ?_
      refine x_iload_n dX11_isBroken_24 rfl ?_
      obtain ⟨hi, F⟩ := F
      refine x_iald (e := (v 79 a1)) dX11_isBroken_25 (sW79 hW) (gW79 hW) hi rfl ?_
      refine x_aload_n dX11_isBroken_26 rfl ?_
      refine x_geti (e := (v 47 64)) 0 flX11_351 dX11_isBroken_27 (sW47 hW) (gW47 hW) rfl rfl (Nat.le_of_ble_eq_true rfl) (tagn2 rfl) ?_
      refine x_aload_n dX11_isBroken_30 rfl ?_
      refine x_getr (r' := 57) flX11_39 dX11_isBroken_31 (sW47 hW) (gW47 hW) (rW47_10 hW) rfl (Nat.le_of_ble_eq_true rfl) ?_
      refine x_iload_n dX11_isBroken_34 rfl ?_
      obtain ⟨hi, F⟩ := F
      refine x_iald (e := (v 57 a1)) dX11_isBroken_35 (sW57 hW) (gW57 hW) hi rfl ?_
      refine x_si32 (i := 0) rfl (fun hk0 => ?_)
      refine x_si32 (i := 1) rfl (fun hk1 => ?_)
      obtain ⟨hz, F⟩ := F
      have hz := hz hk0 hk1
      refine x_isub dX11_isBroken_36 hz ?_
      refine x_icmp_ge 44 dX11_isBroken_37 rfl (fun hc => ?_) (fun hc => ?_)
      · have F := F.1 hc
        refine x_iconst dX11_isBroken_44 rfl (i32_of rfl) ?_
        exact x_ret (some (0, 0)) rfl ⟨dX11_isBroken_45, Or.inr ⟨rfl, Or.inl rfl⟩⟩ F
      · have F := F.2 hc
        refine x_iconst dX11_isBroken_40 rfl (i32_of rfl) ?_
        refine x_goto 45 dX11_isBroken_41 rfl ?_
        exact x_ret (some (0, 1)) rfl ⟨dX11_isBroken_45, Or.inr ⟨rfl, Or.inr rfl⟩⟩ F

set_option maxRecDepth 100000 in
set_option maxHeartbeats 4000000 in
theorem bX11_broken_0 {d mc ms : Nat} {X : XX} {v : VV} {Q : QQ} (hd : 2 ≤ d) (hW : SW X) (F : ∃ P1 : Option AV → VV → Prop, Con mX11_ages 1 0 0 [(2, 47)] X v (fun o X1 v1 => X1 = X ∧ P1 o v1) ∧ ∀ (w3 : VV), P1 none w3 → Ex mX11_broken d 11 [(2, 47), (0, 0)] [] X (upd2 w3 47 57 0) mc ms Q) : Ex mX11_broken d 0 [(2, 47), (3, 0)] [] X v mc ms Q := by
  refine x_aload_n dX11_broken_0 rfl ?_
  obtain ⟨P1, hC, F⟩ := F
  refine x_inv dX11_broken_1 mlX11_313 hC (sW47 hW) (Nat.le_of_ble_eq_true rfl) (gW47 hW) rfl rfl (by omega) (Nat.zero_le _) (Nat.zero_le _) (Nat.le_of_ble_eq_true rfl) (fun o1 Y4 w3 ht hP => ?_)
  obtain rfl : o1 = none := ht
  obtain ⟨rfl, hP⟩ := hP
  have F := F w3 hP
  refine x_aload_n dX11_broken_4 rfl ?_
  refine x_iconst dX11_broken_5 rfl (i32_of rfl) ?_
  refine x_puti 0 fwX11_324 dX11_broken_6 (sW47 hW) (gW47 hW) (fun h => Bool.noConfusion h) (Nat.le_of_ble_eq_true rfl) rfl (Or.inl ⟨rfl, Or.inl rfl⟩) ?_
  refine x_iconst dX11_broken_9 rfl (i32_of rfl) ?_
  refine x_istore_n [(2, 47), (0, 0)] dX11_broken_10 rfl (Nat.le_of_ble_eq_true rfl) ?_
  exact F

set_option maxRecDepth 100000 in
set_option maxHeartbeats 4000000 in
theorem bX11_broken_11 {d mc ms : Nat} {X : XX} {v : VV} {Q : QQ} (x1 : Int) (hd : 2 ≤ d) (hW : SW X) (F : i32 x1 → ((((v 47 0) ≤ x1) → Q (some (0, (v 47 57))) X v) ∧ ((x1 < (v 47 0)) → (0 ≤ x1 ∧ x1 < 17) ∧ ((((v 48 x1) = 0) → i32 (x1 + 1) ∧ Ex mX11_broken d 11 [(2, 47), (0, (x1 + 1))] [] X v mc ms Q) ∧ ((¬ (v 48 x1) = 0) → ∃ P5 : Option AV → VV → Prop, Con mX11_isBroken 0 0 0 [(2, 47), (0, x1)] X v (fun o X1 v1 => X1 = X ∧ P5 o v1) ∧ ∀ (r6 : Int) (w7 : VV), P5 (some (0, r6)) w7 → (((r6 = 0) → i32 (x1 + 1) ∧ Ex mX11_broken d 11 [(2, 47), (0, (x1 + 1))] [] X w7 mc ms Q) ∧ ((¬ r6 = 0) → ∃ P9 : Option AV → VV → Prop, Con mX11_finds 0 0 0 [(2, 47), (0, x1)] X w7 (fun o X1 v1 => X1 = X ∧ P9 o v1) ∧ ∀ (w11 : VV), P9 none w11 → i32 (x1 + 1) ∧ Ex mX11_broken d 11 [(2, 47), (0, (x1 + 1))] [] X w11 mc ms Q))))))) : Ex mX11_broken d 11 [(2, 47), (0, x1)] [] X v mc ms Q := by
  refine x_li32 (i := 1) rfl (fun hx1 => ?_)
  have F := F hx1
  refine x_iload_n dX11_broken_11 rfl ?_
  refine x_aload_n dX11_broken_12 rfl ?_
  refine x_geti (e := (v 47 0)) 0 flX11_159 dX11_broken_13 (sW47 hW) (gW47 hW) rfl rfl (Nat.le_of_ble_eq_true rfl) (tagn2 rfl) ?_
  refine x_icmp_ge 47 dX11_broken_16 rfl (fun hc => ?_) (fun hc => ?_)
  · have F := F.1 hc
    refine x_aload_n dX11_broken_47 rfl ?_
    refine x_geti (e := (v 47 57)) 0 flX11_324 dX11_broken_48 (sW47 hW) (gW47 hW) rfl rfl (Nat.le_of_ble_eq_true rfl) (tagn2 rfl) ?_
    exact x_ret (some (0, (v 47 57))) rfl ⟨dX11_broken_51, Or.inl rfl⟩ F
  · have F := F.2 hc
    refine x_aload_n dX11_broken_19 rfl ?_
    refine x_getr (r' := 48) flX11_7 dX11_broken_20 (sW47 hW) (gW47 hW) (rW47_1 hW) rfl (Nat.le_of_ble_eq_true rfl) ?_
    refine x_iload_n dX11_broken_23 rfl ?_
    obtain ⟨hi, F⟩ := F
    refine x_zald (e := (v 48 x1)) dX11_broken_24 (sW48 hW) (gW48 hW) hi rfl ?_
    refine x_if_eq 41 dX11_broken_25 rfl (fun hc => ?_) (fun hc => ?_)
    · have F := F.1 hc
      obtain ⟨hz, F⟩ := F
      refine x_iinc [(2, 47), (0, (x1 + 1))] dX11_broken_41 rfl rfl (Nat.le_of_ble_eq_true rfl) hz ?_
      refine x_goto 11 dX11_broken_44 rfl ?_
      exact F
    · have F := F.2 hc
      refine x_aload_n dX11_broken_28 rfl ?_
      refine x_iload_n dX11_broken_29 rfl ?_
      obtain ⟨P5, hC, F⟩ := F
      refine x_inv dX11_broken_30 mlX11_363 hC (sW47 hW) (Nat.le_of_ble_eq_true rfl) (gW47 hW) rfl rfl (by omega) (Nat.zero_le _) (Nat.zero_le _) (Nat.le_of_ble_eq_true rfl) (fun o1 Y8 w7 ht hP => ?_)
      obtain ⟨r6, rfl⟩ : ∃ i, o1 = some (0, i) := ht
      obtain ⟨rfl, hP⟩ := hP
      have F := F r6 w7 hP
      refine x_if_eq 41 dX11_broken_33 rfl (fun hc => ?_) (fun hc => ?_)
      · have F := F.1 hc
        obtain ⟨hz, F⟩ := F
        refine x_iinc [(2, 47), (0, (x1 + 1))] dX11_broken_41 rfl rfl (Nat.le_of_ble_eq_true rfl) hz ?_
        refine x_goto 11 dX11_broken_44 rfl ?_
        exact F
      · have F := F.2 hc
        refine x_aload_n dX11_broken_36 rfl ?_
        refine x_iload_n dX11_broken_37 rfl ?_
        obtain ⟨P9, hC, F⟩ := F
        refine x_inv dX11_broken_38 mlX11_339 hC (sW47 hW) (Nat.le_of_ble_eq_true rfl) (gW47 hW) rfl rfl (by omega) (Nat.zero_le _) (Nat.zero_le _) (Nat.le_of_ble_eq_true rfl) (fun o1 Y12 w11 ht hP => ?_)
        obtain rfl : o1 = none := ht
        obtain ⟨rfl, hP⟩ := hP
        have F := F w11 hP
        obtain ⟨hz, F⟩ := F
        refine x_iinc [(2, 47), (0, (x1 + 1))] dX11_broken_41 rfl rfl (Nat.le_of_ble_eq_true rfl) hz ?_
        refine x_goto 11 dX11_broken_44 rfl ?_
        exact F

set_option maxRecDepth 100000 in
set_option maxHeartbeats 4000000 in
theorem bX11_late_0 {d mc ms : Nat} {X : XX} {v : VV} {Q : QQ} (a1 : Int) (hd : 2 ≤ d) (hW : SW X) (F : i32 a1 → ∃ P1 : Option AV → VV → Prop, Con mX11_isTable 0 0 0 [(2, 47), (0, a1)] X v (fun o X1 v1 => X1 = X ∧ P1 o v1) ∧ ∀ (r2 : Int) (w3 : VV), P1 (some (0, r2)) w3 → (((¬ r2 = 0) → ∃ P5 : Option AV → VV → Prop, Con mX11_ages 1 0 0 [(2, 47)] X w3 (fun o X1 v1 => X1 = X ∧ P5 o v1) ∧ ∀ (w7 : VV), P5 none w7 → ∃ P9 : Option AV → VV → Prop, Con mX11_isBroken 0 0 0 [(2, 47), (0, a1)] X w7 (fun o X1 v1 => X1 = X ∧ P9 o v1) ∧ ∀ (r10 : Int) (w11 : VV), P9 (some (0, r10)) w11 → (((¬ r10 = 0) → Ex mX11_late d 28 [(2, 47), (0, a1), (0, a1), (0, 1), (3, 0), (3, 0)] [] X w11 mc ms Q) ∧ ((r10 = 0) → Q (some (0, (-1))) X w11))) ∧ ((r2 = 0) → Q (some (0, (-1))) X w3))) : Ex mX11_late d 0 [(2, 47), (0, a1), (3, 0), (3, 0), (3, 0), (3, 0)] [] X v mc ms Q := by
  refine x_li32 (i := 1) rfl (fun ha1 => ?_)
  have F := F ha1
  refine x_aload_n dX11_late_0 rfl ?_
  refine x_iload_n dX11_late_1 rfl ?_
  obtain ⟨P1, hC, F⟩ := F
  refine x_inv dX11_late_2 mlX11_162 hC (sW47 hW) (Nat.le_of_ble_eq_true rfl) (gW47 hW) rfl rfl (by omega) (Nat.zero_le _) (Nat.zero_le _) (Nat.le_of_ble_eq_true rfl) (fun o1 Y4 w3 ht hP => ?_)
  obtain ⟨r2, rfl⟩ : ∃ i, o1 = some (0, i) := ht
  obtain ⟨rfl, hP⟩ := hP
  have F := F r2 w3 hP
  refine x_if_ne 10 dX11_late_5 rfl (fun hc => ?_) (fun hc => ?_)
  · have F := F.1 hc
    refine x_aload_n dX11_late_10 rfl ?_
    obtain ⟨P5, hC, F⟩ := F
    refine x_inv dX11_late_11 mlX11_313 hC (sW47 hW) (Nat.le_of_ble_eq_true rfl) (gW47 hW) rfl rfl (by omega) (Nat.zero_le _) (Nat.zero_le _) (Nat.le_of_ble_eq_true rfl) (fun o1 Y8 w7 ht hP => ?_)
    obtain rfl : o1 = none := ht
    obtain ⟨rfl, hP⟩ := hP
    have F := F w7 hP
    refine x_aload_n dX11_late_14 rfl ?_
    refine x_iload_n dX11_late_15 rfl ?_
    obtain ⟨P9, hC, F⟩ := F
    refine x_inv dX11_late_16 mlX11_363 hC (sW47 hW) (Nat.le_of_ble_eq_true rfl) (gW47 hW) rfl rfl (by omega) (Nat.zero_le _) (Nat.zero_le _) (Nat.le_of_ble_eq_true rfl) (fun o1 Y12 w11 ht hP => ?_)
    obtain ⟨r10, rfl⟩ : ∃ i, o1 = some (0, i) := ht
    obtain ⟨rfl, hP⟩ := hP
    have F := F r10 w11 hP
    refine x_if_ne 24 dX11_late_19 rfl (fun hc => ?_) (fun hc => ?_)
    · have F := F.1 hc
      refine x_iload_n dX11_late_24 rfl ?_
      refine x_istore_n [(2, 47), (0, a1), (0, a1), (3, 0), (3, 0), (3, 0)] dX11_late_25 rfl (Nat.le_of_ble_eq_true rfl) ?_
      refine x_iconst dX11_late_26 rfl (i32_of rfl) ?_
      refine x_istore_n [(2, 47), (0, a1), (0, a1), (0, 1), (3, 0), (3, 0)] dX11_late_27 rfl (Nat.le_of_ble_eq_true rfl) ?_
      exact F
    · have F := F.2 hc
      refine x_iconst dX11_late_22 rfl (i32_of rfl) ?_
      exact x_ret (some (0, (-1))) rfl ⟨dX11_late_23, Or.inl rfl⟩ F
  · have F := F.2 hc
    refine x_iconst dX11_late_8 rfl (i32_of rfl) ?_
    exact x_ret (some (0, (-1))) rfl ⟨dX11_late_9, Or.inl rfl⟩ F

set_option maxRecDepth 100000 in
set_option maxHeartbeats 4000000 in
theorem bX11_late_28 {d mc ms : Nat} {X : XX} {v : VV} {Q : QQ} (a1 : Int) (x2 : Int) (x3 : Int) (hd : 2 ≤ d) (hW : SW X) (F : i32 a1 → i32 x2 → i32 x3 → (((x3 = 0) → Q (some (0, x2)) X v) ∧ ((¬ x3 = 0) → Ex mX11_late d 37 [(2, 47), (0, a1), (0, x2), (0, 0), (0, 0), (3, 0)] [] X v mc ms Q))) : Ex mX11_late d 28 [(2, 47), (0, a1), (0, x2), (0, x3), (3, 0), (3, 0)] [] X v mc ms Q := by
  refine x_li32 (i := 1) rfl (fun ha1 => ?_)
  have F := F ha1
  refine x_li32 (i := 2) rfl (fun hx2 => ?_)
  have F := F hx2
  refine x_li32 (i := 3) rfl (fun hx3 => ?_)
  have F := F hx3
  refine x_iload_n dX11_late_28 rfl ?_
  refine x_if_eq 114 dX11_late_29 rfl (fun hc => ?_) (fun hc => ?_)
  · have F := F.1 hc
    refine x_iload_n dX11_late_114 rfl ?_
    exact x_ret (some (0, x2)) rfl ⟨dX11_late_115, Or.inl rfl⟩ F
  · have F := F.2 hc
    refine x_iconst dX11_late_32 rfl (i32_of rfl) ?_
    refine x_istore_n [(2, 47), (0, a1), (0, x2), (0, 0), (3, 0), (3, 0)] dX11_late_33 rfl (Nat.le_of_ble_eq_true rfl) ?_
    refine x_iconst dX11_late_34 rfl (i32_of rfl) ?_
    refine x_istore [(2, 47), (0, a1), (0, x2), (0, 0), (0, 0), (3, 0)] dX11_late_35 rfl (Nat.le_of_ble_eq_true rfl) ?_
    exact F

set_option maxRecDepth 100000 in
set_option maxHeartbeats 4000000 in
theorem bX11_late_37 {d mc ms : Nat} {X : XX} {v : VV} {Q : QQ} (a1 : Int) (x2 : Int) (x3 : Int) (x4 : Int) (hd : 2 ≤ d) (hW : SW X) (F : i32 a1 → i32 x2 → i32 x3 → i32 x4 → (0 ≤ x2 ∧ x2 < 17) ∧ ((((v 54 x2) ≤ x4) → Ex mX11_late d 28 [(2, 47), (0, a1), (0, x2), (0, x3), (3, 0), (3, 0)] [] X v mc ms Q) ∧ ((x4 < (v 54 x2)) → (((¬ x3 = 0) → Ex mX11_late d 28 [(2, 47), (0, a1), (0, x2), (0, x3), (3, 0), (3, 0)] [] X v mc ms Q) ∧ ((x3 = 0) → i32 (3 * x2) ∧ (i32 (3 * x2) → i32 ((3 * x2) + x4)) ∧ (0 ≤ ((3 * x2) + x4) ∧ ((3 * x2) + x4) < 51) ∧ (0 ≤ (v 55 ((3 * x2) + x4)) ∧ (v 55 ((3 * x2) + x4)) < 17) ∧ ((((v 79 (v 55 ((3 * x2) + x4))) = (-1)) → i32 (x4 + 1) ∧ Ex mX11_late d 37 [(2, 47), (0, a1), (0, (v 55 ((3 * x2) + x4))), (0, 1), (0, (x4 + 1)), (3, 0)] [] X v mc ms Q) ∧ ((¬ (v 79 (v 55 ((3 * x2) + x4))) = (-1)) → (0 ≤ (v 55 ((3 * x2) + x4)) ∧ (v 55 ((3 * x2) + x4)) < 17) ∧ (0 ≤ a1 ∧ a1 < 17) ∧ (i32 (v 57 a1) → i32 (v 47 64) → i32 ((v 47 64) - (v 57 a1))) ∧ ((((v 79 (v 55 ((3 * x2) + x4))) < ((v 47 64) - (v 57 a1))) → i32 (x4 + 1) ∧ Ex mX11_late d 37 [(2, 47), (0, a1), (0, (v 55 ((3 * x2) + x4))), (0, 1), (0, (x4 + 1)), (3, 0)] [] X v mc ms Q) ∧ ((((v 47 64) - (v 57 a1)) ≤ (v 79 (v 55 ((3 * x2) + x4)))) → i32 (x4 + 1) ∧ Ex mX11_late d 37 [(2, 47), (0, a1), (0, x2), (0, x3), (0, (x4 + 1)), (3, 0)] [] X v mc ms Q))))))))) : Ex mX11_late d 37 [(2, 47), (0, a1), (0, x2), (0, x3), (0, x4), (3, 0)] [] X v mc ms Q := by
  refine x_li32 (i := 1) rfl (fun ha1 => ?_)
  have F := F ha1
  refine x_li32 (i := 2) rfl (fun hx2 => ?_)
  have F := F hx2
  refine x_li32 (i := 3) rfl (fun hx3 => ?_)
  have F := F hx3
  refine x_li32 (i := 4) rfl (fun hx4 => ?_)
  have F := F hx4
  refine x_iload dX11_late_37 rfl ?_
  refine x_aload_n dX11_late_39 rfl ?_
  refine x_getr (r' := 54) flX11_30 dX11_late_40 (sW47 hW) (gW47 hW) (rW47_7 hW) rfl (Nat.le_of_ble_eq_true rfl) ?_
  refine x_iload_n dX11_late_43 rfl ?_
  obtain ⟨hi, F⟩ := F
  refine x_iald (e := (v 54 x2)) dX11_late_44 (sW54 hW) (gW54 hW) hi rfl ?_
  refine x_icmp_ge 111 dX11_late_45 rfl (fun hc => ?_) (fun hc => ?_)
  · have F := F.1 hc
    refine x_goto 28 dX11_late_111 rfl ?_
    exact x_less [(2, 47), (0, a1), (0, x2), (0, x3), (3, 0), (3, 0)] ⟨Or.inr rfl, ⟨Or.inr rfl, ⟨Or.inr rfl, ⟨Or.inr rfl, ⟨Or.inl rfl, ⟨Or.inr rfl, trivial⟩⟩⟩⟩⟩⟩ F
  · have F := F.2 hc
    refine x_iload_n dX11_late_48 rfl ?_
    refine x_if_ne 111 dX11_late_49 rfl (fun hc => ?_) (fun hc => ?_)
    · have F := F.1 hc
      refine x_goto 28 dX11_late_111 rfl ?_
      exact x_less [(2, 47), (0, a1), (0, x2), (0, x3), (3, 0), (3, 0)] ⟨Or.inr rfl, ⟨Or.inr rfl, ⟨Or.inr rfl, ⟨Or.inr rfl, ⟨Or.inl rfl, ⟨Or.inr rfl, trivial⟩⟩⟩⟩⟩⟩ F
    · have F := F.2 hc
      refine x_aload_n dX11_late_52 rfl ?_
      refine x_getr (r' := 55) flX11_33 dX11_late_53 (sW47 hW) (gW47 hW) (rW47_8 hW) rfl (Nat.le_of_ble_eq_true rfl) ?_
      refine x_iconst dX11_late_56 rfl (i32_of rfl) ?_
      refine x_iload_n dX11_late_57 rfl ?_
      obtain ⟨hz, F⟩ := F
      refine x_imul dX11_late_58 hz ?_
      refine x_iload dX11_late_59 rfl ?_
      refine x_si32 (i := 1) rfl (fun hk1 => ?_)
      obtain ⟨hz, F⟩ := F
      have hz := hz hk1
      refine x_iadd dX11_late_61 hz ?_
      obtain ⟨hi, F⟩ := F
      refine x_iald (e := (v 55 ((3 * x2) + x4))) dX11_late_62 (sW55 hW) (gW55 hW) hi rfl ?_
      refine x_istore [(2, 47), (0, a1), (0, x2), (0, x3), (0, x4), (0, (v 55 ((3 * x2) + x4)))] dX11_late_63 rfl (Nat.le_of_ble_eq_true rfl) ?_
      refine x_aload_n dX11_late_65 rfl ?_
      refine x_getr (r' := 79) flX11_135 dX11_late_66 (sW47 hW) (gW47 hW) (rW47_55 hW) rfl (Nat.le_of_ble_eq_true rfl) ?_
      refine x_iload dX11_late_69 rfl ?_
      obtain ⟨hi, F⟩ := F
      refine x_iald (e := (v 79 (v 55 ((3 * x2) + x4)))) dX11_late_71 (sW79 hW) (gW79 hW) hi rfl ?_
      refine x_iconst dX11_late_72 rfl (i32_of rfl) ?_
      refine x_icmp_eq 100 dX11_late_73 rfl (fun hc => ?_) (fun hc => ?_)
      · have F := F.1 hc
        refine x_iload dX11_late_100 rfl ?_
        refine x_istore_n [(2, 47), (0, a1), (0, (v 55 ((3 * x2) + x4))), (0, x3), (0, x4), (0, (v 55 ((3 * x2) + x4)))] dX11_late_102 rfl (Nat.le_of_ble_eq_true rfl) ?_
        refine x_iconst dX11_late_103 rfl (i32_of rfl) ?_
        refine x_istore_n [(2, 47), (0, a1), (0, (v 55 ((3 * x2) + x4))), (0, 1), (0, x4), (0, (v 55 ((3 * x2) + x4)))] dX11_late_104 rfl (Nat.le_of_ble_eq_true rfl) ?_
        obtain ⟨hz, F⟩ := F
        refine x_iinc [(2, 47), (0, a1), (0, (v 55 ((3 * x2) + x4))), (0, 1), (0, (x4 + 1)), (0, (v 55 ((3 * x2) + x4)))] dX11_late_105 rfl rfl (Nat.le_of_ble_eq_true rfl) hz ?_
        refine x_goto 37 dX11_late_108 rfl ?_
        exact x_less [(2, 47), (0, a1), (0, (v 55 ((3 * x2) + x4))), (0, 1), (0, (x4 + 1)), (3, 0)] ⟨Or.inr rfl, ⟨Or.inr rfl, ⟨Or.inr rfl, ⟨Or.inr rfl, ⟨Or.inr rfl, ⟨Or.inl rfl, trivial⟩⟩⟩⟩⟩⟩ F
      · have F := F.2 hc
        refine x_aload_n dX11_late_76 rfl ?_
        refine x_getr (r' := 79) flX11_135 dX11_late_77 (sW47 hW) (gW47 hW) (rW47_55 hW) rfl (Nat.le_of_ble_eq_true rfl) ?_
        refine x_iload dX11_late_80 rfl ?_
        obtain ⟨hi, F⟩ := F
        refine x_iald (e := (v 79 (v 55 ((3 * x2) + x4)))) dX11_late_82 (sW79 hW) (gW79 hW) hi rfl ?_
        refine x_aload_n dX11_late_83 rfl ?_
        refine x_geti (e := (v 47 64)) 0 flX11_351 dX11_late_84 (sW47 hW) (gW47 hW) rfl rfl (Nat.le_of_ble_eq_true rfl) (tagn2 rfl) ?_
        refine x_aload_n dX11_late_87 rfl ?_
        refine x_getr (r' := 57) flX11_39 dX11_late_88 (sW47 hW) (gW47 hW) (rW47_10 hW) rfl (Nat.le_of_ble_eq_true rfl) ?_
        refine x_iload_n dX11_late_91 rfl ?_
        obtain ⟨hi, F⟩ := F
        refine x_iald (e := (v 57 a1)) dX11_late_92 (sW57 hW) (gW57 hW) hi rfl ?_
        refine x_si32 (i := 0) rfl (fun hk0 => ?_)
        refine x_si32 (i := 1) rfl (fun hk1 => ?_)
        obtain ⟨hz, F⟩ := F
        have hz := hz hk0 hk1
        refine x_isub dX11_late_93 hz ?_
        refine x_icmp_lt 100 dX11_late_94 rfl (fun hc => ?_) (fun hc => ?_)
        · have F := F.1 hc
          refine x_iload dX11_late_100 rfl ?_
          refine x_istore_n [(2, 47), (0, a1), (0, (v 55 ((3 * x2) + x4))), (0, x3), (0, x4), (0, (v 55 ((3 * x2) + x4)))] dX11_late_102 rfl (Nat.le_of_ble_eq_true rfl) ?_
          refine x_iconst dX11_late_103 rfl (i32_of rfl) ?_
          refine x_istore_n [(2, 47), (0, a1), (0, (v 55 ((3 * x2) + x4))), (0, 1), (0, x4), (0, (v 55 ((3 * x2) + x4)))] dX11_late_104 rfl (Nat.le_of_ble_eq_true rfl) ?_
          obtain ⟨hz, F⟩ := F
          refine x_iinc [(2, 47), (0, a1), (0, (v 55 ((3 * x2) + x4))), (0, 1), (0, (x4 + 1)), (0, (v 55 ((3 * x2) + x4)))] dX11_late_105 rfl rfl (Nat.le_of_ble_eq_true rfl) hz ?_
          refine x_goto 37 dX11_late_108 rfl ?_
          exact x_less [(2, 47), (0, a1), (0, (v 55 ((3 * x2) + x4))), (0, 1), (0, (x4 + 1)), (3, 0)] ⟨Or.inr rfl, ⟨Or.inr rfl, ⟨Or.inr rfl, ⟨Or.inr rfl, ⟨Or.inr rfl, ⟨Or.inl rfl, trivial⟩⟩⟩⟩⟩⟩ F
        · have F := F.2 hc
          refine x_goto 105 dX11_late_97 rfl ?_
          obtain ⟨hz, F⟩ := F
          refine x_iinc [(2, 47), (0, a1), (0, x2), (0, x3), (0, (x4 + 1)), (0, (v 55 ((3 * x2) + x4)))] dX11_late_105 rfl rfl (Nat.le_of_ble_eq_true rfl) hz ?_
          refine x_goto 37 dX11_late_108 rfl ?_
          exact x_less [(2, 47), (0, a1), (0, x2), (0, x3), (0, (x4 + 1)), (3, 0)] ⟨Or.inr rfl, ⟨Or.inr rfl, ⟨Or.inr rfl, ⟨Or.inr rfl, ⟨Or.inr rfl, ⟨Or.inl rfl, trivial⟩⟩⟩⟩⟩⟩ F

set_option maxRecDepth 100000 in
set_option maxHeartbeats 4000000 in
theorem bX11_own_0 {d mc ms : Nat} {X : XX} {v : VV} {Q : QQ} (a1 : Int) (a2 : Int) (hd : 1 ≤ d) (hW : SW X) (F : i32 a1 → i32 a2 → ∃ P1 : Option AV → VV → Prop, Con mX11_isTable 0 0 0 [(2, 47), (0, a1)] X v (fun o X1 v1 => X1 = X ∧ P1 o v1) ∧ ∀ (r2 : Int) (w3 : VV), P1 (some (0, r2)) w3 → (((r2 = 0) → Q (some (0, 0)) X w3) ∧ ((¬ r2 = 0) → (((a2 < (-1)) → Q (some (0, 0)) X w3) ∧ (((-1) ≤ a2) → (((a2 ≤ 9) → (0 ≤ a1 ∧ a1 < 17) ∧ Q (some (0, 1)) X (upd2 w3 56 a1 a2)) ∧ ((9 < a2) → Q (some (0, 0)) X w3))))))) : Ex mX11_own d 0 [(2, 47), (0, a1), (0, a2)] [] X v mc ms Q := by
  refine x_li32 (i := 1) rfl (fun ha1 => ?_)
  have F := F ha1
  refine x_li32 (i := 2) rfl (fun ha2 => ?_)
  have F := F ha2
  refine x_aload_n dX11_own_0 rfl ?_
  refine x_iload_n dX11_own_1 rfl ?_
  obtain ⟨P1, hC, F⟩ := F
  refine x_inv dX11_own_2 mlX11_162 hC (sW47 hW) (Nat.le_of_ble_eq_true rfl) (gW47 hW) rfl rfl (by omega) (Nat.zero_le _) (Nat.zero_le _) (Nat.le_of_ble_eq_true rfl) (fun o1 Y4 w3 ht hP => ?_)
  obtain ⟨r2, rfl⟩ : ∃ i, o1 = some (0, i) := ht
  obtain ⟨rfl, hP⟩ := hP
  have F := F r2 w3 hP
  refine x_if_eq 19 dX11_own_5 rfl (fun hc => ?_) (fun hc => ?_)
  · have F := F.1 hc
    refine x_iconst dX11_own_19 rfl (i32_of rfl) ?_
    exact x_ret (some (0, 0)) rfl ⟨dX11_own_20, Or.inr ⟨rfl, Or.inl rfl⟩⟩ F
  · have F := F.2 hc
    refine x_iload_n dX11_own_8 rfl ?_
    refine x_iconst dX11_own_9 rfl (i32_of rfl) ?_
    refine x_icmp_lt 19 dX11_own_10 rfl (fun hc => ?_) (fun hc => ?_)
    · have F := F.1 hc
      refine x_iconst dX11_own_19 rfl (i32_of rfl) ?_
      exact x_ret (some (0, 0)) rfl ⟨dX11_own_20, Or.inr ⟨rfl, Or.inl rfl⟩⟩ F
    · have F := F.2 hc
      refine x_iload_n dX11_own_13 rfl ?_
      refine x_bipush dX11_own_14 kb_9 (i32_of rfl) ?_
      refine x_icmp_le 21 dX11_own_16 rfl (fun hc => ?_) (fun hc => ?_)
      · have F := F.1 hc
        refine x_aload_n dX11_own_21 rfl ?_
        refine x_getr (r' := 56) flX11_36 dX11_own_22 (sW47 hW) (gW47 hW) (rW47_9 hW) rfl (Nat.le_of_ble_eq_true rfl) ?_
        refine x_iload_n dX11_own_25 rfl ?_
        refine x_iload_n dX11_own_26 rfl ?_
        obtain ⟨hi, F⟩ := F
        refine x_iast dX11_own_27 (sW56 hW) (gW56 hW) hi ?_
        refine x_iconst dX11_own_28 rfl (i32_of rfl) ?_
        exact x_ret (some (0, 1)) rfl ⟨dX11_own_29, Or.inr ⟨rfl, Or.inr rfl⟩⟩ F
      · have F := F.2 hc
        refine x_iconst dX11_own_19 rfl (i32_of rfl) ?_
        exact x_ret (some (0, 0)) rfl ⟨dX11_own_20, Or.inr ⟨rfl, Or.inl rfl⟩⟩ F

set_option maxRecDepth 100000 in
set_option maxHeartbeats 4000000 in
theorem bX11_unused_0 {d mc ms : Nat} {X : XX} {v : VV} {Q : QQ} (a1 : Int) (hd : 1 ≤ d) (hW : SW X) (F : i32 a1 → ∃ P1 : Option AV → VV → Prop, Con mX11_clears 0 0 0 [(2, 47)] X v (fun o X1 v1 => X1 = X ∧ P1 o v1) ∧ ∀ (w3 : VV), P1 none w3 → Ex mX11_unused d 6 [(2, 47), (0, a1), (0, 0), (3, 0)] [] X w3 mc ms Q) : Ex mX11_unused d 0 [(2, 47), (0, a1), (3, 0), (3, 0)] [] X v mc ms Q := by
  refine x_li32 (i := 1) rfl (fun ha1 => ?_)
  have F := F ha1
  refine x_aload_n dX11_unused_0 rfl ?_
  obtain ⟨P1, hC, F⟩ := F
  refine x_inv dX11_unused_1 mlX11_333 hC (sW47 hW) (Nat.le_of_ble_eq_true rfl) (gW47 hW) rfl rfl (by omega) (Nat.zero_le _) (Nat.zero_le _) (Nat.le_of_ble_eq_true rfl) (fun o1 Y4 w3 ht hP => ?_)
  obtain rfl : o1 = none := ht
  obtain ⟨rfl, hP⟩ := hP
  have F := F w3 hP
  refine x_iconst dX11_unused_4 rfl (i32_of rfl) ?_
  refine x_istore_n [(2, 47), (0, a1), (0, 0), (3, 0)] dX11_unused_5 rfl (Nat.le_of_ble_eq_true rfl) ?_
  exact F

set_option maxRecDepth 100000 in
set_option maxHeartbeats 4000000 in
theorem bX11_unused_6 {d mc ms : Nat} {X : XX} {v : VV} {Q : QQ} (a1 : Int) (x2 : Int) (hd : 1 ≤ d) (hW : SW X) (F : i32 a1 → i32 x2 → ((((v 47 59) ≤ x2) → (i32 (v 47 0) → i32 ((v 47 0) - 1)) ∧ Ex mX11_unused d 58 [(2, 47), (0, a1), (0, ((v 47 0) - 1)), (3, 0)] [] X v mc ms Q) ∧ ((x2 < (v 47 59)) → (0 ≤ x2 ∧ x2 < 40) ∧ ((((v 84 x2) ≤ 0) → i32 (x2 + 1) ∧ Ex mX11_unused d 6 [(2, 47), (0, a1), (0, (x2 + 1)), (3, 0)] [] X v mc ms Q) ∧ ((0 < (v 84 x2)) → (0 ≤ x2 ∧ x2 < 40) ∧ ((((v 85 x2) < a1) → i32 (x2 + 1) ∧ Ex mX11_unused d 6 [(2, 47), (0, a1), (0, (x2 + 1)), (3, 0)] [] X v mc ms Q) ∧ ((a1 ≤ (v 85 x2)) → (0 ≤ x2 ∧ x2 < 40) ∧ (0 ≤ (v 83 x2) ∧ (v 83 x2) < 136) ∧ i32 (x2 + 1) ∧ Ex mX11_unused d 6 [(2, 47), (0, a1), (0, (x2 + 1)), (3, 0)] [] X (upd2 v 80 (v 83 x2) 1) mc ms Q))))))) : Ex mX11_unused d 6 [(2, 47), (0, a1), (0, x2), (3, 0)] [] X v mc ms Q := by
  refine x_li32 (i := 1) rfl (fun ha1 => ?_)
  have F := F ha1
  refine x_li32 (i := 2) rfl (fun hx2 => ?_)
  have F := F hx2
  refine x_iload_n dX11_unused_6 rfl ?_
  refine x_aload_n dX11_unused_7 rfl ?_
  refine x_geti (e := (v 47 59)) 0 flX11_348 dX11_unused_8 (sW47 hW) (gW47 hW) rfl rfl (Nat.le_of_ble_eq_true rfl) (tagn2 rfl) ?_
  refine x_icmp_ge 51 dX11_unused_11 rfl (fun hc => ?_) (fun hc => ?_)
  · have F := F.1 hc
    refine x_aload_n dX11_unused_51 rfl ?_
    refine x_geti (e := (v 47 0)) 0 flX11_159 dX11_unused_52 (sW47 hW) (gW47 hW) rfl rfl (Nat.le_of_ble_eq_true rfl) (tagn2 rfl) ?_
    refine x_iconst dX11_unused_55 rfl (i32_of rfl) ?_
    refine x_si32 (i := 1) rfl (fun hk1 => ?_)
    obtain ⟨hz, F⟩ := F
    have hz := hz hk1
    refine x_isub dX11_unused_56 hz ?_
    refine x_istore_n [(2, 47), (0, a1), (0, ((v 47 0) - 1)), (3, 0)] dX11_unused_57 rfl (Nat.le_of_ble_eq_true rfl) ?_
    exact F
  · have F := F.2 hc
    refine x_aload_n dX11_unused_14 rfl ?_
    refine x_getr (r' := 84) flX11_150 dX11_unused_15 (sW47 hW) (gW47 hW) (rW47_62 hW) rfl (Nat.le_of_ble_eq_true rfl) ?_
    refine x_iload_n dX11_unused_18 rfl ?_
    obtain ⟨hi, F⟩ := F
    refine x_iald (e := (v 84 x2)) dX11_unused_19 (sW84 hW) (gW84 hW) hi rfl ?_
    refine x_if_le 45 dX11_unused_20 rfl (fun hc => ?_) (fun hc => ?_)
    · have F := F.1 hc
      obtain ⟨hz, F⟩ := F
      refine x_iinc [(2, 47), (0, a1), (0, (x2 + 1)), (3, 0)] dX11_unused_45 rfl rfl (Nat.le_of_ble_eq_true rfl) hz ?_
      refine x_goto 6 dX11_unused_48 rfl ?_
      exact F
    · have F := F.2 hc
      refine x_aload_n dX11_unused_23 rfl ?_
      refine x_getr (r' := 85) flX11_153 dX11_unused_24 (sW47 hW) (gW47 hW) (rW47_63 hW) rfl (Nat.le_of_ble_eq_true rfl) ?_
      refine x_iload_n dX11_unused_27 rfl ?_
      obtain ⟨hi, F⟩ := F
      refine x_iald (e := (v 85 x2)) dX11_unused_28 (sW85 hW) (gW85 hW) hi rfl ?_
      refine x_iload_n dX11_unused_29 rfl ?_
      refine x_icmp_lt 45 dX11_unused_30 rfl (fun hc => ?_) (fun hc => ?_)
      · have F := F.1 hc
        obtain ⟨hz, F⟩ := F
        refine x_iinc [(2, 47), (0, a1), (0, (x2 + 1)), (3, 0)] dX11_unused_45 rfl rfl (Nat.le_of_ble_eq_true rfl) hz ?_
        refine x_goto 6 dX11_unused_48 rfl ?_
        exact F
      · have F := F.2 hc
        refine x_aload_n dX11_unused_33 rfl ?_
        refine x_getr (r' := 80) flX11_138 dX11_unused_34 (sW47 hW) (gW47 hW) (rW47_56 hW) rfl (Nat.le_of_ble_eq_true rfl) ?_
        refine x_aload_n dX11_unused_37 rfl ?_
        refine x_getr (r' := 83) flX11_147 dX11_unused_38 (sW47 hW) (gW47 hW) (rW47_61 hW) rfl (Nat.le_of_ble_eq_true rfl) ?_
        refine x_iload_n dX11_unused_41 rfl ?_
        obtain ⟨hi, F⟩ := F
        refine x_iald (e := (v 83 x2)) dX11_unused_42 (sW83 hW) (gW83 hW) hi rfl ?_
        refine x_iconst dX11_unused_43 rfl (i32_of rfl) ?_
        obtain ⟨hi, F⟩ := F
        refine x_zast dX11_unused_44 (sW80 hW) (gW80 hW) hi (Or.inr rfl) ?_
        obtain ⟨hz, F⟩ := F
        refine x_iinc [(2, 47), (0, a1), (0, (x2 + 1)), (3, 0)] dX11_unused_45 rfl rfl (Nat.le_of_ble_eq_true rfl) hz ?_
        refine x_goto 6 dX11_unused_48 rfl ?_
        exact F

set_option maxRecDepth 100000 in
set_option maxHeartbeats 4000000 in
theorem bX11_unused_58 {d mc ms : Nat} {X : XX} {v : VV} {Q : QQ} (a1 : Int) (x2 : Int) (hd : 1 ≤ d) (hW : SW X) (F : i32 a1 → i32 x2 → (((x2 < 0) → Ex mX11_unused d 130 [(2, 47), (0, a1), (0, 0), (3, 0)] [] X (upd2 v 47 57 0) mc ms Q) ∧ ((0 ≤ x2) → (0 ≤ x2 ∧ x2 < 17) ∧ ((((v 48 x2) = 0) → i32 (x2 + (-1)) ∧ Ex mX11_unused d 58 [(2, 47), (0, a1), (0, (x2 + (-1))), (3, 0)] [] X v mc ms Q) ∧ ((¬ (v 48 x2) = 0) → (0 ≤ x2 ∧ x2 < 136) ∧ (((¬ (v 80 x2) = 0) → Ex mX11_unused d 85 [(2, 47), (0, a1), (0, x2), (0, 0)] [] X v mc ms Q) ∧ (((v 80 x2) = 0) → i32 (x2 + (-1)) ∧ Ex mX11_unused d 58 [(2, 47), (0, a1), (0, (x2 + (-1))), (3, 0)] [] X v mc ms Q))))))) : Ex mX11_unused d 58 [(2, 47), (0, a1), (0, x2), (3, 0)] [] X v mc ms Q := by
  refine x_li32 (i := 1) rfl (fun ha1 => ?_)
  have F := F ha1
  refine x_li32 (i := 2) rfl (fun hx2 => ?_)
  have F := F hx2
  refine x_iload_n dX11_unused_58 rfl ?_
  refine x_if_lt 123 dX11_unused_59 rfl (fun hc => ?_) (fun hc => ?_)
  · have F := F.1 hc
    refine x_aload_n dX11_unused_123 rfl ?_
    refine x_iconst dX11_unused_124 rfl (i32_of rfl) ?_
    refine x_puti 0 fwX11_324 dX11_unused_125 (sW47 hW) (gW47 hW) (fun h => Bool.noConfusion h) (Nat.le_of_ble_eq_true rfl) rfl (Or.inl ⟨rfl, Or.inl rfl⟩) ?_
    refine x_iconst dX11_unused_128 rfl (i32_of rfl) ?_
    refine x_istore_n [(2, 47), (0, a1), (0, 0), (3, 0)] dX11_unused_129 rfl (Nat.le_of_ble_eq_true rfl) ?_
    exact F
  · have F := F.2 hc
    refine x_aload_n dX11_unused_62 rfl ?_
    refine x_getr (r' := 48) flX11_7 dX11_unused_63 (sW47 hW) (gW47 hW) (rW47_1 hW) rfl (Nat.le_of_ble_eq_true rfl) ?_
    refine x_iload_n dX11_unused_66 rfl ?_
    obtain ⟨hi, F⟩ := F
    refine x_zald (e := (v 48 x2)) dX11_unused_67 (sW48 hW) (gW48 hW) hi rfl ?_
    refine x_if_eq 117 dX11_unused_68 rfl (fun hc => ?_) (fun hc => ?_)
    · have F := F.1 hc
      obtain ⟨hz, F⟩ := F
      refine x_iinc [(2, 47), (0, a1), (0, (x2 + (-1))), (3, 0)] dX11_unused_117 rfl rfl (Nat.le_of_ble_eq_true rfl) hz ?_
      refine x_goto 58 dX11_unused_120 rfl ?_
      exact F
    · have F := F.2 hc
      refine x_aload_n dX11_unused_71 rfl ?_
      refine x_getr (r' := 80) flX11_138 dX11_unused_72 (sW47 hW) (gW47 hW) (rW47_56 hW) rfl (Nat.le_of_ble_eq_true rfl) ?_
      refine x_iload_n dX11_unused_75 rfl ?_
      obtain ⟨hi, F⟩ := F
      refine x_zald (e := (v 80 x2)) dX11_unused_76 (sW80 hW) (gW80 hW) hi rfl ?_
      refine x_if_ne 83 dX11_unused_77 rfl (fun hc => ?_) (fun hc => ?_)
      · have F := F.1 hc
        refine x_iconst dX11_unused_83 rfl (i32_of rfl) ?_
        refine x_istore_n [(2, 47), (0, a1), (0, x2), (0, 0)] dX11_unused_84 rfl (Nat.le_of_ble_eq_true rfl) ?_
        exact F
      · have F := F.2 hc
        refine x_goto 117 dX11_unused_80 rfl ?_
        obtain ⟨hz, F⟩ := F
        refine x_iinc [(2, 47), (0, a1), (0, (x2 + (-1))), (3, 0)] dX11_unused_117 rfl rfl (Nat.le_of_ble_eq_true rfl) hz ?_
        refine x_goto 58 dX11_unused_120 rfl ?_
        exact F

set_option maxRecDepth 100000 in
set_option maxHeartbeats 4000000 in
theorem bX11_unused_85 {d mc ms : Nat} {X : XX} {v : VV} {Q : QQ} (a1 : Int) (x2 : Int) (x3 : Int) (hd : 1 ≤ d) (hW : SW X) (F : i32 a1 → i32 x2 → i32 x3 → (0 ≤ x2 ∧ x2 < 17) ∧ ((((v 54 x2) ≤ x3) → i32 (x2 + (-1)) ∧ Ex mX11_unused d 58 [(2, 47), (0, a1), (0, (x2 + (-1))), (3, 0)] [] X v mc ms Q) ∧ ((x3 < (v 54 x2)) → i32 (3 * x2) ∧ (i32 (3 * x2) → i32 ((3 * x2) + x3)) ∧ (0 ≤ ((3 * x2) + x3) ∧ ((3 * x2) + x3) < 51) ∧ (0 ≤ (v 55 ((3 * x2) + x3)) ∧ (v 55 ((3 * x2) + x3)) < 136) ∧ i32 (x3 + 1) ∧ Ex mX11_unused d 85 [(2, 47), (0, a1), (0, x2), (0, (x3 + 1))] [] X (upd2 v 80 (v 55 ((3 * x2) + x3)) 1) mc ms Q))) : Ex mX11_unused d 85 [(2, 47), (0, a1), (0, x2), (0, x3)] [] X v mc ms Q := by
  refine x_li32 (i := 1) rfl (fun ha1 => ?_)
  have F := F ha1
  refine x_li32 (i := 2) rfl (fun hx2 => ?_)
  have F := F hx2
  refine x_li32 (i := 3) rfl (fun hx3 => ?_)
  have F := F hx3
  refine x_iload_n dX11_unused_85 rfl ?_
  refine x_aload_n dX11_unused_86 rfl ?_
  refine x_getr (r' := 54) flX11_30 dX11_unused_87 (sW47 hW) (gW47 hW) (rW47_7 hW) rfl (Nat.le_of_ble_eq_true rfl) ?_
  refine x_iload_n dX11_unused_90 rfl ?_
  obtain ⟨hi, F⟩ := F
  refine x_iald (e := (v 54 x2)) dX11_unused_91 (sW54 hW) (gW54 hW) hi rfl ?_
  refine x_icmp_ge 117 dX11_unused_92 rfl (fun hc => ?_) (fun hc => ?_)
  · have F := F.1 hc
    obtain ⟨hz, F⟩ := F
    refine x_iinc [(2, 47), (0, a1), (0, (x2 + (-1))), (0, x3)] dX11_unused_117 rfl rfl (Nat.le_of_ble_eq_true rfl) hz ?_
    refine x_goto 58 dX11_unused_120 rfl ?_
    exact x_less [(2, 47), (0, a1), (0, (x2 + (-1))), (3, 0)] ⟨Or.inr rfl, ⟨Or.inr rfl, ⟨Or.inr rfl, ⟨Or.inl rfl, trivial⟩⟩⟩⟩ F
  · have F := F.2 hc
    refine x_aload_n dX11_unused_95 rfl ?_
    refine x_getr (r' := 80) flX11_138 dX11_unused_96 (sW47 hW) (gW47 hW) (rW47_56 hW) rfl (Nat.le_of_ble_eq_true rfl) ?_
    refine x_aload_n dX11_unused_99 rfl ?_
    refine x_getr (r' := 55) flX11_33 dX11_unused_100 (sW47 hW) (gW47 hW) (rW47_8 hW) rfl (Nat.le_of_ble_eq_true rfl) ?_
    refine x_iconst dX11_unused_103 rfl (i32_of rfl) ?_
    refine x_iload_n dX11_unused_104 rfl ?_
    obtain ⟨hz, F⟩ := F
    refine x_imul dX11_unused_105 hz ?_
    refine x_iload_n dX11_unused_106 rfl ?_
    refine x_si32 (i := 1) rfl (fun hk1 => ?_)
    obtain ⟨hz, F⟩ := F
    have hz := hz hk1
    refine x_iadd dX11_unused_107 hz ?_
    obtain ⟨hi, F⟩ := F
    refine x_iald (e := (v 55 ((3 * x2) + x3))) dX11_unused_108 (sW55 hW) (gW55 hW) hi rfl ?_
    refine x_iconst dX11_unused_109 rfl (i32_of rfl) ?_
    obtain ⟨hi, F⟩ := F
    refine x_zast dX11_unused_110 (sW80 hW) (gW80 hW) hi (Or.inr rfl) ?_
    obtain ⟨hz, F⟩ := F
    refine x_iinc [(2, 47), (0, a1), (0, x2), (0, (x3 + 1))] dX11_unused_111 rfl rfl (Nat.le_of_ble_eq_true rfl) hz ?_
    refine x_goto 85 dX11_unused_114 rfl ?_
    exact F

set_option maxRecDepth 100000 in
set_option maxHeartbeats 4000000 in
theorem bX11_unused_130 {d mc ms : Nat} {X : XX} {v : VV} {Q : QQ} (a1 : Int) (x2 : Int) (hd : 1 ≤ d) (hW : SW X) (F : i32 a1 → i32 x2 → ((((v 47 0) ≤ x2) → Q (some (0, (v 47 57))) X v) ∧ ((x2 < (v 47 0)) → (0 ≤ x2 ∧ x2 < 17) ∧ ((((v 48 x2) = 0) → i32 (x2 + 1) ∧ Ex mX11_unused d 130 [(2, 47), (0, a1), (0, (x2 + 1)), (3, 0)] [] X v mc ms Q) ∧ ((¬ (v 48 x2) = 0) → (0 ≤ x2 ∧ x2 < 136) ∧ (((¬ (v 80 x2) = 0) → i32 (x2 + 1) ∧ Ex mX11_unused d 130 [(2, 47), (0, a1), (0, (x2 + 1)), (3, 0)] [] X v mc ms Q) ∧ (((v 80 x2) = 0) → ∃ P5 : Option AV → VV → Prop, Con mX11_finds 0 0 0 [(2, 47), (0, x2)] X v (fun o X1 v1 => X1 = X ∧ P5 o v1) ∧ ∀ (w7 : VV), P5 none w7 → i32 (x2 + 1) ∧ Ex mX11_unused d 130 [(2, 47), (0, a1), (0, (x2 + 1)), (3, 0)] [] X w7 mc ms Q))))))) : Ex mX11_unused d 130 [(2, 47), (0, a1), (0, x2), (3, 0)] [] X v mc ms Q := by
  refine x_li32 (i := 1) rfl (fun ha1 => ?_)
  have F := F ha1
  refine x_li32 (i := 2) rfl (fun hx2 => ?_)
  have F := F hx2
  refine x_iload_n dX11_unused_130 rfl ?_
  refine x_aload_n dX11_unused_131 rfl ?_
  refine x_geti (e := (v 47 0)) 0 flX11_159 dX11_unused_132 (sW47 hW) (gW47 hW) rfl rfl (Nat.le_of_ble_eq_true rfl) (tagn2 rfl) ?_
  refine x_icmp_ge 167 dX11_unused_135 rfl (fun hc => ?_) (fun hc => ?_)
  · have F := F.1 hc
    refine x_aload_n dX11_unused_167 rfl ?_
    refine x_geti (e := (v 47 57)) 0 flX11_324 dX11_unused_168 (sW47 hW) (gW47 hW) rfl rfl (Nat.le_of_ble_eq_true rfl) (tagn2 rfl) ?_
    exact x_ret (some (0, (v 47 57))) rfl ⟨dX11_unused_171, Or.inl rfl⟩ F
  · have F := F.2 hc
    refine x_aload_n dX11_unused_138 rfl ?_
    refine x_getr (r' := 48) flX11_7 dX11_unused_139 (sW47 hW) (gW47 hW) (rW47_1 hW) rfl (Nat.le_of_ble_eq_true rfl) ?_
    refine x_iload_n dX11_unused_142 rfl ?_
    obtain ⟨hi, F⟩ := F
    refine x_zald (e := (v 48 x2)) dX11_unused_143 (sW48 hW) (gW48 hW) hi rfl ?_
    refine x_if_eq 161 dX11_unused_144 rfl (fun hc => ?_) (fun hc => ?_)
    · have F := F.1 hc
      obtain ⟨hz, F⟩ := F
      refine x_iinc [(2, 47), (0, a1), (0, (x2 + 1)), (3, 0)] dX11_unused_161 rfl rfl (Nat.le_of_ble_eq_true rfl) hz ?_
      refine x_goto 130 dX11_unused_164 rfl ?_
      exact F
    · have F := F.2 hc
      refine x_aload_n dX11_unused_147 rfl ?_
      refine x_getr (r' := 80) flX11_138 dX11_unused_148 (sW47 hW) (gW47 hW) (rW47_56 hW) rfl (Nat.le_of_ble_eq_true rfl) ?_
      refine x_iload_n dX11_unused_151 rfl ?_
      obtain ⟨hi, F⟩ := F
      refine x_zald (e := (v 80 x2)) dX11_unused_152 (sW80 hW) (gW80 hW) hi rfl ?_
      refine x_if_ne 161 dX11_unused_153 rfl (fun hc => ?_) (fun hc => ?_)
      · have F := F.1 hc
        obtain ⟨hz, F⟩ := F
        refine x_iinc [(2, 47), (0, a1), (0, (x2 + 1)), (3, 0)] dX11_unused_161 rfl rfl (Nat.le_of_ble_eq_true rfl) hz ?_
        refine x_goto 130 dX11_unused_164 rfl ?_
        exact F
      · have F := F.2 hc
        refine x_aload_n dX11_unused_156 rfl ?_
        refine x_iload_n dX11_unused_157 rfl ?_
        obtain ⟨P5, hC, F⟩ := F
        refine x_inv dX11_unused_158 mlX11_339 hC (sW47 hW) (Nat.le_of_ble_eq_true rfl) (gW47 hW) rfl rfl (by omega) (Nat.zero_le _) (Nat.zero_le _) (Nat.le_of_ble_eq_true rfl) (fun o1 Y8 w7 ht hP => ?_)
        obtain rfl : o1 = none := ht
        obtain ⟨rfl, hP⟩ := hP
        have F := F w7 hP
        obtain ⟨hz, F⟩ := F
        refine x_iinc [(2, 47), (0, a1), (0, (x2 + 1)), (3, 0)] dX11_unused_161 rfl rfl (Nat.le_of_ble_eq_true rfl) hz ?_
        refine x_goto 130 dX11_unused_164 rfl ?_
        exact F

set_option maxRecDepth 100000 in
set_option maxHeartbeats 4000000 in
theorem bX11_isSelect_0 {d mc ms : Nat} {X : XX} {v : VV} {Q : QQ} (a1 : Int) (hd : 1 ≤ d) (hW : SW X) (F : i32 a1 → ∃ P1 : Option AV → VV → Prop, Con mX11_isTable 0 0 0 [(2, 47), (0, a1)] X v (fun o X1 v1 => X1 = X ∧ P1 o v1) ∧ ∀ (r2 : Int) (w3 : VV), P1 (some (0, r2)) w3 → (((r2 = 0) → Q (some (0, 0)) X w3) ∧ ((¬ r2 = 0) → (0 ≤ a1 ∧ a1 < 17) ∧ ((((w3 50 a1) = 1) → Q (some (0, 1)) X w3) ∧ ((¬ (w3 50 a1) = 1) → (0 ≤ a1 ∧ a1 < 17) ∧ (((¬ (w3 50 a1) = 2) → Q (some (0, 0)) X w3) ∧ (((w3 50 a1) = 2) → Q (some (0, 1)) X w3))))))) : Ex mX11_isSelect d 0 [(2, 47), (0, a1)] [] X v mc ms Q := by
  refine x_li32 (i := 1) rfl (fun ha1 => ?_)
  have F := F ha1
  refine x_aload_n dX11_isSelect_0 rfl ?_
  refine x_iload_n dX11_isSelect_1 rfl ?_
  obtain ⟨P1, hC, F⟩ := F
  refine x_inv dX11_isSelect_2 mlX11_162 hC (sW47 hW) (Nat.le_of_ble_eq_true rfl) (gW47 hW) rfl rfl (by omega) (Nat.zero_le _) (Nat.zero_le _) (Nat.le_of_ble_eq_true rfl) (fun o1 Y4 w3 ht hP => ?_)
  obtain ⟨r2, rfl⟩ : ∃ i, o1 = some (0, i) := ht
  obtain ⟨rfl, hP⟩ := hP
  have F := F r2 w3 hP
  refine x_if_eq 32 dX11_isSelect_5 rfl (fun hc => ?_) (fun hc => ?_)
  · have F := F.1 hc
    refine x_iconst dX11_isSelect_32 rfl (i32_of rfl) ?_
    exact x_ret (some (0, 0)) rfl ⟨dX11_isSelect_33, Or.inr ⟨rfl, Or.inl rfl⟩⟩ F
  · have F := F.2 hc
    refine x_aload_n dX11_isSelect_8 rfl ?_
    refine x_getr (r' := 50) flX11_17 dX11_isSelect_9 (sW47 hW) (gW47 hW) (rW47_3 hW) rfl (Nat.le_of_ble_eq_true rfl) ?_
    refine x_iload_n dX11_isSelect_12 rfl ?_
    obtain ⟨hi, F⟩ := F
    refine x_iald (e := (w3 50 a1)) dX11_isSelect_13 (sW50 hW) (gW50 hW) hi rfl ?_
    refine x_iconst dX11_isSelect_14 rfl (i32_of rfl) ?_
    refine x_icmp_eq 28 dX11_isSelect_15 rfl (fun hc => ?_) (fun hc => ?_)
    · have F := F.1 hc
      refine x_iconst dX11_isSelect_28 rfl (i32_of rfl) ?_
      refine x_goto 33 dX11_isSelect_29 rfl ?_
      exact x_ret (some (0, 1)) rfl ⟨dX11_isSelect_33, Or.inr ⟨rfl, Or.inr rfl⟩⟩ F
    · have F := F.2 hc
      refine x_aload_n dX11_isSelect_18 rfl ?_
      refine x_getr (r' := 50) flX11_17 dX11_isSelect_19 (sW47 hW) (gW47 hW) (rW47_3 hW) rfl (Nat.le_of_ble_eq_true rfl) ?_
      refine x_iload_n dX11_isSelect_22 rfl ?_
      obtain ⟨hi, F⟩ := F
      refine x_iald (e := (w3 50 a1)) dX11_isSelect_23 (sW50 hW) (gW50 hW) hi rfl ?_
      refine x_iconst dX11_isSelect_24 rfl (i32_of rfl) ?_
      refine x_icmp_ne 32 dX11_isSelect_25 rfl (fun hc => ?_) (fun hc => ?_)
      · have F := F.1 hc
        refine x_iconst dX11_isSelect_32 rfl (i32_of rfl) ?_
        exact x_ret (some (0, 0)) rfl ⟨dX11_isSelect_33, Or.inr ⟨rfl, Or.inl rfl⟩⟩ F
      · have F := F.2 hc
        refine x_iconst dX11_isSelect_28 rfl (i32_of rfl) ?_
        refine x_goto 33 dX11_isSelect_29 rfl ?_
        exact x_ret (some (0, 1)) rfl ⟨dX11_isSelect_33, Or.inr ⟨rfl, Or.inr rfl⟩⟩ F

set_option maxRecDepth 100000 in
set_option maxHeartbeats 4000000 in
theorem bX11_alike_0 {d mc ms : Nat} {X : XX} {v : VV} {Q : QQ} (a1 : Int) (a2 : Int) (hd : 2 ≤ d) (hW : SW X) (F : i32 a1 → i32 a2 → ∃ P1 : Option AV → VV → Prop, Con mX11_isSelect 1 0 0 [(2, 47), (0, a1)] X v (fun o X1 v1 => X1 = X ∧ P1 o v1) ∧ ∀ (r2 : Int) (w3 : VV), P1 (some (0, r2)) w3 → (((r2 = 0) → Q (some (0, (-1))) X w3) ∧ ((¬ r2 = 0) → ∃ P5 : Option AV → VV → Prop, Con mX11_isSelect 1 0 0 [(2, 47), (0, a2)] X w3 (fun o X1 v1 => X1 = X ∧ P5 o v1) ∧ ∀ (r6 : Int) (w7 : VV), P5 (some (0, r6)) w7 → (((r6 = 0) → Q (some (0, (-1))) X w7) ∧ ((¬ r6 = 0) → (((¬ a1 = a2) → (0 ≤ a1 ∧ a1 < 17) ∧ (0 ≤ a1 ∧ a1 < 17) ∧ (i32 (w7 67 a1) → i32 (w7 60 a1) → i32 ((w7 60 a1) - (w7 67 a1))) ∧ (0 ≤ a2 ∧ a2 < 17) ∧ (0 ≤ a2 ∧ a2 < 17) ∧ (i32 (w7 67 a2) → i32 (w7 60 a2) → i32 ((w7 60 a2) - (w7 67 a2))) ∧ (((((w7 60 a1) - (w7 67 a1)) = ((w7 60 a2) - (w7 67 a2))) → (0 ≤ a1 ∧ a1 < 17) ∧ (0 ≤ a2 ∧ a2 < 17) ∧ Ex mX11_alike d 69 [(2, 47), (0, a1), (0, a2), (0, (w7 67 a1)), (0, (w7 67 a2)), (3, 0), (3, 0), (3, 0)] [] X w7 mc ms Q) ∧ ((¬ ((w7 60 a1) - (w7 67 a1)) = ((w7 60 a2) - (w7 67 a2))) → Q (some (0, 0)) X w7))) ∧ ((a1 = a2) → Q (some (0, (-1))) X w7))))))) : Ex mX11_alike d 0 [(2, 47), (0, a1), (0, a2), (3, 0), (3, 0), (3, 0), (3, 0), (3, 0)] [] X v mc ms Q := by
  refine x_li32 (i := 1) rfl (fun ha1 => ?_)
  have F := F ha1
  refine x_li32 (i := 2) rfl (fun ha2 => ?_)
  have F := F ha2
  refine x_aload_n dX11_alike_0 rfl ?_
  refine x_iload_n dX11_alike_1 rfl ?_
  obtain ⟨P1, hC, F⟩ := F
  refine x_inv dX11_alike_2 mlX11_366 hC (sW47 hW) (Nat.le_of_ble_eq_true rfl) (gW47 hW) rfl rfl (by omega) (Nat.zero_le _) (Nat.zero_le _) (Nat.le_of_ble_eq_true rfl) (fun o1 Y4 w3 ht hP => ?_)
  obtain ⟨r2, rfl⟩ : ∃ i, o1 = some (0, i) := ht
  obtain ⟨rfl, hP⟩ := hP
  have F := F r2 w3 hP
  refine x_if_eq 21 dX11_alike_5 rfl (fun hc => ?_) (fun hc => ?_)
  · have F := F.1 hc
    refine x_iconst dX11_alike_21 rfl (i32_of rfl) ?_
    exact x_ret (some (0, (-1))) rfl ⟨dX11_alike_22, Or.inl rfl⟩ F
  · have F := F.2 hc
    refine x_aload_n dX11_alike_8 rfl ?_
    refine x_iload_n dX11_alike_9 rfl ?_
    obtain ⟨P5, hC, F⟩ := F
    refine x_inv dX11_alike_10 mlX11_366 hC (sW47 hW) (Nat.le_of_ble_eq_true rfl) (gW47 hW) rfl rfl (by omega) (Nat.zero_le _) (Nat.zero_le _) (Nat.le_of_ble_eq_true rfl) (fun o1 Y8 w7 ht hP => ?_)
    obtain ⟨r6, rfl⟩ : ∃ i, o1 = some (0, i) := ht
    obtain ⟨rfl, hP⟩ := hP
    have F := F r6 w7 hP
    refine x_if_eq 21 dX11_alike_13 rfl (fun hc => ?_) (fun hc => ?_)
    · have F := F.1 hc
      refine x_iconst dX11_alike_21 rfl (i32_of rfl) ?_
      exact x_ret (some (0, (-1))) rfl ⟨dX11_alike_22, Or.inl rfl⟩ F
    · have F := F.2 hc
      refine x_iload_n dX11_alike_16 rfl ?_
      refine x_iload_n dX11_alike_17 rfl ?_
      refine x_icmp_ne 23 dX11_alike_18 rfl (fun hc => ?_) (fun hc => ?_)
      · have F := F.1 hc
        refine x_aload_n dX11_alike_23 rfl ?_
        refine x_getr (r' := 60) flX11_48 dX11_alike_24 (sW47 hW) (gW47 hW) (rW47_13 hW) rfl (Nat.le_of_ble_eq_true rfl) ?_
        refine x_iload_n dX11_alike_27 rfl ?_
        obtain ⟨hi, F⟩ := F
        refine x_iald (e := (w7 60 a1)) dX11_alike_28 (sW60 hW) (gW60 hW) hi rfl ?_
        refine x_aload_n dX11_alike_29 rfl ?_
        refine x_getr (r' := 67) flX11_69 dX11_alike_30 (sW47 hW) (gW47 hW) (rW47_20 hW) rfl (Nat.le_of_ble_eq_true rfl) ?_
        refine x_iload_n dX11_alike_33 rfl ?_
        obtain ⟨hi, F⟩ := F
        refine x_iald (e := (w7 67 a1)) dX11_alike_34 (sW67 hW) (gW67 hW) hi rfl ?_
        refine x_si32 (i := 0) rfl (fun hk0 => ?_)
        refine x_si32 (i := 1) rfl (fun hk1 => ?_)
        obtain ⟨hz, F⟩ := F
        have hz := hz hk0 hk1
        refine x_isub dX11_alike_35 hz ?_
        refine x_aload_n dX11_alike_36 rfl ?_
        refine x_getr (r' := 60) flX11_48 dX11_alike_37 (sW47 hW) (gW47 hW) (rW47_13 hW) rfl (Nat.le_of_ble_eq_true rfl) ?_
        refine x_iload_n dX11_alike_40 rfl ?_
        obtain ⟨hi, F⟩ := F
        refine x_iald (e := (w7 60 a2)) dX11_alike_41 (sW60 hW) (gW60 hW) hi rfl ?_
        refine x_aload_n dX11_alike_42 rfl ?_
        refine x_getr (r' := 67) flX11_69 dX11_alike_43 (sW47 hW) (gW47 hW) (rW47_20 hW) rfl (Nat.le_of_ble_eq_true rfl) ?_
        refine x_iload_n dX11_alike_46 rfl ?_
        obtain ⟨hi, F⟩ := F
        refine x_iald (e := (w7 67 a2)) dX11_alike_47 (sW67 hW) (gW67 hW) hi rfl ?_
        refine x_si32 (i := 0) rfl (fun hk0 => ?_)
        refine x_si32 (i := 1) rfl (fun hk1 => ?_)
        obtain ⟨hz, F⟩ := F
        have hz := hz hk0 hk1
        refine x_isub dX11_alike_48 hz ?_
        refine x_icmp_eq 54 dX11_alike_49 rfl (fun hc => ?_) (fun hc => ?_)
        · have F := F.1 hc
          refine x_aload_n dX11_alike_54 rfl ?_
          refine x_getr (r' := 67) flX11_69 dX11_alike_55 (sW47 hW) (gW47 hW) (rW47_20 hW) rfl (Nat.le_of_ble_eq_true rfl) ?_
          refine x_iload_n dX11_alike_58 rfl ?_
          obtain ⟨hi, F⟩ := F
          refine x_iald (e := (w7 67 a1)) dX11_alike_59 (sW67 hW) (gW67 hW) hi rfl ?_
          refine x_istore_n [(2, 47), (0, a1), (0, a2), (0, (w7 67 a1)), (3, 0), (3, 0), (3, 0), (3, 0)] dX11_alike_60 rfl (Nat.le_of_ble_eq_true rfl) ?_
          refine x_aload_n dX11_alike_61 rfl ?_
          refine x_getr (r' := 67) flX11_69 dX11_alike_62 (sW47 hW) (gW47 hW) (rW47_20 hW) rfl (Nat.le_of_ble_eq_true rfl) ?_
          refine x_iload_n dX11_alike_65 rfl ?_
          obtain ⟨hi, F⟩ := F
          refine x_iald (e := (w7 67 a2)) dX11_alike_66 (sW67 hW) (gW67 hW) hi rfl ?_
          refine x_istore [(2, 47), (0, a1), (0, a2), (0, (w7 67 a1)), (0, (w7 67 a2)), (3, 0), (3, 0), (3, 0)] dX11_alike_67 rfl (Nat.le_of_ble_eq_true rfl) ?_
          exact F
        · have F := F.2 hc
          refine x_iconst dX11_alike_52 rfl (i32_of rfl) ?_
          exact x_ret (some (0, 0)) rfl ⟨dX11_alike_53, Or.inl rfl⟩ F
      · have F := F.2 hc
        refine x_iconst dX11_alike_21 rfl (i32_of rfl) ?_
        exact x_ret (some (0, (-1))) rfl ⟨dX11_alike_22, Or.inl rfl⟩ F

set_option maxRecDepth 100000 in
set_option maxHeartbeats 4000000 in
theorem bX11_alike_69 {d mc ms : Nat} {X : XX} {v : VV} {Q : QQ} (a1 : Int) (a2 : Int) (x3 : Int) (x4 : Int) (hd : 2 ≤ d) (hW : SW X) (F : i32 a1 → i32 a2 → i32 x3 → i32 x4 → (0 ≤ a1 ∧ a1 < 17) ∧ ((((v 60 a1) ≤ x3) → Q (some (0, 1)) X v) ∧ ((x3 < (v 60 a1)) → i32 (400 * a1) ∧ (i32 (400 * a1) → i32 ((400 * a1) + x3)) ∧ i32 (400 * a2) ∧ (i32 (400 * a2) → i32 ((400 * a2) + x4)) ∧ (0 ≤ ((400 * a1) + x3) ∧ ((400 * a1) + x3) < 6800) ∧ (0 ≤ ((400 * a2) + x4) ∧ ((400 * a2) + x4) < 6800) ∧ (((¬ (v 61 ((400 * a1) + x3)) = (v 61 ((400 * a2) + x4))) → Q (some (0, 0)) X v) ∧ (((v 61 ((400 * a1) + x3)) = (v 61 ((400 * a2) + x4))) → (0 ≤ ((400 * a1) + x3) ∧ ((400 * a1) + x3) < 6800) ∧ (0 ≤ ((400 * a2) + x4) ∧ ((400 * a2) + x4) < 6800) ∧ ((((v 63 ((400 * a1) + x3)) = (v 63 ((400 * a2) + x4))) → Ex mX11_alike d 137 [(2, 47), (0, a1), (0, a2), (0, x3), (0, x4), (0, ((400 * a1) + x3)), (0, ((400 * a2) + x4)), (0, 0)] [] X v mc ms Q) ∧ ((¬ (v 63 ((400 * a1) + x3)) = (v 63 ((400 * a2) + x4))) → Q (some (0, 0)) X v))))))) : Ex mX11_alike d 69 [(2, 47), (0, a1), (0, a2), (0, x3), (0, x4), (3, 0), (3, 0), (3, 0)] [] X v mc ms Q := by
  refine x_li32 (i := 1) rfl (fun ha1 => ?_)
  have F := F ha1
  refine x_li32 (i := 2) rfl (fun ha2 => ?_)
  have F := F ha2
  refine x_li32 (i := 3) rfl (fun hx3 => ?_)
  have F := F hx3
  refine x_li32 (i := 4) rfl (fun hx4 => ?_)
  have F := F hx4
  refine x_iload_n dX11_alike_69 rfl ?_
  refine x_aload_n dX11_alike_70 rfl ?_
  refine x_getr (r' := 60) flX11_48 dX11_alike_71 (sW47 hW) (gW47 hW) (rW47_13 hW) rfl (Nat.le_of_ble_eq_true rfl) ?_
  refine x_iload_n dX11_alike_74 rfl ?_
  obtain ⟨hi, F⟩ := F
  refine x_iald (e := (v 60 a1)) dX11_alike_75 (sW60 hW) (gW60 hW) hi rfl ?_
  refine x_icmp_ge 211 dX11_alike_76 rfl (fun hc => ?_) (fun hc => ?_)
  · have F := F.1 hc
    refine x_iconst dX11_alike_211 rfl (i32_of rfl) ?_
    exact x_ret (some (0, 1)) rfl ⟨dX11_alike_212, Or.inl rfl⟩ F
  · have F := F.2 hc
    refine x_sipush dX11_alike_79 ks_400 (i32_of rfl) ?_
    refine x_iload_n dX11_alike_82 rfl ?_
    obtain ⟨hz, F⟩ := F
    refine x_imul dX11_alike_83 hz ?_
    refine x_iload_n dX11_alike_84 rfl ?_
    refine x_si32 (i := 1) rfl (fun hk1 => ?_)
    obtain ⟨hz, F⟩ := F
    have hz := hz hk1
    refine x_iadd dX11_alike_85 hz ?_
    refine x_istore [(2, 47), (0, a1), (0, a2), (0, x3), (0, x4), (0, ((400 * a1) + x3)), (3, 0), (3, 0)] dX11_alike_86 rfl (Nat.le_of_ble_eq_true rfl) ?_
    refine x_sipush dX11_alike_88 ks_400 (i32_of rfl) ?_
    refine x_iload_n dX11_alike_91 rfl ?_
    obtain ⟨hz, F⟩ := F
    refine x_imul dX11_alike_92 hz ?_
    refine x_iload dX11_alike_93 rfl ?_
    refine x_si32 (i := 1) rfl (fun hk1 => ?_)
    obtain ⟨hz, F⟩ := F
    have hz := hz hk1
    refine x_iadd dX11_alike_95 hz ?_
    refine x_istore [(2, 47), (0, a1), (0, a2), (0, x3), (0, x4), (0, ((400 * a1) + x3)), (0, ((400 * a2) + x4)), (3, 0)] dX11_alike_96 rfl (Nat.le_of_ble_eq_true rfl) ?_
    refine x_aload_n dX11_alike_98 rfl ?_
    refine x_getr (r' := 61) flX11_51 dX11_alike_99 (sW47 hW) (gW47 hW) (rW47_14 hW) rfl (Nat.le_of_ble_eq_true rfl) ?_
    refine x_iload dX11_alike_102 rfl ?_
    obtain ⟨hi, F⟩ := F
    refine x_iald (e := (v 61 ((400 * a1) + x3))) dX11_alike_104 (sW61 hW) (gW61 hW) hi rfl ?_
    refine x_aload_n dX11_alike_105 rfl ?_
    refine x_getr (r' := 61) flX11_51 dX11_alike_106 (sW47 hW) (gW47 hW) (rW47_14 hW) rfl (Nat.le_of_ble_eq_true rfl) ?_
    refine x_iload dX11_alike_109 rfl ?_
    obtain ⟨hi, F⟩ := F
    refine x_iald (e := (v 61 ((400 * a2) + x4))) dX11_alike_111 (sW61 hW) (gW61 hW) hi rfl ?_
    refine x_icmp_ne 132 dX11_alike_112 rfl (fun hc => ?_) (fun hc => ?_)
    · have F := F.1 hc
      refine x_iconst dX11_alike_132 rfl (i32_of rfl) ?_
      exact x_ret (some (0, 0)) rfl ⟨dX11_alike_133, Or.inl rfl⟩ F
    · have F := F.2 hc
      refine x_aload_n dX11_alike_115 rfl ?_
      refine x_getr (r' := 63) flX11_57 dX11_alike_116 (sW47 hW) (gW47 hW) (rW47_16 hW) rfl (Nat.le_of_ble_eq_true rfl) ?_
      refine x_iload dX11_alike_119 rfl ?_
      obtain ⟨hi, F⟩ := F
      refine x_iald (e := (v 63 ((400 * a1) + x3))) dX11_alike_121 (sW63 hW) (gW63 hW) hi rfl ?_
      refine x_aload_n dX11_alike_122 rfl ?_
      refine x_getr (r' := 63) flX11_57 dX11_alike_123 (sW47 hW) (gW47 hW) (rW47_16 hW) rfl (Nat.le_of_ble_eq_true rfl) ?_
      refine x_iload dX11_alike_126 rfl ?_
      obtain ⟨hi, F⟩ := F
      refine x_iald (e := (v 63 ((400 * a2) + x4))) dX11_alike_128 (sW63 hW) (gW63 hW) hi rfl ?_
      refine x_icmp_eq 134 dX11_alike_129 rfl (fun hc => ?_) (fun hc => ?_)
      · have F := F.1 hc
        refine x_iconst dX11_alike_134 rfl (i32_of rfl) ?_
        refine x_istore [(2, 47), (0, a1), (0, a2), (0, x3), (0, x4), (0, ((400 * a1) + x3)), (0, ((400 * a2) + x4)), (0, 0)] dX11_alike_135 rfl (Nat.le_of_ble_eq_true rfl) ?_
        exact F
      · have F := F.2 hc
        refine x_iconst dX11_alike_132 rfl (i32_of rfl) ?_
        exact x_ret (some (0, 0)) rfl ⟨dX11_alike_133, Or.inl rfl⟩ F

set_option maxRecDepth 100000 in
set_option maxHeartbeats 4000000 in
theorem bX11_alike_137 {d mc ms : Nat} {X : XX} {v : VV} {Q : QQ} (a1 : Int) (a2 : Int) (x3 : Int) (x4 : Int) (x5 : Int) (x6 : Int) (x7 : Int) (hd : 2 ≤ d) (hW : SW X) (F : i32 a1 → i32 a2 → i32 x3 → i32 x4 → i32 x5 → i32 x6 → i32 x7 → (0 ≤ x5 ∧ x5 < 6800) ∧ ((((v 63 x5) ≤ x7) → i32 (x3 + 1) ∧ i32 (x4 + 1) ∧ Ex mX11_alike d 69 [(2, 47), (0, a1), (0, a2), (0, (x3 + 1)), (0, (x4 + 1)), (3, 0), (3, 0), (3, 0)] [] X v mc ms Q) ∧ ((x7 < (v 63 x5)) → i32 (400 * a1) ∧ (0 ≤ x5 ∧ x5 < 6800) ∧ (i32 (v 62 x5) → i32 (400 * a1) → i32 ((400 * a1) + (v 62 x5))) ∧ (i32 ((400 * a1) + (v 62 x5)) → i32 (((400 * a1) + (v 62 x5)) + x7)) ∧ (0 ≤ (((400 * a1) + (v 62 x5)) + x7) ∧ (((400 * a1) + (v 62 x5)) + x7) < 6800) ∧ i32 (400 * a2) ∧ (0 ≤ x6 ∧ x6 < 6800) ∧ (i32 (v 62 x6) → i32 (400 * a2) → i32 ((400 * a2) + (v 62 x6))) ∧ (i32 ((400 * a2) + (v 62 x6)) → i32 (((400 * a2) + (v 62 x6)) + x7)) ∧ (0 ≤ (((400 * a2) + (v 62 x6)) + x7) ∧ (((400 * a2) + (v 62 x6)) + x7) < 6800) ∧ ((((v 64 (((400 * a1) + (v 62 x5)) + x7)) = (v 64 (((400 * a2) + (v 62 x6)) + x7))) → i32 (x7 + 1) ∧ Ex mX11_alike d 137 [(2, 47), (0, a1), (0, a2), (0, x3), (0, x4), (0, x5), (0, x6), (0, (x7 + 1))] [] X v mc ms Q) ∧ ((¬ (v 64 (((400 * a1) + (v 62 x5)) + x7)) = (v 64 (((400 * a2) + (v 62 x6)) + x7))) → Q (some (0, 0)) X v))))) : Ex mX11_alike d 137 [(2, 47), (0, a1), (0, a2), (0, x3), (0, x4), (0, x5), (0, x6), (0, x7)] [] X v mc ms Q := by
  refine x_li32 (i := 1) rfl (fun ha1 => ?_)
  have F := F ha1
  refine x_li32 (i := 2) rfl (fun ha2 => ?_)
  have F := F ha2
  refine x_li32 (i := 3) rfl (fun hx3 => ?_)
  have F := F hx3
  refine x_li32 (i := 4) rfl (fun hx4 => ?_)
  have F := F hx4
  refine x_li32 (i := 5) rfl (fun hx5 => ?_)
  have F := F hx5
  refine x_li32 (i := 6) rfl (fun hx6 => ?_)
  have F := F hx6
  refine x_li32 (i := 7) rfl (fun hx7 => ?_)
  have F := F hx7
  refine x_iload dX11_alike_137 rfl ?_
  refine x_aload_n dX11_alike_139 rfl ?_
  refine x_getr (r' := 63) flX11_57 dX11_alike_140 (sW47 hW) (gW47 hW) (rW47_16 hW) rfl (Nat.le_of_ble_eq_true rfl) ?_
  refine x_iload dX11_alike_143 rfl ?_
  obtain ⟨hi, F⟩ := F
  refine x_iald (e := (v 63 x5)) dX11_alike_145 (sW63 hW) (gW63 hW) hi rfl ?_
  refine x_icmp_ge 202 dX11_alike_146 rfl (fun hc => ?_) (fun hc => ?_)
  · have F := F.1 hc
    obtain ⟨hz, F⟩ := F
    refine x_iinc [(2, 47), (0, a1), (0, a2), (0, (x3 + 1)), (0, x4), (0, x5), (0, x6), (0, x7)] dX11_alike_202 rfl rfl (Nat.le_of_ble_eq_true rfl) hz ?_
    obtain ⟨hz, F⟩ := F
    refine x_iinc [(2, 47), (0, a1), (0, a2), (0, (x3 + 1)), (0, (x4 + 1)), (0, x5), (0, x6), (0, x7)] dX11_alike_205 rfl rfl (Nat.le_of_ble_eq_true rfl) hz ?_
    refine x_goto 69 dX11_alike_208 rfl ?_
    exact x_less [(2, 47), (0, a1), (0, a2), (0, (x3 + 1)), (0, (x4 + 1)), (3, 0), (3, 0), (3, 0)] ⟨Or.inr rfl, ⟨Or.inr rfl, ⟨Or.inr rfl, ⟨Or.inr rfl, ⟨Or.inr rfl, ⟨Or.inl rfl, ⟨Or.inl rfl, ⟨Or.inl rfl, trivial⟩⟩⟩⟩⟩⟩⟩⟩ F
  · have F := F.2 hc
    refine x_aload_n dX11_alike_149 rfl ?_
    refine x_getr (r' := 64) flX11_60 dX11_alike_150 (sW47 hW) (gW47 hW) (rW47_17 hW) rfl (Nat.le_of_ble_eq_true rfl) ?_
    refine x_sipush dX11_alike_153 ks_400 (i32_of rfl) ?_
    refine x_iload_n dX11_alike_156 rfl ?_
    obtain ⟨hz, F⟩ := F
    refine x_imul dX11_alike_157 hz ?_
    refine x_aload_n dX11_alike_158 rfl ?_
    refine x_getr (r' := 62) flX11_54 dX11_alike_159 (sW47 hW) (gW47 hW) (rW47_15 hW) rfl (Nat.le_of_ble_eq_true rfl) ?_
    refine x_iload dX11_alike_162 rfl ?_
    obtain ⟨hi, F⟩ := F
    refine x_iald (e := (v 62 x5)) dX11_alike_164 (sW62 hW) (gW62 hW) hi rfl ?_
    refine x_si32 (i := 0) rfl (fun hk0 => ?_)
    refine x_si32 (i := 1) rfl (fun hk1 => ?_)
    obtain ⟨hz, F⟩ := F
    have hz := hz hk0 hk1
    refine x_iadd dX11_alike_165 hz ?_
    refine x_iload dX11_alike_166 rfl ?_
    refine x_si32 (i := 1) rfl (fun hk1 => ?_)
    obtain ⟨hz, F⟩ := F
    have hz := hz hk1
    refine x_iadd dX11_alike_168 hz ?_
    obtain ⟨hi, F⟩ := F
    refine x_iald (e := (v 64 (((400 * a1) + (v 62 x5)) + x7))) dX11_alike_169 (sW64 hW) (gW64 hW) hi rfl ?_
    refine x_aload_n dX11_alike_170 rfl ?_
    refine x_getr (r' := 64) flX11_60 dX11_alike_171 (sW47 hW) (gW47 hW) (rW47_17 hW) rfl (Nat.le_of_ble_eq_true rfl) ?_
    refine x_sipush dX11_alike_174 ks_400 (i32_of rfl) ?_
    refine x_iload_n dX11_alike_177 rfl ?_
    obtain ⟨hz, F⟩ := F
    refine x_imul dX11_alike_178 hz ?_
    refine x_aload_n dX11_alike_179 rfl ?_
    refine x_getr (r' := 62) flX11_54 dX11_alike_180 (sW47 hW) (gW47 hW) (rW47_15 hW) rfl (Nat.le_of_ble_eq_true rfl) ?_
    refine x_iload dX11_alike_183 rfl ?_
    obtain ⟨hi, F⟩ := F
    refine x_iald (e := (v 62 x6)) dX11_alike_185 (sW62 hW) (gW62 hW) hi rfl ?_
    refine x_si32 (i := 0) rfl (fun hk0 => ?_)
    refine x_si32 (i := 1) rfl (fun hk1 => ?_)
    obtain ⟨hz, F⟩ := F
    have hz := hz hk0 hk1
    refine x_iadd dX11_alike_186 hz ?_
    refine x_iload dX11_alike_187 rfl ?_
    refine x_si32 (i := 1) rfl (fun hk1 => ?_)
    obtain ⟨hz, F⟩ := F
    have hz := hz hk1
    refine x_iadd dX11_alike_189 hz ?_
    obtain ⟨hi, F⟩ := F
    refine x_iald (e := (v 64 (((400 * a2) + (v 62 x6)) + x7))) dX11_alike_190 (sW64 hW) (gW64 hW) hi rfl ?_
    refine x_icmp_eq 196 dX11_alike_191 rfl (fun hc => ?_) (fun hc => ?_)
    · have F := F.1 hc
      obtain ⟨hz, F⟩ := F
      refine x_iinc [(2, 47), (0, a1), (0, a2), (0, x3), (0, x4), (0, x5), (0, x6), (0, (x7 + 1))] dX11_alike_196 rfl rfl (Nat.le_of_ble_eq_true rfl) hz ?_
      refine x_goto 137 dX11_alike_199 rfl ?_
      exact F
    · have F := F.2 hc
      refine x_iconst dX11_alike_194 rfl (i32_of rfl) ?_
      exact x_ret (some (0, 0)) rfl ⟨dX11_alike_195, Or.inl rfl⟩ F
