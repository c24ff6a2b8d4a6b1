/-! ===== the rows of the two constructors that run when all stands (by program: blk.py) ===== -/
set_option maxRecDepth 100000 in
set_option maxHeartbeats 4000000 in
theorem bX0_init_0 {d mc ms : Nat} {X : XX} {v : VV} {Q : QQ} (o : Int) (a1 : Int) (a2 : Int) (a3 : Int) (hd : 1 ≤ d) (hW : SW X) (F : i32 a1 → i32 a2 → i32 a3 → (0 ≤ o) ∧ X.1.2 o = (0, 0) ∧ (0 ≤ o ∧ o < X.1.1) ∧ Q none X (upd2 (upd2 (upd2 v o 0 a1) o 1 a2) o 2 a3)) : Ex mX0_init d 0 [(2, o), (0, a1), (0, a2), (0, a3)] [] X v mc ms Q := by
  refine x_li32 (i := 1) rfl (fun ha1 => ?_)
  have F := F ha1
  refine x_li32 (i := 2) rfl (fun ha2 => ?_)
  have F := F ha2
  refine x_li32 (i := 3) rfl (fun ha3 => ?_)
  have F := F ha3
  refine x_aload_n dX0_init_0 rfl ?_
  obtain ⟨h0, F⟩ := F
  refine x_objInit dX0_init_1 mlX0_1 h0 (by omega) (by decide) ?_
  refine x_aload_n dX0_init_4 rfl ?_
  refine x_iload_n dX0_init_5 rfl ?_
  obtain ⟨hs1, hr1, F⟩ := F
  refine x_puti 0 fwX0_7 dX0_init_6 hs1 hr1 (fun _ => rfl) (Nat.le_of_ble_eq_true rfl) rfl (Or.inl ⟨rfl, Or.inl rfl⟩) ?_
  refine x_aload_n dX0_init_9 rfl ?_
  refine x_iload_n dX0_init_10 rfl ?_
  refine x_puti 0 fwX0_13 dX0_init_11 hs1 hr1 (fun _ => rfl) (Nat.le_of_ble_eq_true rfl) rfl (Or.inl ⟨rfl, Or.inl rfl⟩) ?_
  refine x_aload_n dX0_init_14 rfl ?_
  refine x_iload_n dX0_init_15 rfl ?_
  refine x_puti 0 fwX0_16 dX0_init_16 hs1 hr1 (fun _ => rfl) (Nat.le_of_ble_eq_true rfl) rfl (Or.inl ⟨rfl, Or.inl rfl⟩) ?_
  exact x_ret none rfl ⟨dX0_init_19, rfl⟩ F
set_option maxRecDepth 100000 in
set_option maxHeartbeats 4000000 in
theorem bX7_init_0 {d mc ms : Nat} {X : XX} {v : VV} {Q : QQ} (o : Int) (h87 : 87 ≤ o) (hd : 6 ≤ d) (hW : SW X) (F : (0 ≤ o) ∧ ∃ P1 : Option AV → VV → Prop, Con mX8_nameOf 0 0 0 [(2, 5), (0, (v 4 7))] X v (fun o X1 v1 => X1 = X ∧ P1 o v1) ∧ ∀ (r2 : Int) (w3 : VV), P1 (some (1, r2)) w3 → X.1.2 o = (7, 0) ∧ (0 ≤ o ∧ o < X.1.1) ∧ ∃ c10 s11 : Nat, c10 ≤ mc ∧ s11 ≤ ms ∧ ∃ P6 : QQ, Con mX3_columnNames 1 c10 s11 [(2, 4)] X (upd2 (upd2 w3 o 0 r2) o 5 ((upd2 w3 o 0 r2) 4 6)) P6 ∧ ∀ (r7 : Int) (Y9 : XX) (w8 : VV), P6 (some (2, r7)) Y9 w8 → SW Y9 ∧ Y9.1.2 o = (7, 0) ∧ (0 ≤ o ∧ o < Y9.1.1) ∧ ∃ c19 s20 : Nat, c19 ≤ (mc - c10) ∧ s20 ≤ (ms - s11) ∧ ∃ P15 : QQ, Con mX6_copy 3 c19 s20 [(2, 23)] (Y9.1, upd2 Y9.2 o 1 r7) w8 P15 ∧ ∀ (r16 : Int) (Y18 : XX) (w17 : VV), P15 (some (2, r16)) Y18 w17 → SW Y18 ∧ Y18.1.2 o = (7, 0) ∧ (0 ≤ o ∧ o < Y18.1.1) ∧ ∃ c28 s29 : Nat, c28 ≤ ((mc - c10) - c19) ∧ s29 ≤ ((ms - s11) - s20) ∧ ∃ P24 : QQ, Con mX5_copy 3 c28 s29 [(2, 25)] (Y18.1, upd2 Y18.2 o 2 r16) w17 P24 ∧ ∀ (r25 : Int) (Y27 : XX) (w26 : VV), P24 (some (2, r25)) Y27 w26 → SW Y27 ∧ Y27.1.2 o = (7, 0) ∧ (0 ≤ o ∧ o < Y27.1.1) ∧ ∃ c37 s38 : Nat, c37 ≤ (((mc - c10) - c19) - c28) ∧ s38 ≤ (((ms - s11) - s20) - s29) ∧ ∃ P33 : QQ, Con mX3_wording 5 c37 s38 [(2, 4)] (Y27.1, upd2 Y27.2 o 3 r25) w26 P33 ∧ ∀ (r34 : Int) (Y36 : XX) (w35 : VV), P33 (some (2, r34)) Y36 w35 → SW Y36 ∧ Y36.1.2 o = (7, 0) ∧ (0 ≤ o ∧ o < Y36.1.1) ∧ Q none (Y36.1, upd2 Y36.2 o 4 r34) (upd2 (upd2 (upd2 (upd2 w35 o 6 (-1)) o 7 (-1)) o 8 (-1)) o 9 (-1))) : Ex mX7_init d 0 [(2, o), (2, 4)] [] X v mc ms Q := by
  refine x_aload_n dX7_init_0 rfl ?_
  obtain ⟨h0, F⟩ := F
  refine x_objInit dX7_init_1 mlX7_3 h0 (by omega) (by decide) ?_
  refine x_aload_n dX7_init_4 rfl ?_
  refine x_aload_n dX7_init_5 rfl ?_
  refine x_getr (r' := 5) flX7_9 dX7_init_6 (sW4 hW) (gW4 hW) (rW4_0 hW) rfl (Nat.le_of_ble_eq_true rfl) ?_
  refine x_aload_n dX7_init_9 rfl ?_
  refine x_geti (e := (v 4 7)) 0 flX7_15 dX7_init_10 (sW4 hW) (gW4 hW) rfl rfl (Nat.le_of_ble_eq_true rfl) (tagn2 rfl) ?_
  obtain ⟨P1, hC, F⟩ := F
  refine x_inv dX7_init_13 mlX7_19 hC (sW5 hW) (Nat.le_of_ble_eq_true rfl) (gW5 hW) rfl rfl (by omega) (Nat.zero_le _) (Nat.zero_le _) (Nat.le_of_ble_eq_true rfl) (fun o1 Y4 w3 ht hP => ?_)
  obtain ⟨r2, rfl⟩ : ∃ i, o1 = some (1, i) := ht
  obtain ⟨hX, hP⟩ := hP
  have hX := Eq.symm hX
  subst hX
  have F := F r2 w3 hP
  obtain ⟨hs5, hr5, F⟩ := F
  refine x_puti 1 fwX7_25 dX7_init_16 hs5 hr5 (fun _ => rfl) (Nat.le_of_ble_eq_true rfl) rfl (Or.inr ⟨rfl, rfl⟩) ?_
  refine x_aload_n dX7_init_19 rfl ?_
  refine x_aload_n dX7_init_20 rfl ?_
  refine x_geti (e := ((upd2 w3 o 0 r2) 4 6)) 0 flX7_31 dX7_init_21 (sW4 hW) (gW4 hW) rfl rfl (Nat.le_of_ble_eq_true rfl) (tagn2 rfl) ?_
  refine x_puti 0 fwX7_34 dX7_init_24 hs5 hr5 (fun h => Bool.noConfusion h) (Nat.le_of_ble_eq_true rfl) rfl (Or.inl ⟨rfl, Or.inl rfl⟩) ?_
  refine x_aload_n dX7_init_27 rfl ?_
  refine x_aload_n dX7_init_28 rfl ?_
  obtain ⟨c10, s11, hc1, hs1_, F⟩ := F
  obtain ⟨P6, hC, F⟩ := F
  refine x_inv dX7_init_29 mlX7_35 hC (sW4 hW) (Nat.le_of_ble_eq_true rfl) (gW4 hW) rfl rfl (by omega) hc1 hs1_ (Nat.le_of_ble_eq_true rfl) (fun o1 Y9 w8 ht hP => ?_)
  obtain ⟨r7, rfl⟩ : ∃ i, o1 = some (2, i) := ht
  obtain ⟨hW12, F⟩ := F r7 Y9 w8 hP
  obtain ⟨hs13, hr13, F⟩ := F
  refine x_putr fwX7_39 dX7_init_32 hs13 hr13 (fun _ => rfl) (Nat.le_of_ble_eq_true rfl) rfl (Or.inr ⟨_, rfl⟩) ?_
  have hW12 : SW (Y9.1, upd2 Y9.2 o ((1 : Nat) : Int) r7) := hW12.refd h87
  refine x_aload_n dX7_init_35 rfl ?_
  refine x_aload_n dX7_init_36 rfl ?_
  refine x_getr (r' := 23) flX7_42 dX7_init_37 (sW4 hW12) (gW4 hW12) (rW4_4 hW12) rfl (Nat.le_of_ble_eq_true rfl) ?_
  obtain ⟨c19, s20, hc1, hs1_, F⟩ := F
  obtain ⟨P15, hC, F⟩ := F
  refine x_inv dX7_init_40 mlX7_46 hC (sW23 hW12) (Nat.le_of_ble_eq_true rfl) (gW23 hW12) rfl rfl (by omega) hc1 hs1_ (Nat.le_of_ble_eq_true rfl) (fun o1 Y18 w17 ht hP => ?_)
  obtain ⟨r16, rfl⟩ : ∃ i, o1 = some (2, i) := ht
  obtain ⟨hW21, F⟩ := F r16 Y18 w17 hP
  obtain ⟨hs22, hr22, F⟩ := F
  refine x_putr fwX7_52 dX7_init_43 hs22 hr22 (fun _ => rfl) (Nat.le_of_ble_eq_true rfl) rfl (Or.inl ⟨_, rfl⟩) ?_
  have hW21 : SW (Y18.1, upd2 Y18.2 o ((2 : Nat) : Int) r16) := hW21.refd h87
  refine x_aload_n dX7_init_46 rfl ?_
  refine x_aload_n dX7_init_47 rfl ?_
  refine x_getr (r' := 25) flX7_55 dX7_init_48 (sW4 hW21) (gW4 hW21) (rW4_5 hW21) rfl (Nat.le_of_ble_eq_true rfl) ?_
  obtain ⟨c28, s29, hc1, hs1_, F⟩ := F
  obtain ⟨P24, hC, F⟩ := F
  refine x_inv dX7_init_51 mlX7_59 hC (sW25 hW21) (Nat.le_of_ble_eq_true rfl) (gW25 hW21) rfl rfl (by omega) hc1 hs1_ (Nat.le_of_ble_eq_true rfl) (fun o1 Y27 w26 ht hP => ?_)
  obtain ⟨r25, rfl⟩ : ∃ i, o1 = some (2, i) := ht
  obtain ⟨hW30, F⟩ := F r25 Y27 w26 hP
  obtain ⟨hs31, hr31, F⟩ := F
  refine x_putr fwX7_64 dX7_init_54 hs31 hr31 (fun _ => rfl) (Nat.le_of_ble_eq_true rfl) rfl (Or.inl ⟨_, rfl⟩) ?_
  have hW30 : SW (Y27.1, upd2 Y27.2 o ((3 : Nat) : Int) r25) := hW30.refd h87
  refine x_aload_n dX7_init_57 rfl ?_
  refine x_aload_n dX7_init_58 rfl ?_
  obtain ⟨c37, s38, hc1, hs1_, F⟩ := F
  obtain ⟨P33, hC, F⟩ := F
  refine x_inv dX7_init_59 mlX7_65 hC (sW4 hW30) (Nat.le_of_ble_eq_true rfl) (gW4 hW30) rfl rfl (by omega) hc1 hs1_ (Nat.le_of_ble_eq_true rfl) (fun o1 Y36 w35 ht hP => ?_)
  obtain ⟨r34, rfl⟩ : ∃ i, o1 = some (2, i) := ht
  obtain ⟨hW39, F⟩ := F r34 Y36 w35 hP
  obtain ⟨hs40, hr40, F⟩ := F
  refine x_putr fwX7_68 dX7_init_62 hs40 hr40 (fun _ => rfl) (Nat.le_of_ble_eq_true rfl) rfl (Or.inl ⟨_, rfl⟩) ?_
  refine x_aload_n dX7_init_65 rfl ?_
  refine x_iconst dX7_init_66 rfl (i32_of rfl) ?_
  refine x_puti 0 fwX7_70 dX7_init_67 hs40 hr40 (fun h => Bool.noConfusion h) (Nat.le_of_ble_eq_true rfl) rfl (Or.inl ⟨rfl, Or.inl rfl⟩) ?_
  refine x_aload_n dX7_init_70 rfl ?_
  refine x_iconst dX7_init_71 rfl (i32_of rfl) ?_
  refine x_puti 0 fwX7_73 dX7_init_72 hs40 hr40 (fun h => Bool.noConfusion h) (Nat.le_of_ble_eq_true rfl) rfl (Or.inl ⟨rfl, Or.inl rfl⟩) ?_
  refine x_aload_n dX7_init_75 rfl ?_
  refine x_iconst dX7_init_76 rfl (i32_of rfl) ?_
  refine x_puti 0 fwX7_76 dX7_init_77 hs40 hr40 (fun h => Bool.noConfusion h) (Nat.le_of_ble_eq_true rfl) rfl (Or.inl ⟨rfl, Or.inl rfl⟩) ?_
  refine x_aload_n dX7_init_80 rfl ?_
  refine x_iconst dX7_init_81 rfl (i32_of rfl) ?_
  refine x_puti 0 fwX7_79 dX7_init_82 hs40 hr40 (fun h => Bool.noConfusion h) (Nat.le_of_ble_eq_true rfl) rfl (Or.inl ⟨rfl, Or.inl rfl⟩) ?_
  exact x_ret none rfl ⟨dX7_init_85, rfl⟩ F
