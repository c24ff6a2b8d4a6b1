set_option maxRecDepth 100000 in
set_option maxHeartbeats 4000000 in
theorem bX1_check_0 {d mc ms : Nat} {X : XX} {v : VV} {Q : QQ} (hd : 5 ≤ d) (hW : SW X) (F : ∃ P1 : Option AV → VV → Prop, Con mX8_nameOf 0 0 0 [(2, 5), (0, (v 4 7))] X (upd2 (upd2 v 32 1 0) 32 2 (-1)) (fun o X1 v1 => X1 = X ∧ P1 o v1) ∧ ∀ (r2 : Int) (w3 : VV), P1 (some (1, r2)) w3 → ∃ P5 : Option AV → VV → Prop, Con mX10_indexOfName 0 0 0 [(2, 37), (1, r2)] X w3 (fun o X1 v1 => X1 = X ∧ P5 o v1) ∧ ∀ (r6 : Int) (w7 : VV), P5 (some (0, r6)) w7 → (((r6 = (-1)) → Ex mX1_check d 50 [(2, 32), (2, 4), (2, 37), (2, 38), (2, 5), (3, 0), (3, 0)] [] X w7 mc ms Q) ∧ ((¬ r6 = (-1)) → ∃ P9 : Option AV → VV → Prop, Con mX6_get 0 0 0 [(2, 8), (0, (w7 4 7))] X w7 (fun o X1 v1 => X1 = X ∧ P9 o v1) ∧ ∀ (r10 : Int) (w11 : VV), P9 (some (0, r10)) w11 → ∃ P13 : Option AV → VV → Prop, Con mX1_note 0 0 0 [(2, 32), (0, 4), (0, r10)] X w11 (fun o X1 v1 => X1 = X ∧ P13 o v1) ∧ ∀ (w15 : VV), P13 none w15 → Ex mX1_check d 50 [(2, 32), (2, 4), (2, 37), (2, 38), (2, 5), (3, 0), (3, 0)] [] X w15 mc ms Q))) : Ex mX1_check d 0 [(2, 32), (2, 4), (2, 37), (2, 38), (3, 0), (3, 0), (3, 0)] [] X v mc ms Q := by
  refine x_aload_n dX1_check_0 rfl ?_
  refine x_iconst dX1_check_1 rfl (i32_of rfl) ?_
  refine x_puti 0 fwX1_18 dX1_check_2 (sW32 hW) (gW32 hW) (fun h => Bool.noConfusion h) (Nat.le_of_ble_eq_true rfl) rfl (Or.inl ⟨rfl, Or.inl rfl⟩) ?_
  refine x_aload_n dX1_check_5 rfl ?_
  refine x_iconst dX1_check_6 rfl (i32_of rfl) ?_
  refine x_puti 0 fwX1_22 dX1_check_7 (sW32 hW) (gW32 hW) (fun h => Bool.noConfusion h) (Nat.le_of_ble_eq_true rfl) rfl (Or.inl ⟨rfl, Or.inl rfl⟩) ?_
  refine x_aload_n dX1_check_10 rfl ?_
  refine x_getr (r' := 5) flX1_25 dX1_check_11 (sW4 hW) (gW4 hW) (rW4_0 hW) rfl (Nat.le_of_ble_eq_true rfl) ?_
  refine x_astore [(2, 32), (2, 4), (2, 37), (2, 38), (2, 5), (3, 0), (3, 0)] dX1_check_14 rfl (Nat.le_of_ble_eq_true rfl) ?_
  refine x_aload_n dX1_check_16 rfl ?_
  refine x_aload dX1_check_17 rfl ?_
  refine x_aload_n dX1_check_19 rfl ?_
  refine x_geti (e := (v 4 7)) 0 flX1_31 dX1_check_20 (sW4 hW) (gW4 hW) rfl rfl (Nat.le_of_ble_eq_true rfl) (tagn2 rfl) ?_
  obtain ⟨P1, hC, F⟩ := F
  refine x_inv dX1_check_23 mlX1_34 hC (sW5 hW) (Nat.le_of_ble_eq_true rfl) (gW5 hW) rfl rfl (by omega) (Nat.zero_le _) (Nat.zero_le _) (Nat.le_of_ble_eq_true rfl) (fun o1 Y4 w3 ht hP => ?_)
  obtain ⟨r2, rfl⟩ : ∃ i, o1 = some (1, i) := ht
  obtain ⟨hX, hP⟩ := hP
  have hX := Eq.symm hX
  subst hX
  have F := F r2 w3 hP
  obtain ⟨P5, hC, F⟩ := F
  refine x_static dX1_check_26 mlX1_40 hC rfl rfl (by omega) (Nat.zero_le _) (Nat.zero_le _) (Nat.le_of_ble_eq_true rfl) (fun o1 Y8 w7 ht hP => ?_)
  obtain ⟨r6, rfl⟩ : ∃ i, o1 = some (0, i) := ht
  obtain ⟨hX, hP⟩ := hP
  have hX := Eq.symm hX
  subst hX
  have F := F r6 w7 hP
  refine x_iconst dX1_check_29 rfl (i32_of rfl) ?_
  refine x_icmp_eq 50 dX1_check_30 rfl (fun hc => ?_) (fun hc => ?_)
  · have F := F.1 hc
    exact F
  · have F := F.2 hc
    refine x_aload_n dX1_check_33 rfl ?_
    refine x_iconst dX1_check_34 rfl (i32_of rfl) ?_
    refine x_aload dX1_check_35 rfl ?_
    refine x_getr (r' := 8) flX1_44 dX1_check_37 (sW5 hW) (gW5 hW) (rW5_1 hW) rfl (Nat.le_of_ble_eq_true rfl) ?_
    refine x_aload_n dX1_check_40 rfl ?_
    refine x_geti (e := (w7 4 7)) 0 flX1_31 dX1_check_41 (sW4 hW) (gW4 hW) rfl rfl (Nat.le_of_ble_eq_true rfl) (tagn2 rfl) ?_
    obtain ⟨P9, hC, F⟩ := F
    refine x_inv dX1_check_44 mlX1_48 hC (sW8 hW) (Nat.le_of_ble_eq_true rfl) (gW8 hW) rfl rfl (by omega) (Nat.zero_le _) (Nat.zero_le _) (Nat.le_of_ble_eq_true rfl) (fun o1 Y12 w11 ht hP => ?_)
    obtain ⟨r10, rfl⟩ : ∃ i, o1 = some (0, i) := ht
    obtain ⟨hX, hP⟩ := hP
    have hX := Eq.symm hX
    subst hX
    have F := F r10 w11 hP
    obtain ⟨P13, hC, F⟩ := F
    refine x_inv dX1_check_47 mlX1_54 hC (sW32 hW) (Nat.le_of_ble_eq_true rfl) (gW32 hW) rfl rfl (by omega) (Nat.zero_le _) (Nat.zero_le _) (Nat.le_of_ble_eq_true rfl) (fun o1 Y16 w15 ht hP => ?_)
    obtain rfl : o1 = none := ht
    obtain ⟨hX, hP⟩ := hP
    have hX := Eq.symm hX
    subst hX
    have F := F w15 hP
    exact F

set_option maxRecDepth 100000 in
set_option maxHeartbeats 4000000 in
theorem bX1_check_50 {d mc ms : Nat} {X : XX} {v : VV} {Q : QQ} (x4 : Int) (hd : 5 ≤ d) (hW : SW X) (F : ∃ P17 : Option AV → VV → Prop, Con mX1_noteRepeats 1 0 0 [(2, 32), (2, 17), (2, x4)] X v (fun o X1 v1 => X1 = X ∧ P17 o v1) ∧ ∀ (w19 : VV), P17 none w19 → ∃ P21 : Option AV → VV → Prop, Con mX1_noteRepeats 1 0 0 [(2, 32), (2, 21), (2, x4)] X w19 (fun o X1 v1 => X1 = X ∧ P21 o v1) ∧ ∀ (w23 : VV), P21 none w23 → ∃ P25 : Option AV → VV → Prop, Con mX1_lookBehind 1 0 0 [(2, 32), (2, 4), (2, 37)] X w23 (fun o X1 v1 => X1 = X ∧ P25 o v1) ∧ ∀ (w27 : VV), P25 none w27 → Ex mX1_check d 79 [(2, 32), (2, 4), (2, 37), (2, 38), (2, x4), (0, 0), (3, 0)] [] X w27 mc ms Q) : Ex mX1_check d 50 [(2, 32), (2, 4), (2, 37), (2, 38), (2, x4), (3, 0), (3, 0)] [] X v mc ms Q := by
  refine x_aload_n dX1_check_50 rfl ?_
  refine x_aload_n dX1_check_51 rfl ?_
  refine x_getr (r' := 17) flX1_58 dX1_check_52 (sW4 hW) (gW4 hW) (rW4_1 hW) rfl (Nat.le_of_ble_eq_true rfl) ?_
  refine x_aload dX1_check_55 rfl ?_
  obtain ⟨P17, hC, F⟩ := F
  refine x_inv dX1_check_57 mlX1_61 hC (sW32 hW) (Nat.le_of_ble_eq_true rfl) (gW32 hW) rfl rfl (by omega) (Nat.zero_le _) (Nat.zero_le _) (Nat.le_of_ble_eq_true rfl) (fun o1 Y20 w19 ht hP => ?_)
  obtain rfl : o1 = none := ht
  obtain ⟨hX, hP⟩ := hP
  have hX := Eq.symm hX
  subst hX
  have F := F w19 hP
  refine x_aload_n dX1_check_60 rfl ?_
  refine x_aload_n dX1_check_61 rfl ?_
  refine x_getr (r' := 21) flX1_65 dX1_check_62 (sW4 hW) (gW4 hW) (rW4_3 hW) rfl (Nat.le_of_ble_eq_true rfl) ?_
  refine x_aload dX1_check_65 rfl ?_
  obtain ⟨P21, hC, F⟩ := F
  refine x_inv dX1_check_67 mlX1_61 hC (sW32 hW) (Nat.le_of_ble_eq_true rfl) (gW32 hW) rfl rfl (by omega) (Nat.zero_le _) (Nat.zero_le _) (Nat.le_of_ble_eq_true rfl) (fun o1 Y24 w23 ht hP => ?_)
  obtain rfl : o1 = none := ht
  obtain ⟨hX, hP⟩ := hP
  have hX := Eq.symm hX
  subst hX
  have F := F w23 hP
  refine x_aload_n dX1_check_70 rfl ?_
  refine x_aload_n dX1_check_71 rfl ?_
  refine x_aload_n dX1_check_72 rfl ?_
  obtain ⟨P25, hC, F⟩ := F
  refine x_inv dX1_check_73 mlX1_68 hC (sW32 hW) (Nat.le_of_ble_eq_true rfl) (gW32 hW) rfl rfl (by omega) (Nat.zero_le _) (Nat.zero_le _) (Nat.le_of_ble_eq_true rfl) (fun o1 Y28 w27 ht hP => ?_)
  obtain rfl : o1 = none := ht
  obtain ⟨hX, hP⟩ := hP
  have hX := Eq.symm hX
  subst hX
  have F := F w27 hP
  refine x_iconst dX1_check_76 rfl (i32_of rfl) ?_
  refine x_istore [(2, 32), (2, 4), (2, 37), (2, 38), (2, x4), (0, 0), (3, 0)] dX1_check_77 rfl (Nat.le_of_ble_eq_true rfl) ?_
  exact F

set_option maxRecDepth 100000 in
set_option maxHeartbeats 4000000 in
theorem bX1_check_79 {d mc ms : Nat} {X : XX} {v : VV} {Q : QQ} (x4 : Int) (x5 : Int) (hd : 5 ≤ d) (hW : SW X) (F : i32 x5 → ∃ P29 : Option AV → VV → Prop, Con mX6_size 0 0 0 [(2, 28)] X v (fun o X1 v1 => X1 = X ∧ P29 o v1) ∧ ∀ (r30 : Int) (w31 : VV), P29 (some (0, r30)) w31 → (((r30 ≤ x5) → ((((w31 4 6) = 0) → Q none X w31) ∧ ((¬ (w31 4 6) = 0) → ∃ P33 : Option AV → VV → Prop, Con mX1_noteTypes 4 0 0 [(2, 32), (2, 4), (2, 38)] X w31 (fun o X1 v1 => X1 = X ∧ P33 o v1) ∧ ∀ (w35 : VV), P33 none w35 → Q none X w35))) ∧ ((x5 < r30) → ∃ P37 : Option AV → VV → Prop, Con mX6_get 0 0 0 [(2, 28), (0, x5)] X w31 (fun o X1 v1 => X1 = X ∧ P37 o v1) ∧ ∀ (r38 : Int) (w39 : VV), P37 (some (0, r38)) w39 → (((r38 < 2000) → i32 (x5 + 1) ∧ Ex mX1_check d 79 [(2, 32), (2, 4), (2, 37), (2, 38), (2, x4), (0, (x5 + 1)), (3, 0)] [] X w39 mc ms Q) ∧ ((2000 ≤ r38) → (i32 r38 → i32 (r38 - 2000)) ∧ ∃ P41 : Option AV → VV → Prop, Con mX1_columnItem 1 0 0 [(2, 32), (0, (r38 - 2000)), (2, 4), (2, 37)] X w39 (fun o X1 v1 => X1 = X ∧ P41 o v1) ∧ ∀ (r42 : Int) (w43 : VV), P41 (some (0, r42)) w43 → ∃ P45 : Option AV → VV → Prop, Con mX6_set 0 0 0 [(2, 28), (0, x5), (0, r42)] X w43 (fun o X1 v1 => X1 = X ∧ P45 o v1) ∧ ∀ (w47 : VV), P45 none w47 → i32 (x5 + 1) ∧ Ex mX1_check d 79 [(2, 32), (2, 4), (2, 37), (2, 38), (2, x4), (0, (x5 + 1)), (3, 0)] [] X w47 mc ms Q))))) : Ex mX1_check d 79 [(2, 32), (2, 4), (2, 37), (2, 38), (2, x4), (0, x5), (3, 0)] [] X v mc ms Q := by
  refine x_li32 (i := 5) rfl (fun hx5 => ?_)
  have F := F hx5
  refine x_iload dX1_check_79 rfl ?_
  refine x_aload_n dX1_check_81 rfl ?_
  refine x_getr (r' := 25) flX1_72 dX1_check_82 (sW4 hW) (gW4 hW) (rW4_5 hW) rfl (Nat.le_of_ble_eq_true rfl) ?_
  refine x_getr (r' := 28) flX1_76 dX1_check_85 (sW25 hW) (gW25 hW) (rW25_0 hW) rfl (Nat.le_of_ble_eq_true rfl) ?_
  obtain ⟨P29, hC, F⟩ := F
  refine x_inv dX1_check_88 mlX1_81 hC (sW28 hW) (Nat.le_of_ble_eq_true rfl) (gW28 hW) rfl rfl (by omega) (Nat.zero_le _) (Nat.zero_le _) (Nat.le_of_ble_eq_true rfl) (fun o1 Y32 w31 ht hP => ?_)
  obtain ⟨r30, rfl⟩ : ∃ i, o1 = some (0, i) := ht
  obtain ⟨hX, hP⟩ := hP
  have hX := Eq.symm hX
  subst hX
  have F := F r30 w31 hP
  refine x_icmp_ge 146 dX1_check_91 rfl (fun hc => ?_) (fun hc => ?_)
  · have F := F.1 hc
    refine x_aload_n dX1_check_146 rfl ?_
    refine x_geti (e := (w31 4 6)) 0 flX1_92 dX1_check_147 (sW4 hW) (gW4 hW) rfl rfl (Nat.le_of_ble_eq_true rfl) (tagn2 rfl) ?_
    refine x_if_eq 159 dX1_check_150 rfl (fun hc => ?_) (fun hc => ?_)
    · have F := F.1 hc
      exact x_ret none rfl ⟨dX1_check_159, rfl⟩ F
    · have F := F.2 hc
      refine x_aload_n dX1_check_153 rfl ?_
      refine x_aload_n dX1_check_154 rfl ?_
      refine x_aload_n dX1_check_155 rfl ?_
      obtain ⟨P33, hC, F⟩ := F
      refine x_inv dX1_check_156 mlX1_95 hC (sW32 hW) (Nat.le_of_ble_eq_true rfl) (gW32 hW) rfl rfl (by omega) (Nat.zero_le _) (Nat.zero_le _) (Nat.le_of_ble_eq_true rfl) (fun o1 Y36 w35 ht hP => ?_)
      obtain rfl : o1 = none := ht
      obtain ⟨hX, hP⟩ := hP
      have hX := Eq.symm hX
      subst hX
      have F := F w35 hP
      exact x_ret none rfl ⟨dX1_check_159, rfl⟩ F
  · have F := F.2 hc
    refine x_aload_n dX1_check_94 rfl ?_
    refine x_getr (r' := 25) flX1_72 dX1_check_95 (sW4 hW) (gW4 hW) (rW4_5 hW) rfl (Nat.le_of_ble_eq_true rfl) ?_
    refine x_getr (r' := 28) flX1_76 dX1_check_98 (sW25 hW) (gW25 hW) (rW25_0 hW) rfl (Nat.le_of_ble_eq_true rfl) ?_
    refine x_iload dX1_check_101 rfl ?_
    obtain ⟨P37, hC, F⟩ := F
    refine x_inv dX1_check_103 mlX1_48 hC (sW28 hW) (Nat.le_of_ble_eq_true rfl) (gW28 hW) rfl rfl (by omega) (Nat.zero_le _) (Nat.zero_le _) (Nat.le_of_ble_eq_true rfl) (fun o1 Y40 w39 ht hP => ?_)
    obtain ⟨r38, rfl⟩ : ∃ i, o1 = some (0, i) := ht
    obtain ⟨hX, hP⟩ := hP
    have hX := Eq.symm hX
    subst hX
    have F := F r38 w39 hP
    refine x_istore [(2, 32), (2, 4), (2, 37), (2, 38), (2, x4), (0, x5), (0, r38)] dX1_check_106 rfl (Nat.le_of_ble_eq_true rfl) ?_
    refine x_iload dX1_check_108 rfl ?_
    refine x_sipush dX1_check_110 ks_2000 (i32_of rfl) ?_
    refine x_icmp_lt 140 dX1_check_113 rfl (fun hc => ?_) (fun hc => ?_)
    · have F := F.1 hc
      obtain ⟨hz, F⟩ := F
      refine x_iinc [(2, 32), (2, 4), (2, 37), (2, 38), (2, x4), (0, (x5 + 1)), (0, r38)] dX1_check_140 rfl rfl (Nat.le_of_ble_eq_true rfl) hz ?_
      refine x_goto 79 dX1_check_143 rfl ?_
      exact x_less [(2, 32), (2, 4), (2, 37), (2, 38), (2, x4), (0, (x5 + 1)), (3, 0)] ⟨Or.inr rfl, ⟨Or.inr rfl, ⟨Or.inr rfl, ⟨Or.inr rfl, ⟨Or.inr rfl, ⟨Or.inr rfl, ⟨Or.inl rfl, trivial⟩⟩⟩⟩⟩⟩⟩ F
    · have F := F.2 hc
      refine x_aload_n dX1_check_116 rfl ?_
      refine x_getr (r' := 25) flX1_72 dX1_check_117 (sW4 hW) (gW4 hW) (rW4_5 hW) rfl (Nat.le_of_ble_eq_true rfl) ?_
      refine x_getr (r' := 28) flX1_76 dX1_check_120 (sW25 hW) (gW25 hW) (rW25_0 hW) rfl (Nat.le_of_ble_eq_true rfl) ?_
      refine x_iload dX1_check_123 rfl ?_
      refine x_aload_n dX1_check_125 rfl ?_
      refine x_iload dX1_check_126 rfl ?_
      refine x_sipush dX1_check_128 ks_2000 (i32_of rfl) ?_
      refine x_si32 (i := 1) rfl (fun hk1 => ?_)
      obtain ⟨hz, F⟩ := F
      have hz := hz hk1
      refine x_isub dX1_check_131 hz ?_
      refine x_aload_n dX1_check_132 rfl ?_
      refine x_aload_n dX1_check_133 rfl ?_
      obtain ⟨P41, hC, F⟩ := F
      refine x_inv dX1_check_134 mlX1_85 hC (sW32 hW) (Nat.le_of_ble_eq_true rfl) (gW32 hW) rfl rfl (by omega) (Nat.zero_le _) (Nat.zero_le _) (Nat.le_of_ble_eq_true rfl) (fun o1 Y44 w43 ht hP => ?_)
      obtain ⟨r42, rfl⟩ : ∃ i, o1 = some (0, i) := ht
      obtain ⟨hX, hP⟩ := hP
      have hX := Eq.symm hX
      subst hX
      have F := F r42 w43 hP
      obtain ⟨P45, hC, F⟩ := F
      refine x_inv dX1_check_137 mlX1_89 hC (sW28 hW) (Nat.le_of_ble_eq_true rfl) (gW28 hW) rfl rfl (by omega) (Nat.zero_le _) (Nat.zero_le _) (Nat.le_of_ble_eq_true rfl) (fun o1 Y48 w47 ht hP => ?_)
      obtain rfl : o1 = none := ht
      obtain ⟨hX, hP⟩ := hP
      have hX := Eq.symm hX
      subst hX
      have F := F w47 hP
      obtain ⟨hz, F⟩ := F
      refine x_iinc [(2, 32), (2, 4), (2, 37), (2, 38), (2, x4), (0, (x5 + 1)), (0, r38)] dX1_check_140 rfl rfl (Nat.le_of_ble_eq_true rfl) hz ?_
      refine x_goto 79 dX1_check_143 rfl ?_
      exact x_less [(2, 32), (2, 4), (2, 37), (2, 38), (2, x4), (0, (x5 + 1)), (3, 0)] ⟨Or.inr rfl, ⟨Or.inr rfl, ⟨Or.inr rfl, ⟨Or.inr rfl, ⟨Or.inr rfl, ⟨Or.inr rfl, ⟨Or.inl rfl, trivial⟩⟩⟩⟩⟩⟩⟩ F

set_option maxRecDepth 100000 in
set_option maxHeartbeats 4000000 in
theorem bX1_note_0 {d mc ms : Nat} {X : XX} {v : VV} {Q : QQ} (a1 : Int) (a2 : Int) (hd : 0 ≤ d) (hW : SW X) (F : i32 a1 → i32 a2 → ((((v 32 2) = (-1)) → Ex mX1_note d 16 [(2, 32), (0, a1), (0, a2)] [] X v mc ms Q) ∧ ((¬ (v 32 2) = (-1)) → ((((v 32 2) ≤ a2) → Q none X v) ∧ ((a2 < (v 32 2)) → Ex mX1_note d 16 [(2, 32), (0, a1), (0, a2)] [] X v mc ms Q))))) : Ex mX1_note d 0 [(2, 32), (0, a1), (0, a2)] [] X v mc ms Q := by
  refine x_li32 (i := 1) rfl (fun ha1 => ?_)
  have F := F ha1
  refine x_li32 (i := 2) rfl (fun ha2 => ?_)
  have F := F ha2
  refine x_aload_n dX1_note_0 rfl ?_
  refine x_geti (e := (v 32 2)) 0 flX1_22 dX1_note_1 (sW32 hW) (gW32 hW) rfl rfl (Nat.le_of_ble_eq_true rfl) (tagn2 rfl) ?_
  refine x_iconst dX1_note_4 rfl (i32_of rfl) ?_
  refine x_icmp_eq 16 dX1_note_5 rfl (fun hc => ?_) (fun hc => ?_)
  · have F := F.1 hc
    exact F
  · have F := F.2 hc
    refine x_iload_n dX1_note_8 rfl ?_
    refine x_aload_n dX1_note_9 rfl ?_
    refine x_geti (e := (v 32 2)) 0 flX1_22 dX1_note_10 (sW32 hW) (gW32 hW) rfl rfl (Nat.le_of_ble_eq_true rfl) (tagn2 rfl) ?_
    refine x_icmp_ge 26 dX1_note_13 rfl (fun hc => ?_) (fun hc => ?_)
    · have F := F.1 hc
      exact x_ret none rfl ⟨dX1_note_26, rfl⟩ F
    · have F := F.2 hc
      exact F

set_option maxRecDepth 100000 in
set_option maxHeartbeats 4000000 in
theorem bX1_note_16 {d mc ms : Nat} {X : XX} {v : VV} {Q : QQ} (a1 : Int) (a2 : Int) (hd : 0 ≤ d) (hW : SW X) (F : i32 a1 → i32 a2 → Q none X (upd2 (upd2 v 32 1 a1) 32 2 a2)) : Ex mX1_note d 16 [(2, 32), (0, a1), (0, a2)] [] X v mc ms Q := by
  refine x_li32 (i := 1) rfl (fun ha1 => ?_)
  have F := F ha1
  refine x_li32 (i := 2) rfl (fun ha2 => ?_)
  have F := F ha2
  refine x_aload_n dX1_note_16 rfl ?_
  refine x_iload_n dX1_note_17 rfl ?_
  refine x_puti 0 fwX1_18 dX1_note_18 (sW32 hW) (gW32 hW) (fun h => Bool.noConfusion h) (Nat.le_of_ble_eq_true rfl) rfl (Or.inl ⟨rfl, Or.inl rfl⟩) ?_
  refine x_aload_n dX1_note_21 rfl ?_
  refine x_iload_n dX1_note_22 rfl ?_
  refine x_puti 0 fwX1_22 dX1_note_23 (sW32 hW) (gW32 hW) (fun h => Bool.noConfusion h) (Nat.le_of_ble_eq_true rfl) rfl (Or.inl ⟨rfl, Or.inl rfl⟩) ?_
  exact x_ret none rfl ⟨dX1_note_26, rfl⟩ F

set_option maxRecDepth 100000 in
set_option maxHeartbeats 4000000 in
theorem bX1_noteRepeats_0 {d mc ms : Nat} {X : XX} {v : VV} {Q : QQ} (a1 : Int) (hd : 1 ≤ d) (hW : SW X) (F : Ex mX1_noteRepeats d 2 [(2, 32), (2, a1), (2, 5), (0, 1), (3, 0), (3, 0)] [] X v mc ms Q) : Ex mX1_noteRepeats d 0 [(2, 32), (2, a1), (2, 5), (3, 0), (3, 0), (3, 0)] [] X v mc ms Q := by
  refine x_iconst dX1_noteRepeats_0 rfl (i32_of rfl) ?_
  refine x_istore_n [(2, 32), (2, a1), (2, 5), (0, 1), (3, 0), (3, 0)] dX1_noteRepeats_1 rfl (Nat.le_of_ble_eq_true rfl) ?_
  exact F

set_option maxRecDepth 100000 in
set_option maxHeartbeats 4000000 in
theorem bX1_noteRepeats_2 {d mc ms : Nat} {X : XX} {v : VV} {Q : QQ} (a1 : Int) (x3 : Int) (hd : 1 ≤ d) (hW : SW X) (F : i32 x3 → X.1.2 a1 = (6, 0) ∧ (0 ≤ a1 ∧ a1 < X.1.1) ∧ ∃ P2 : Option AV → VV → Prop, Con mX6_size 0 0 0 [(2, a1)] X v (fun o X1 v1 => X1 = X ∧ P2 o v1) ∧ ∀ (r3 : Int) (w4 : VV), P2 (some (0, r3)) w4 → (((r3 ≤ x3) → Q none X w4) ∧ ((x3 < r3) → ∃ P6 : Option AV → VV → Prop, Con mX6_get 0 0 0 [(2, a1), (0, x3)] X w4 (fun o X1 v1 => X1 = X ∧ P6 o v1) ∧ ∀ (r7 : Int) (w8 : VV), P6 (some (0, r7)) w8 → Ex mX1_noteRepeats d 20 [(2, 32), (2, a1), (2, 5), (0, x3), (0, r7), (0, 0)] [] X w8 mc ms Q))) : Ex mX1_noteRepeats d 2 [(2, 32), (2, a1), (2, 5), (0, x3), (3, 0), (3, 0)] [] X v mc ms Q := by
  refine x_li32 (i := 3) rfl (fun hx3 => ?_)
  have F := F hx3
  refine x_iload_n dX1_noteRepeats_2 rfl ?_
  refine x_aload_n dX1_noteRepeats_3 rfl ?_
  obtain ⟨hs1, hr1, F⟩ := F
  obtain ⟨P2, hC, F⟩ := F
  refine x_inv dX1_noteRepeats_4 mlX1_81 hC hs1 (Nat.le_of_ble_eq_true rfl) hr1 rfl rfl (by omega) (Nat.zero_le _) (Nat.zero_le _) (Nat.le_of_ble_eq_true rfl) (fun o1 Y5 w4 ht hP => ?_)
  obtain ⟨r3, rfl⟩ : ∃ i, o1 = some (0, i) := ht
  obtain ⟨hX, hP⟩ := hP
  have hX := Eq.symm hX
  subst hX
  have F := F r3 w4 hP
  refine x_icmp_ge 72 dX1_noteRepeats_7 rfl (fun hc => ?_) (fun hc => ?_)
  · have F := F.1 hc
    exact x_ret none rfl ⟨dX1_noteRepeats_72, rfl⟩ F
  · have F := F.2 hc
    refine x_aload_n dX1_noteRepeats_10 rfl ?_
    refine x_iload_n dX1_noteRepeats_11 rfl ?_
    obtain ⟨P6, hC, F⟩ := F
    refine x_inv dX1_noteRepeats_12 mlX1_48 hC hs1 (Nat.le_of_ble_eq_true rfl) hr1 rfl rfl (by omega) (Nat.zero_le _) (Nat.zero_le _) (Nat.le_of_ble_eq_true rfl) (fun o1 Y9 w8 ht hP => ?_)
    obtain ⟨r7, rfl⟩ : ∃ i, o1 = some (0, i) := ht
    obtain ⟨hX, hP⟩ := hP
    have hX := Eq.symm hX
    subst hX
    have F := F r7 w8 hP
    refine x_istore [(2, 32), (2, a1), (2, 5), (0, x3), (0, r7), (3, 0)] dX1_noteRepeats_15 rfl (Nat.le_of_ble_eq_true rfl) ?_
    refine x_iconst dX1_noteRepeats_17 rfl (i32_of rfl) ?_
    refine x_istore [(2, 32), (2, a1), (2, 5), (0, x3), (0, r7), (0, 0)] dX1_noteRepeats_18 rfl (Nat.le_of_ble_eq_true rfl) ?_
    exact F

set_option maxRecDepth 100000 in
set_option maxHeartbeats 4000000 in
theorem bX1_noteRepeats_20 {d mc ms : Nat} {X : XX} {v : VV} {Q : QQ} (a1 : Int) (x3 : Int) (x4 : Int) (x5 : Int) (hd : 1 ≤ d) (hW : SW X) (F : i32 x3 → i32 x4 → i32 x5 → (((x3 ≤ x5) → i32 (x3 + 1) ∧ Ex mX1_noteRepeats d 2 [(2, 32), (2, a1), (2, 5), (0, (x3 + 1)), (3, 0), (3, 0)] [] X v mc ms Q) ∧ ((x5 < x3) → X.1.2 a1 = (6, 0) ∧ (0 ≤ a1 ∧ a1 < X.1.1) ∧ ∃ P11 : Option AV → VV → Prop, Con mX6_get 0 0 0 [(2, a1), (0, x5)] X v (fun o X1 v1 => X1 = X ∧ P11 o v1) ∧ ∀ (r12 : Int) (w13 : VV), P11 (some (0, r12)) w13 → ∃ P15 : Option AV → VV → Prop, Con mX8_nameOf 0 0 0 [(2, 5), (0, r12)] X w13 (fun o X1 v1 => X1 = X ∧ P15 o v1) ∧ ∀ (r16 : Int) (w17 : VV), P15 (some (1, r16)) w17 → ∃ P19 : Option AV → VV → Prop, Con mX8_nameOf 0 0 0 [(2, 5), (0, x4)] X w17 (fun o X1 v1 => X1 = X ∧ P19 o v1) ∧ ∀ (r20 : Int) (w21 : VV), P19 (some (1, r20)) w21 → (((¬ r16 = r20) → i32 (x5 + 1) ∧ Ex mX1_noteRepeats d 20 [(2, 32), (2, a1), (2, 5), (0, x3), (0, x4), (0, (x5 + 1))] [] X w21 mc ms Q) ∧ ((r16 = r20) → ∃ P24 : Option AV → VV → Prop, Con mX6_get 0 0 0 [(2, 8), (0, x4)] X w21 (fun o X1 v1 => X1 = X ∧ P24 o v1) ∧ ∀ (r25 : Int) (w26 : VV), P24 (some (0, r25)) w26 → ∃ P28 : Option AV → VV → Prop, Con mX1_note 0 0 0 [(2, 32), (0, 4), (0, r25)] X w26 (fun o X1 v1 => X1 = X ∧ P28 o v1) ∧ ∀ (w30 : VV), P28 none w30 → i32 (x5 + 1) ∧ Ex mX1_noteRepeats d 20 [(2, 32), (2, a1), (2, 5), (0, x3), (0, x4), (0, (x5 + 1))] [] X w30 mc ms Q))))) : Ex mX1_noteRepeats d 20 [(2, 32), (2, a1), (2, 5), (0, x3), (0, x4), (0, x5)] [] X v mc ms Q := by
  refine x_li32 (i := 3) rfl (fun hx3 => ?_)
  have F := F hx3
  refine x_li32 (i := 4) rfl (fun hx4 => ?_)
  have F := F hx4
  refine x_li32 (i := 5) rfl (fun hx5 => ?_)
  have F := F hx5
  refine x_iload dX1_noteRepeats_20 rfl ?_
  refine x_iload_n dX1_noteRepeats_22 rfl ?_
  refine x_icmp_ge 66 dX1_noteRepeats_23 rfl (fun hc => ?_) (fun hc => ?_)
  · have F := F.1 hc
    obtain ⟨hz, F⟩ := F
    refine x_iinc [(2, 32), (2, a1), (2, 5), (0, (x3 + 1)), (0, x4), (0, x5)] dX1_noteRepeats_66 rfl rfl (Nat.le_of_ble_eq_true rfl) hz ?_
    refine x_goto 2 dX1_noteRepeats_69 rfl ?_
    exact x_less [(2, 32), (2, a1), (2, 5), (0, (x3 + 1)), (3, 0), (3, 0)] ⟨Or.inr rfl, ⟨Or.inr rfl, ⟨Or.inr rfl, ⟨Or.inr rfl, ⟨Or.inl rfl, ⟨Or.inl rfl, trivial⟩⟩⟩⟩⟩⟩ F
  · have F := F.2 hc
    refine x_aload_n dX1_noteRepeats_26 rfl ?_
    refine x_aload_n dX1_noteRepeats_27 rfl ?_
    refine x_iload dX1_noteRepeats_28 rfl ?_
    obtain ⟨hs10, hr10, F⟩ := F
    obtain ⟨P11, hC, F⟩ := F
    refine x_inv dX1_noteRepeats_30 mlX1_48 hC hs10 (Nat.le_of_ble_eq_true rfl) hr10 rfl rfl (by omega) (Nat.zero_le _) (Nat.zero_le _) (Nat.le_of_ble_eq_true rfl) (fun o1 Y14 w13 ht hP => ?_)
    obtain ⟨r12, rfl⟩ : ∃ i, o1 = some (0, i) := ht
    obtain ⟨hX, hP⟩ := hP
    have hX := Eq.symm hX
    subst hX
    have F := F r12 w13 hP
    obtain ⟨P15, hC, F⟩ := F
    refine x_inv dX1_noteRepeats_33 mlX1_34 hC (sW5 hW) (Nat.le_of_ble_eq_true rfl) (gW5 hW) rfl rfl (by omega) (Nat.zero_le _) (Nat.zero_le _) (Nat.le_of_ble_eq_true rfl) (fun o1 Y18 w17 ht hP => ?_)
    obtain ⟨r16, rfl⟩ : ∃ i, o1 = some (1, i) := ht
    obtain ⟨hX, hP⟩ := hP
    have hX := Eq.symm hX
    subst hX
    have F := F r16 w17 hP
    refine x_aload_n dX1_noteRepeats_36 rfl ?_
    refine x_iload dX1_noteRepeats_37 rfl ?_
    obtain ⟨P19, hC, F⟩ := F
    refine x_inv dX1_noteRepeats_39 mlX1_34 hC (sW5 hW) (Nat.le_of_ble_eq_true rfl) (gW5 hW) rfl rfl (by omega) (Nat.zero_le _) (Nat.zero_le _) (Nat.le_of_ble_eq_true rfl) (fun o1 Y22 w21 ht hP => ?_)
    obtain ⟨r20, rfl⟩ : ∃ i, o1 = some (1, i) := ht
    obtain ⟨hX, hP⟩ := hP
    have hX := Eq.symm hX
    subst hX
    have F := F r20 w21 hP
    refine x_lcmp dX1_noteRepeats_42 (fun z23 hz231 hz232 hz233 => ?_)
    refine x_if_ne 60 dX1_noteRepeats_43 rfl (fun hc => ?_) (fun hc => ?_)
    · have F := F.1 (fun q => hc (hz231.mpr q))
      obtain ⟨hz, F⟩ := F
      refine x_iinc [(2, 32), (2, a1), (2, 5), (0, x3), (0, x4), (0, (x5 + 1))] dX1_noteRepeats_60 rfl rfl (Nat.le_of_ble_eq_true rfl) hz ?_
      refine x_goto 20 dX1_noteRepeats_63 rfl ?_
      exact F
    · have F := F.2 (hz231.mp hc)
      refine x_aload_n dX1_noteRepeats_46 rfl ?_
      refine x_iconst dX1_noteRepeats_47 rfl (i32_of rfl) ?_
      refine x_aload_n dX1_noteRepeats_48 rfl ?_
      refine x_getr (r' := 8) flX1_44 dX1_noteRepeats_49 (sW5 hW) (gW5 hW) (rW5_1 hW) rfl (Nat.le_of_ble_eq_true rfl) ?_
      refine x_iload dX1_noteRepeats_52 rfl ?_
      obtain ⟨P24, hC, F⟩ := F
      refine x_inv dX1_noteRepeats_54 mlX1_48 hC (sW8 hW) (Nat.le_of_ble_eq_true rfl) (gW8 hW) rfl rfl (by omega) (Nat.zero_le _) (Nat.zero_le _) (Nat.le_of_ble_eq_true rfl) (fun o1 Y27 w26 ht hP => ?_)
      obtain ⟨r25, rfl⟩ : ∃ i, o1 = some (0, i) := ht
      obtain ⟨hX, hP⟩ := hP
      have hX := Eq.symm hX
      subst hX
      have F := F r25 w26 hP
      obtain ⟨P28, hC, F⟩ := F
      refine x_inv dX1_noteRepeats_57 mlX1_54 hC (sW32 hW) (Nat.le_of_ble_eq_true rfl) (gW32 hW) rfl rfl (by omega) (Nat.zero_le _) (Nat.zero_le _) (Nat.le_of_ble_eq_true rfl) (fun o1 Y31 w30 ht hP => ?_)
      obtain rfl : o1 = none := ht
      obtain ⟨hX, hP⟩ := hP
      have hX := Eq.symm hX
      subst hX
      have F := F w30 hP
      obtain ⟨hz, F⟩ := F
      refine x_iinc [(2, 32), (2, a1), (2, 5), (0, x3), (0, x4), (0, (x5 + 1))] dX1_noteRepeats_60 rfl rfl (Nat.le_of_ble_eq_true rfl) hz ?_
      refine x_goto 20 dX1_noteRepeats_63 rfl ?_
      exact F

set_option maxRecDepth 100000 in
set_option maxHeartbeats 4000000 in
theorem bX1_lookBehind_0 {d mc ms : Nat} {X : XX} {v : VV} {Q : QQ} (hd : 1 ≤ d) (hW : SW X) (F : Ex mX1_lookBehind d 2 [(2, 32), (2, 4), (2, 37), (0, 0), (3, 0), (3, 0)] [] X v mc ms Q) : Ex mX1_lookBehind d 0 [(2, 32), (2, 4), (2, 37), (3, 0), (3, 0), (3, 0)] [] X v mc ms Q := by
  refine x_iconst dX1_lookBehind_0 rfl (i32_of rfl) ?_
  refine x_istore_n [(2, 32), (2, 4), (2, 37), (0, 0), (3, 0), (3, 0)] dX1_lookBehind_1 rfl (Nat.le_of_ble_eq_true rfl) ?_
  exact F

set_option maxRecDepth 100000 in
set_option maxHeartbeats 4000000 in
theorem bX1_lookBehind_2 {d mc ms : Nat} {X : XX} {v : VV} {Q : QQ} (x3 : Int) (hd : 1 ≤ d) (hW : SW X) (F : i32 x3 → ∃ P1 : Option AV → VV → Prop, Con mX6_size 0 0 0 [(2, 21)] X v (fun o X1 v1 => X1 = X ∧ P1 o v1) ∧ ∀ (r2 : Int) (w3 : VV), P1 (some (0, r2)) w3 → (((r2 ≤ x3) → Q none X w3) ∧ ((x3 < r2) → ∃ P5 : Option AV → VV → Prop, Con mX6_get 0 0 0 [(2, 21), (0, x3)] X w3 (fun o X1 v1 => X1 = X ∧ P5 o v1) ∧ ∀ (r6 : Int) (w7 : VV), P5 (some (0, r6)) w7 → ∃ P9 : Option AV → VV → Prop, Con mX8_nameOf 0 0 0 [(2, 5), (0, r6)] X w7 (fun o X1 v1 => X1 = X ∧ P9 o v1) ∧ ∀ (r10 : Int) (w11 : VV), P9 (some (1, r10)) w11 → ∃ P13 : Option AV → VV → Prop, Con mX10_indexOfName 0 0 0 [(2, 37), (1, r10)] X w11 (fun o X1 v1 => X1 = X ∧ P13 o v1) ∧ ∀ (r14 : Int) (w15 : VV), P13 (some (0, r14)) w15 → ∃ P17 : Option AV → VV → Prop, Con mX6_add 0 0 0 [(2, 23), (0, r14)] X w15 (fun o X1 v1 => X1 = X ∧ P17 o v1) ∧ ∀ (w19 : VV), P17 none w19 → (((¬ r14 = (-1)) → i32 (x3 + 1) ∧ Ex mX1_lookBehind d 2 [(2, 32), (2, 4), (2, 37), (0, (x3 + 1)), (3, 0), (3, 0)] [] X w19 mc ms Q) ∧ ((r14 = (-1)) → ∃ P21 : Option AV → VV → Prop, Con mX6_get 0 0 0 [(2, 8), (0, r6)] X w19 (fun o X1 v1 => X1 = X ∧ P21 o v1) ∧ ∀ (r22 : Int) (w23 : VV), P21 (some (0, r22)) w23 → ∃ P25 : Option AV → VV → Prop, Con mX1_note 0 0 0 [(2, 32), (0, 2), (0, r22)] X w23 (fun o X1 v1 => X1 = X ∧ P25 o v1) ∧ ∀ (w27 : VV), P25 none w27 → i32 (x3 + 1) ∧ Ex mX1_lookBehind d 2 [(2, 32), (2, 4), (2, 37), (0, (x3 + 1)), (3, 0), (3, 0)] [] X w27 mc ms Q))))) : Ex mX1_lookBehind d 2 [(2, 32), (2, 4), (2, 37), (0, x3), (3, 0), (3, 0)] [] X v mc ms Q := by
  refine x_li32 (i := 3) rfl (fun hx3 => ?_)
  have F := F hx3
  refine x_iload_n dX1_lookBehind_2 rfl ?_
  refine x_aload_n dX1_lookBehind_3 rfl ?_
  refine x_getr (r' := 21) flX1_65 dX1_lookBehind_4 (sW4 hW) (gW4 hW) (rW4_3 hW) rfl (Nat.le_of_ble_eq_true rfl) ?_
  obtain ⟨P1, hC, F⟩ := F
  refine x_inv dX1_lookBehind_7 mlX1_81 hC (sW21 hW) (Nat.le_of_ble_eq_true rfl) (gW21 hW) rfl rfl (by omega) (Nat.zero_le _) (Nat.zero_le _) (Nat.le_of_ble_eq_true rfl) (fun o1 Y4 w3 ht hP => ?_)
  obtain ⟨r2, rfl⟩ : ∃ i, o1 = some (0, i) := ht
  obtain ⟨hX, hP⟩ := hP
  have hX := Eq.symm hX
  subst hX
  have F := F r2 w3 hP
  refine x_icmp_ge 76 dX1_lookBehind_10 rfl (fun hc => ?_) (fun hc => ?_)
  · have F := F.1 hc
    exact x_ret none rfl ⟨dX1_lookBehind_76, rfl⟩ F
  · have F := F.2 hc
    refine x_aload_n dX1_lookBehind_13 rfl ?_
    refine x_getr (r' := 21) flX1_65 dX1_lookBehind_14 (sW4 hW) (gW4 hW) (rW4_3 hW) rfl (Nat.le_of_ble_eq_true rfl) ?_
    refine x_iload_n dX1_lookBehind_17 rfl ?_
    obtain ⟨P5, hC, F⟩ := F
    refine x_inv dX1_lookBehind_18 mlX1_48 hC (sW21 hW) (Nat.le_of_ble_eq_true rfl) (gW21 hW) rfl rfl (by omega) (Nat.zero_le _) (Nat.zero_le _) (Nat.le_of_ble_eq_true rfl) (fun o1 Y8 w7 ht hP => ?_)
    obtain ⟨r6, rfl⟩ : ∃ i, o1 = some (0, i) := ht
    obtain ⟨hX, hP⟩ := hP
    have hX := Eq.symm hX
    subst hX
    have F := F r6 w7 hP
    refine x_istore [(2, 32), (2, 4), (2, 37), (0, x3), (0, r6), (3, 0)] dX1_lookBehind_21 rfl (Nat.le_of_ble_eq_true rfl) ?_
    refine x_aload_n dX1_lookBehind_23 rfl ?_
    refine x_aload_n dX1_lookBehind_24 rfl ?_
    refine x_getr (r' := 5) flX1_25 dX1_lookBehind_25 (sW4 hW) (gW4 hW) (rW4_0 hW) rfl (Nat.le_of_ble_eq_true rfl) ?_
    refine x_iload dX1_lookBehind_28 rfl ?_
    obtain ⟨P9, hC, F⟩ := F
    refine x_inv dX1_lookBehind_30 mlX1_34 hC (sW5 hW) (Nat.le_of_ble_eq_true rfl) (gW5 hW) rfl rfl (by omega) (Nat.zero_le _) (Nat.zero_le _) (Nat.le_of_ble_eq_true rfl) (fun o1 Y12 w11 ht hP => ?_)
    obtain ⟨r10, rfl⟩ : ∃ i, o1 = some (1, i) := ht
    obtain ⟨hX, hP⟩ := hP
    have hX := Eq.symm hX
    subst hX
    have F := F r10 w11 hP
    obtain ⟨P13, hC, F⟩ := F
    refine x_static dX1_lookBehind_33 mlX1_40 hC rfl rfl (by omega) (Nat.zero_le _) (Nat.zero_le _) (Nat.le_of_ble_eq_true rfl) (fun o1 Y16 w15 ht hP => ?_)
    obtain ⟨r14, rfl⟩ : ∃ i, o1 = some (0, i) := ht
    obtain ⟨hX, hP⟩ := hP
    have hX := Eq.symm hX
    subst hX
    have F := F r14 w15 hP
    refine x_istore [(2, 32), (2, 4), (2, 37), (0, x3), (0, r6), (0, r14)] dX1_lookBehind_36 rfl (Nat.le_of_ble_eq_true rfl) ?_
    refine x_aload_n dX1_lookBehind_38 rfl ?_
    refine x_getr (r' := 23) flX1_99 dX1_lookBehind_39 (sW4 hW) (gW4 hW) (rW4_4 hW) rfl (Nat.le_of_ble_eq_true rfl) ?_
    refine x_iload dX1_lookBehind_42 rfl ?_
    obtain ⟨P17, hC, F⟩ := F
    refine x_inv dX1_lookBehind_44 mlX1_102 hC (sW23 hW) (Nat.le_of_ble_eq_true rfl) (gW23 hW) rfl rfl (by omega) (Nat.zero_le _) (Nat.zero_le _) (Nat.le_of_ble_eq_true rfl) (fun o1 Y20 w19 ht hP => ?_)
    obtain rfl : o1 = none := ht
    obtain ⟨hX, hP⟩ := hP
    have hX := Eq.symm hX
    subst hX
    have F := F w19 hP
    refine x_iload dX1_lookBehind_47 rfl ?_
    refine x_iconst dX1_lookBehind_49 rfl (i32_of rfl) ?_
    refine x_icmp_ne 70 dX1_lookBehind_50 rfl (fun hc => ?_) (fun hc => ?_)
    · have F := F.1 hc
      obtain ⟨hz, F⟩ := F
      refine x_iinc [(2, 32), (2, 4), (2, 37), (0, (x3 + 1)), (0, r6), (0, r14)] dX1_lookBehind_70 rfl rfl (Nat.le_of_ble_eq_true rfl) hz ?_
      refine x_goto 2 dX1_lookBehind_73 rfl ?_
      exact x_less [(2, 32), (2, 4), (2, 37), (0, (x3 + 1)), (3, 0), (3, 0)] ⟨Or.inr rfl, ⟨Or.inr rfl, ⟨Or.inr rfl, ⟨Or.inr rfl, ⟨Or.inl rfl, ⟨Or.inl rfl, trivial⟩⟩⟩⟩⟩⟩ F
    · have F := F.2 hc
      refine x_aload_n dX1_lookBehind_53 rfl ?_
      refine x_iconst dX1_lookBehind_54 rfl (i32_of rfl) ?_
      refine x_aload_n dX1_lookBehind_55 rfl ?_
      refine x_getr (r' := 5) flX1_25 dX1_lookBehind_56 (sW4 hW) (gW4 hW) (rW4_0 hW) rfl (Nat.le_of_ble_eq_true rfl) ?_
      refine x_getr (r' := 8) flX1_44 dX1_lookBehind_59 (sW5 hW) (gW5 hW) (rW5_1 hW) rfl (Nat.le_of_ble_eq_true rfl) ?_
      refine x_iload dX1_lookBehind_62 rfl ?_
      obtain ⟨P21, hC, F⟩ := F
      refine x_inv dX1_lookBehind_64 mlX1_48 hC (sW8 hW) (Nat.le_of_ble_eq_true rfl) (gW8 hW) rfl rfl (by omega) (Nat.zero_le _) (Nat.zero_le _) (Nat.le_of_ble_eq_true rfl) (fun o1 Y24 w23 ht hP => ?_)
      obtain ⟨r22, rfl⟩ : ∃ i, o1 = some (0, i) := ht
      obtain ⟨hX, hP⟩ := hP
      have hX := Eq.symm hX
      subst hX
      have F := F r22 w23 hP
      obtain ⟨P25, hC, F⟩ := F
      refine x_inv dX1_lookBehind_67 mlX1_54 hC (sW32 hW) (Nat.le_of_ble_eq_true rfl) (gW32 hW) rfl rfl (by omega) (Nat.zero_le _) (Nat.zero_le _) (Nat.le_of_ble_eq_true rfl) (fun o1 Y28 w27 ht hP => ?_)
      obtain rfl : o1 = none := ht
      obtain ⟨hX, hP⟩ := hP
      have hX := Eq.symm hX
      subst hX
      have F := F w27 hP
      obtain ⟨hz, F⟩ := F
      refine x_iinc [(2, 32), (2, 4), (2, 37), (0, (x3 + 1)), (0, r6), (0, r14)] dX1_lookBehind_70 rfl rfl (Nat.le_of_ble_eq_true rfl) hz ?_
      refine x_goto 2 dX1_lookBehind_73 rfl ?_
      exact x_less [(2, 32), (2, 4), (2, 37), (0, (x3 + 1)), (3, 0), (3, 0)] ⟨Or.inr rfl, ⟨Or.inr rfl, ⟨Or.inr rfl, ⟨Or.inr rfl, ⟨Or.inl rfl, ⟨Or.inl rfl, trivial⟩⟩⟩⟩⟩⟩ F

set_option maxRecDepth 100000 in
set_option maxHeartbeats 4000000 in
theorem bX1_columnItem_0 {d mc ms : Nat} {X : XX} {v : VV} {Q : QQ} (a1 : Int) (hd : 1 ≤ d) (hW : SW X) (F : i32 a1 → ∃ P1 : Option AV → VV → Prop, Con mX6_size 0 0 0 [(2, 21)] X v (fun o X1 v1 => X1 = X ∧ P1 o v1) ∧ ∀ (r2 : Int) (w3 : VV), P1 (some (0, r2)) w3 → (i32 r2 → i32 (r2 - 1)) ∧ Ex mX1_columnItem d 20 [(2, 32), (0, a1), (2, 4), (2, 37), (2, 5), (0, (-1)), (0, (r2 - 1)), (3, 0), (3, 0)] [] X w3 mc ms Q) : Ex mX1_columnItem d 0 [(2, 32), (0, a1), (2, 4), (2, 37), (3, 0), (3, 0), (3, 0), (3, 0), (3, 0)] [] X v mc ms Q := by
  refine x_li32 (i := 1) rfl (fun ha1 => ?_)
  have F := F ha1
  refine x_aload_n dX1_columnItem_0 rfl ?_
  refine x_getr (r' := 5) flX1_25 dX1_columnItem_1 (sW4 hW) (gW4 hW) (rW4_0 hW) rfl (Nat.le_of_ble_eq_true rfl) ?_
  refine x_astore [(2, 32), (0, a1), (2, 4), (2, 37), (2, 5), (3, 0), (3, 0), (3, 0), (3, 0)] dX1_columnItem_4 rfl (Nat.le_of_ble_eq_true rfl) ?_
  refine x_iconst dX1_columnItem_6 rfl (i32_of rfl) ?_
  refine x_istore [(2, 32), (0, a1), (2, 4), (2, 37), (2, 5), (0, (-1)), (3, 0), (3, 0), (3, 0)] dX1_columnItem_7 rfl (Nat.le_of_ble_eq_true rfl) ?_
  refine x_aload_n dX1_columnItem_9 rfl ?_
  refine x_getr (r' := 21) flX1_65 dX1_columnItem_10 (sW4 hW) (gW4 hW) (rW4_3 hW) rfl (Nat.le_of_ble_eq_true rfl) ?_
  obtain ⟨P1, hC, F⟩ := F
  refine x_inv dX1_columnItem_13 mlX1_81 hC (sW21 hW) (Nat.le_of_ble_eq_true rfl) (gW21 hW) rfl rfl (by omega) (Nat.zero_le _) (Nat.zero_le _) (Nat.le_of_ble_eq_true rfl) (fun o1 Y4 w3 ht hP => ?_)
  obtain ⟨r2, rfl⟩ : ∃ i, o1 = some (0, i) := ht
  obtain ⟨hX, hP⟩ := hP
  have hX := Eq.symm hX
  subst hX
  have F := F r2 w3 hP
  refine x_iconst dX1_columnItem_16 rfl (i32_of rfl) ?_
  refine x_si32 (i := 1) rfl (fun hk1 => ?_)
  obtain ⟨hz, F⟩ := F
  have hz := hz hk1
  refine x_isub dX1_columnItem_17 hz ?_
  refine x_istore [(2, 32), (0, a1), (2, 4), (2, 37), (2, 5), (0, (-1)), (0, (r2 - 1)), (3, 0), (3, 0)] dX1_columnItem_18 rfl (Nat.le_of_ble_eq_true rfl) ?_
  exact F

set_option maxRecDepth 100000 in
set_option maxHeartbeats 4000000 in
theorem bX1_columnItem_20 {d mc ms : Nat} {X : XX} {v : VV} {Q : QQ} (a1 : Int) (x4 : Int) (x5 : Int) (x6 : Int) (hd : 1 ≤ d) (hW : SW X) (F : i32 a1 → i32 x5 → i32 x6 → (((x6 < 0) → (((¬ x5 = (-1)) → ∃ P5 : Option AV → VV → Prop, Con mX6_get 0 0 0 [(2, 23), (0, x5)] X v (fun o X1 v1 => X1 = X ∧ P5 o v1) ∧ ∀ (r6 : Int) (w7 : VV), P5 (some (0, r6)) w7 → (((r6 < 0) → Ex mX1_columnItem d 111 [(2, 32), (0, a1), (2, 4), (2, 37), (2, x4), (0, x5), (0, r6), (3, 0), (3, 0)] [] X w7 mc ms Q) ∧ ((0 ≤ r6) → (((16 ≤ r6) → Ex mX1_columnItem d 111 [(2, 32), (0, a1), (2, 4), (2, 37), (2, x4), (0, x5), (0, r6), (3, 0), (3, 0)] [] X w7 mc ms Q) ∧ ((r6 < 16) → (0 ≤ r6 ∧ r6 < 16) ∧ (((¬ (X.2 37 r6) = -1) → i32 (a1 + 2) ∧ X.1.2 x4 = (8, 0) ∧ (0 ≤ x4 ∧ x4 < X.1.1) ∧ ∃ P10 : Option AV → VV → Prop, Con mX8_nameOf 0 0 0 [(2, x4), (0, (a1 + 2))] X w7 (fun o X1 v1 => X1 = X ∧ P10 o v1) ∧ ∀ (r11 : Int) (w12 : VV), P10 (some (1, r11)) w12 → X.1.2 (X.2 37 r6) = (7, 0) ∧ (0 ≤ (X.2 37 r6) ∧ (X.2 37 r6) < X.1.1) ∧ ∃ P15 : Option AV → VV → Prop, Con mX7_columnOfName 0 0 0 [(2, (X.2 37 r6)), (1, r11)] X w12 (fun o X1 v1 => X1 = X ∧ P15 o v1) ∧ ∀ (r16 : Int) (w17 : VV), P15 (some (0, r16)) w17 → (((¬ r16 = (-1)) → (i32 r6 → i32 (r6 * 8)) ∧ (i32 (r6 * 8) → i32 (1000 + (r6 * 8))) ∧ (i32 r16 → i32 (1000 + (r6 * 8)) → i32 ((1000 + (r6 * 8)) + r16)) ∧ Q (some (0, ((1000 + (r6 * 8)) + r16))) X w17) ∧ ((r16 = (-1)) → i32 (a1 + 2) ∧ X.1.2 (X.2 x4 1) = (6, 0) ∧ (0 ≤ (X.2 x4 1) ∧ (X.2 x4 1) < X.1.1) ∧ ∃ P20 : Option AV → VV → Prop, Con mX6_get 0 0 0 [(2, (X.2 x4 1)), (0, (a1 + 2))] X w17 (fun o X1 v1 => X1 = X ∧ P20 o v1) ∧ ∀ (r21 : Int) (w22 : VV), P20 (some (0, r21)) w22 → ∃ P24 : Option AV → VV → Prop, Con mX1_note 0 0 0 [(2, 32), (0, 2), (0, r21)] X w22 (fun o X1 v1 => X1 = X ∧ P24 o v1) ∧ ∀ (w26 : VV), P24 none w26 → Q (some (0, 0)) X w26))) ∧ (((X.2 37 r6) = -1) → Q (some (0, 0)) X w7))))))) ∧ ((x5 = (-1)) → X.1.2 x4 = (8, 0) ∧ (0 ≤ x4 ∧ x4 < X.1.1) ∧ X.1.2 (X.2 x4 1) = (6, 0) ∧ (0 ≤ (X.2 x4 1) ∧ (X.2 x4 1) < X.1.1) ∧ ∃ P30 : Option AV → VV → Prop, Con mX6_get 0 0 0 [(2, (X.2 x4 1)), (0, a1)] X v (fun o X1 v1 => X1 = X ∧ P30 o v1) ∧ ∀ (r31 : Int) (w32 : VV), P30 (some (0, r31)) w32 → ∃ P34 : Option AV → VV → Prop, Con mX1_note 0 0 0 [(2, 32), (0, 2), (0, r31)] X w32 (fun o X1 v1 => X1 = X ∧ P34 o v1) ∧ ∀ (w36 : VV), P34 none w36 → Q (some (0, 0)) X w36))) ∧ ((0 ≤ x6) → ∃ P38 : Option AV → VV → Prop, Con mX6_get 0 0 0 [(2, 21), (0, x6)] X v (fun o X1 v1 => X1 = X ∧ P38 o v1) ∧ ∀ (r39 : Int) (w40 : VV), P38 (some (0, r39)) w40 → X.1.2 x4 = (8, 0) ∧ (0 ≤ x4 ∧ x4 < X.1.1) ∧ ∃ P43 : Option AV → VV → Prop, Con mX8_nameOf 0 0 0 [(2, x4), (0, r39)] X w40 (fun o X1 v1 => X1 = X ∧ P43 o v1) ∧ ∀ (r44 : Int) (w45 : VV), P43 (some (1, r44)) w45 → ∃ P47 : Option AV → VV → Prop, Con mX8_nameOf 0 0 0 [(2, x4), (0, a1)] X w45 (fun o X1 v1 => X1 = X ∧ P47 o v1) ∧ ∀ (r48 : Int) (w49 : VV), P47 (some (1, r48)) w49 → (((¬ r44 = r48) → i32 (x6 + (-1)) ∧ Ex mX1_columnItem d 20 [(2, 32), (0, a1), (2, 4), (2, 37), (2, x4), (0, x5), (0, (x6 + (-1))), (3, 0), (3, 0)] [] X w49 mc ms Q) ∧ ((r44 = r48) → i32 (x6 + (-1)) ∧ Ex mX1_columnItem d 20 [(2, 32), (0, a1), (2, 4), (2, 37), (2, x4), (0, x6), (0, (x6 + (-1))), (3, 0), (3, 0)] [] X w49 mc ms Q))))) : Ex mX1_columnItem d 20 [(2, 32), (0, a1), (2, 4), (2, 37), (2, x4), (0, x5), (0, x6), (3, 0), (3, 0)] [] X v mc ms Q := by
  refine x_li32 (i := 1) rfl (fun ha1 => ?_)
  have F := F ha1
  refine x_li32 (i := 5) rfl (fun hx5 => ?_)
  have F := F hx5
  refine x_li32 (i := 6) rfl (fun hx6 => ?_)
  have F := F hx6
  refine x_iload dX1_columnItem_20 rfl ?_
  refine x_if_lt 59 dX1_columnItem_22 rfl (fun hc => ?_) (fun hc => ?_)
  · have F := F.1 hc
    refine x_iload dX1_columnItem_59 rfl ?_
    refine x_iconst dX1_columnItem_61 rfl (i32_of rfl) ?_
    refine x_icmp_ne 81 dX1_columnItem_62 rfl (fun hc => ?_) (fun hc => ?_)
    · have F := F.1 hc
      refine x_aload_n dX1_columnItem_81 rfl ?_
      refine x_getr (r' := 23) flX1_99 dX1_columnItem_82 (sW4 hW) (gW4 hW) (rW4_4 hW) rfl (Nat.le_of_ble_eq_true rfl) ?_
      refine x_iload dX1_columnItem_85 rfl ?_
      obtain ⟨P5, hC, F⟩ := F
      refine x_inv dX1_columnItem_87 mlX1_48 hC (sW23 hW) (Nat.le_of_ble_eq_true rfl) (gW23 hW) rfl rfl (by omega) (Nat.zero_le _) (Nat.zero_le _) (Nat.le_of_ble_eq_true rfl) (fun o1 Y8 w7 ht hP => ?_)
      obtain ⟨r6, rfl⟩ : ∃ i, o1 = some (0, i) := ht
      obtain ⟨hX, hP⟩ := hP
      have hX := Eq.symm hX
      subst hX
      have F := F r6 w7 hP
      refine x_istore [(2, 32), (0, a1), (2, 4), (2, 37), (2, x4), (0, x5), (0, r6), (3, 0), (3, 0)] dX1_columnItem_90 rfl (Nat.le_of_ble_eq_true rfl) ?_
      refine x_iload dX1_columnItem_92 rfl ?_
      refine x_if_lt 111 dX1_columnItem_94 rfl (fun hc => ?_) (fun hc => ?_)
      · have F := F.1 hc
        exact F
      · have F := F.2 hc
        refine x_iload dX1_columnItem_97 rfl ?_
        refine x_aload_n dX1_columnItem_99 rfl ?_
        refine x_alen dX1_columnItem_100 (sW37 hW) (by decide) (gW37 hW) (fun hlen => ?_)
        refine x_icmp_ge 111 dX1_columnItem_101 rfl (fun hc => ?_) (fun hc => ?_)
        · have F := F.1 hc
          exact F
        · have F := F.2 hc
          refine x_aload_n dX1_columnItem_104 rfl ?_
          refine x_iload dX1_columnItem_105 rfl ?_
          obtain ⟨hi, F⟩ := F
          refine x_aald (r' := (X.2 37 r6)) dX1_columnItem_107 (sW37 hW) (by decide) (gW37 hW) hi rfl ?_
          refine x_goto 112 dX1_columnItem_108 rfl ?_
          refine x_astore [(2, 32), (0, a1), (2, 4), (2, 37), (2, x4), (0, x5), (0, r6), (2, (X.2 37 r6)), (3, 0)] dX1_columnItem_112 rfl (Nat.le_of_ble_eq_true rfl) ?_
          refine x_aload dX1_columnItem_114 rfl ?_
          refine x_ifnonnull 121 dX1_columnItem_116 rfl (fun hc => ?_) (fun hc => ?_)
          · have F := F.1 hc
            refine x_aload dX1_columnItem_121 rfl ?_
            refine x_aload dX1_columnItem_123 rfl ?_
            refine x_iload_n dX1_columnItem_125 rfl ?_
            refine x_iconst dX1_columnItem_126 rfl (i32_of rfl) ?_
            obtain ⟨hz, F⟩ := F
            refine x_iadd dX1_columnItem_127 hz ?_
            obtain ⟨hs9, hr9, F⟩ := F
            obtain ⟨P10, hC, F⟩ := F
            refine x_inv dX1_columnItem_128 mlX1_34 hC hs9 (Nat.le_of_ble_eq_true rfl) hr9 rfl rfl (by omega) (Nat.zero_le _) (Nat.zero_le _) (Nat.le_of_ble_eq_true rfl) (fun o1 Y13 w12 ht hP => ?_)
            obtain ⟨r11, rfl⟩ : ∃ i, o1 = some (1, i) := ht
            obtain ⟨hX, hP⟩ := hP
            have hX := Eq.symm hX
            subst hX
            have F := F r11 w12 hP
            obtain ⟨hs14, hr14, F⟩ := F
            obtain ⟨P15, hC, F⟩ := F
            refine x_inv dX1_columnItem_131 mlX1_106 hC hs14 (Nat.le_of_ble_eq_true rfl) hr14 rfl rfl (by omega) (Nat.zero_le _) (Nat.zero_le _) (Nat.le_of_ble_eq_true rfl) (fun o1 Y18 w17 ht hP => ?_)
            obtain ⟨r16, rfl⟩ : ∃ i, o1 = some (0, i) := ht
            obtain ⟨hX, hP⟩ := hP
            have hX := Eq.symm hX
            subst hX
            have F := F r16 w17 hP
            refine x_istore [(2, 32), (0, a1), (2, 4), (2, 37), (2, x4), (0, x5), (0, r6), (2, (X.2 37 r6)), (0, r16)] dX1_columnItem_134 rfl (Nat.le_of_ble_eq_true rfl) ?_
            refine x_iload dX1_columnItem_136 rfl ?_
            refine x_iconst dX1_columnItem_138 rfl (i32_of rfl) ?_
            refine x_icmp_ne 160 dX1_columnItem_139 rfl (fun hc => ?_) (fun hc => ?_)
            · have F := F.1 hc
              refine x_sipush dX1_columnItem_160 ks_1000 (i32_of rfl) ?_
              refine x_iload dX1_columnItem_163 rfl ?_
              refine x_bipush dX1_columnItem_165 kb_8 (i32_of rfl) ?_
              refine x_si32 (i := 1) rfl (fun hk1 => ?_)
              obtain ⟨hz, F⟩ := F
              have hz := hz hk1
              refine x_imul dX1_columnItem_167 hz ?_
              refine x_si32 (i := 0) rfl (fun hk0 => ?_)
              obtain ⟨hz, F⟩ := F
              have hz := hz hk0
              refine x_iadd dX1_columnItem_168 hz ?_
              refine x_iload dX1_columnItem_169 rfl ?_
              refine x_si32 (i := 0) rfl (fun hk0 => ?_)
              refine x_si32 (i := 1) rfl (fun hk1 => ?_)
              obtain ⟨hz, F⟩ := F
              have hz := hz hk0 hk1
              refine x_iadd dX1_columnItem_171 hz ?_
              exact x_ret (some (0, ((1000 + (r6 * 8)) + r16))) rfl ⟨dX1_columnItem_172, Or.inl rfl⟩ F
            · have F := F.2 hc
              refine x_aload_n dX1_columnItem_142 rfl ?_
              refine x_iconst dX1_columnItem_143 rfl (i32_of rfl) ?_
              refine x_aload dX1_columnItem_144 rfl ?_
              refine x_getr (r' := (X.2 x4 1)) flX1_44 dX1_columnItem_146 hs9 hr9 rfl rfl (Nat.le_of_ble_eq_true rfl) ?_
              refine x_iload_n dX1_columnItem_149 rfl ?_
              refine x_iconst dX1_columnItem_150 rfl (i32_of rfl) ?_
              obtain ⟨hz, F⟩ := F
              refine x_iadd dX1_columnItem_151 hz ?_
              obtain ⟨hs19, hr19, F⟩ := F
              obtain ⟨P20, hC, F⟩ := F
              refine x_inv dX1_columnItem_152 mlX1_48 hC hs19 (Nat.le_of_ble_eq_true rfl) hr19 rfl rfl (by omega) (Nat.zero_le _) (Nat.zero_le _) (Nat.le_of_ble_eq_true rfl) (fun o1 Y23 w22 ht hP => ?_)
              obtain ⟨r21, rfl⟩ : ∃ i, o1 = some (0, i) := ht
              obtain ⟨hX, hP⟩ := hP
              have hX := Eq.symm hX
              subst hX
              have F := F r21 w22 hP
              obtain ⟨P24, hC, F⟩ := F
              refine x_inv dX1_columnItem_155 mlX1_54 hC (sW32 hW) (Nat.le_of_ble_eq_true rfl) (gW32 hW) rfl rfl (by omega) (Nat.zero_le _) (Nat.zero_le _) (Nat.le_of_ble_eq_true rfl) (fun o1 Y27 w26 ht hP => ?_)
              obtain rfl : o1 = none := ht
              obtain ⟨hX, hP⟩ := hP
              have hX := Eq.symm hX
              subst hX
              have F := F w26 hP
              refine x_iconst dX1_columnItem_158 rfl (i32_of rfl) ?_
              exact x_ret (some (0, 0)) rfl ⟨dX1_columnItem_159, Or.inl rfl⟩ F
          · have F := F.2 hc
            refine x_iconst dX1_columnItem_119 rfl (i32_of rfl) ?_
            exact x_ret (some (0, 0)) rfl ⟨dX1_columnItem_120, Or.inl rfl⟩ F
    · have F := F.2 hc
      refine x_aload_n dX1_columnItem_65 rfl ?_
      refine x_iconst dX1_columnItem_66 rfl (i32_of rfl) ?_
      refine x_aload dX1_columnItem_67 rfl ?_
      obtain ⟨hs28, hr28, F⟩ := F
      refine x_getr (r' := (X.2 x4 1)) flX1_44 dX1_columnItem_69 hs28 hr28 rfl rfl (Nat.le_of_ble_eq_true rfl) ?_
      refine x_iload_n dX1_columnItem_72 rfl ?_
      obtain ⟨hs29, hr29, F⟩ := F
      obtain ⟨P30, hC, F⟩ := F
      refine x_inv dX1_columnItem_73 mlX1_48 hC hs29 (Nat.le_of_ble_eq_true rfl) hr29 rfl rfl (by omega) (Nat.zero_le _) (Nat.zero_le _) (Nat.le_of_ble_eq_true rfl) (fun o1 Y33 w32 ht hP => ?_)
      obtain ⟨r31, rfl⟩ : ∃ i, o1 = some (0, i) := ht
      obtain ⟨hX, hP⟩ := hP
      have hX := Eq.symm hX
      subst hX
      have F := F r31 w32 hP
      obtain ⟨P34, hC, F⟩ := F
      refine x_inv dX1_columnItem_76 mlX1_54 hC (sW32 hW) (Nat.le_of_ble_eq_true rfl) (gW32 hW) rfl rfl (by omega) (Nat.zero_le _) (Nat.zero_le _) (Nat.le_of_ble_eq_true rfl) (fun o1 Y37 w36 ht hP => ?_)
      obtain rfl : o1 = none := ht
      obtain ⟨hX, hP⟩ := hP
      have hX := Eq.symm hX
      subst hX
      have F := F w36 hP
      refine x_iconst dX1_columnItem_79 rfl (i32_of rfl) ?_
      exact x_ret (some (0, 0)) rfl ⟨dX1_columnItem_80, Or.inl rfl⟩ F
  · have F := F.2 hc
    refine x_aload dX1_columnItem_25 rfl ?_
    refine x_aload_n dX1_columnItem_27 rfl ?_
    refine x_getr (r' := 21) flX1_65 dX1_columnItem_28 (sW4 hW) (gW4 hW) (rW4_3 hW) rfl (Nat.le_of_ble_eq_true rfl) ?_
    refine x_iload dX1_columnItem_31 rfl ?_
    obtain ⟨P38, hC, F⟩ := F
    refine x_inv dX1_columnItem_33 mlX1_48 hC (sW21 hW) (Nat.le_of_ble_eq_true rfl) (gW21 hW) rfl rfl (by omega) (Nat.zero_le _) (Nat.zero_le _) (Nat.le_of_ble_eq_true rfl) (fun o1 Y41 w40 ht hP => ?_)
    obtain ⟨r39, rfl⟩ : ∃ i, o1 = some (0, i) := ht
    obtain ⟨hX, hP⟩ := hP
    have hX := Eq.symm hX
    subst hX
    have F := F r39 w40 hP
    obtain ⟨hs42, hr42, F⟩ := F
    obtain ⟨P43, hC, F⟩ := F
    refine x_inv dX1_columnItem_36 mlX1_34 hC hs42 (Nat.le_of_ble_eq_true rfl) hr42 rfl rfl (by omega) (Nat.zero_le _) (Nat.zero_le _) (Nat.le_of_ble_eq_true rfl) (fun o1 Y46 w45 ht hP => ?_)
    obtain ⟨r44, rfl⟩ : ∃ i, o1 = some (1, i) := ht
    obtain ⟨hX, hP⟩ := hP
    have hX := Eq.symm hX
    subst hX
    have F := F r44 w45 hP
    refine x_aload dX1_columnItem_39 rfl ?_
    refine x_iload_n dX1_columnItem_41 rfl ?_
    obtain ⟨P47, hC, F⟩ := F
    refine x_inv dX1_columnItem_42 mlX1_34 hC hs42 (Nat.le_of_ble_eq_true rfl) hr42 rfl rfl (by omega) (Nat.zero_le _) (Nat.zero_le _) (Nat.le_of_ble_eq_true rfl) (fun o1 Y50 w49 ht hP => ?_)
    obtain ⟨r48, rfl⟩ : ∃ i, o1 = some (1, i) := ht
    obtain ⟨hX, hP⟩ := hP
    have hX := Eq.symm hX
    subst hX
    have F := F r48 w49 hP
    refine x_lcmp dX1_columnItem_45 (fun z51 hz511 hz512 hz513 => ?_)
    refine x_if_ne 53 dX1_columnItem_46 rfl (fun hc => ?_) (fun hc => ?_)
    · have F := F.1 (fun q => hc (hz511.mpr q))
      obtain ⟨hz, F⟩ := F
      refine x_iinc [(2, 32), (0, a1), (2, 4), (2, 37), (2, x4), (0, x5), (0, (x6 + (-1))), (3, 0), (3, 0)] dX1_columnItem_53 rfl rfl (Nat.le_of_ble_eq_true rfl) hz ?_
      refine x_goto 20 dX1_columnItem_56 rfl ?_
      exact F
    · have F := F.2 (hz511.mp hc)
      refine x_iload dX1_columnItem_49 rfl ?_
      refine x_istore [(2, 32), (0, a1), (2, 4), (2, 37), (2, x4), (0, x6), (0, x6), (3, 0), (3, 0)] dX1_columnItem_51 rfl (Nat.le_of_ble_eq_true rfl) ?_
      obtain ⟨hz, F⟩ := F
      refine x_iinc [(2, 32), (0, a1), (2, 4), (2, 37), (2, x4), (0, x6), (0, (x6 + (-1))), (3, 0), (3, 0)] dX1_columnItem_53 rfl rfl (Nat.le_of_ble_eq_true rfl) hz ?_
      refine x_goto 20 dX1_columnItem_56 rfl ?_
      exact F

set_option maxRecDepth 100000 in
set_option maxHeartbeats 4000000 in
theorem bX1_columnItem_111 {d mc ms : Nat} {X : XX} {v : VV} {Q : QQ} (a1 : Int) (x4 : Int) (x5 : Int) (x6 : Int) (hd : 1 ≤ d) (hW : SW X) (F : i32 a1 → i32 x5 → i32 x6 → Q (some (0, 0)) X v) : Ex mX1_columnItem d 111 [(2, 32), (0, a1), (2, 4), (2, 37), (2, x4), (0, x5), (0, x6), (3, 0), (3, 0)] [] X v mc ms Q := by
  refine x_li32 (i := 1) rfl (fun ha1 => ?_)
  have F := F ha1
  refine x_li32 (i := 5) rfl (fun hx5 => ?_)
  have F := F hx5
  refine x_li32 (i := 6) rfl (fun hx6 => ?_)
  have F := F hx6
  refine x_null dX1_columnItem_111 ?_
  refine x_astore [(2, 32), (0, a1), (2, 4), (2, 37), (2, x4), (0, x5), (0, x6), (2, (-1)), (3, 0)] dX1_columnItem_112 rfl (Nat.le_of_ble_eq_true rfl) ?_
  refine x_aload dX1_columnItem_114 rfl ?_
  refine x_ifnonnull 121 dX1_columnItem_116 rfl (fun hc => absurd rfl hc) (fun _ => ?_)
  refine x_iconst dX1_columnItem_119 rfl (i32_of rfl) ?_
  exact x_ret (some (0, 0)) rfl ⟨dX1_columnItem_120, Or.inl rfl⟩ F

set_option maxRecDepth 100000 in
set_option maxHeartbeats 4000000 in
theorem bX1_noteTypes_0 {d mc ms : Nat} {X : XX} {v : VV} {Q : QQ} (hd : 4 ≤ d) (hW : SW X) (F : Ex mX1_noteTypes d 2 [(2, 32), (2, 4), (2, 38), (0, 0), (3, 0)] [] X v mc ms Q) : Ex mX1_noteTypes d 0 [(2, 32), (2, 4), (2, 38), (3, 0), (3, 0)] [] X v mc ms Q := by
  refine x_iconst dX1_noteTypes_0 rfl (i32_of rfl) ?_
  refine x_istore_n [(2, 32), (2, 4), (2, 38), (0, 0), (3, 0)] dX1_noteTypes_1 rfl (Nat.le_of_ble_eq_true rfl) ?_
  exact F

set_option maxRecDepth 100000 in
set_option maxHeartbeats 4000000 in
theorem bX1_noteTypes_2 {d mc ms : Nat} {X : XX} {v : VV} {Q : QQ} (x3 : Int) (hd : 4 ≤ d) (hW : SW X) (F : i32 x3 → (((6 < x3) → Q none X v) ∧ ((x3 ≤ 6) → ∃ P1 : Option AV → VV → Prop, Con mX9_typeOfPart 3 0 0 [(2, 33), (2, 25), (0, x3), (2, 38)] X v (fun o X1 v1 => X1 = X ∧ P1 o v1) ∧ ∀ (r2 : Int) (w3 : VV), P1 (some (0, r2)) w3 → ∃ P5 : Option AV → VV → Prop, Con mX6_size 0 0 0 [(2, 17)] X w3 (fun o X1 v1 => X1 = X ∧ P5 o v1) ∧ ∀ (r6 : Int) (w7 : VV), P5 (some (0, r6)) w7 → (((r6 ≤ x3) → Ex mX1_noteTypes d 43 [(2, 32), (2, 4), (2, 38), (0, x3), (0, r2)] [] X w7 mc ms Q) ∧ ((x3 < r6) → ∃ P9 : Option AV → VV → Prop, Con mX6_add 0 0 0 [(2, 19), (0, r2)] X w7 (fun o X1 v1 => X1 = X ∧ P9 o v1) ∧ ∀ (w11 : VV), P9 none w11 → Ex mX1_noteTypes d 43 [(2, 32), (2, 4), (2, 38), (0, x3), (0, r2)] [] X w11 mc ms Q))))) : Ex mX1_noteTypes d 2 [(2, 32), (2, 4), (2, 38), (0, x3), (3, 0)] [] X v mc ms Q := by
  refine x_li32 (i := 3) rfl (fun hx3 => ?_)
  have F := F hx3
  refine x_iload_n dX1_noteTypes_2 rfl ?_
  refine x_bipush dX1_noteTypes_3 kb_6 (i32_of rfl) ?_
  refine x_icmp_gt 72 dX1_noteTypes_5 rfl (fun hc => ?_) (fun hc => ?_)
  · have F := F.1 hc
    exact x_ret none rfl ⟨dX1_noteTypes_72, rfl⟩ F
  · have F := F.2 hc
    refine x_aload_n dX1_noteTypes_8 rfl ?_
    refine x_getr (r' := 33) flX1_12 dX1_noteTypes_9 (sW32 hW) (gW32 hW) (rW32_0 hW) rfl (Nat.le_of_ble_eq_true rfl) ?_
    refine x_aload_n dX1_noteTypes_12 rfl ?_
    refine x_getr (r' := 25) flX1_72 dX1_noteTypes_13 (sW4 hW) (gW4 hW) (rW4_5 hW) rfl (Nat.le_of_ble_eq_true rfl) ?_
    refine x_iload_n dX1_noteTypes_16 rfl ?_
    refine x_aload_n dX1_noteTypes_17 rfl ?_
    obtain ⟨P1, hC, F⟩ := F
    refine x_inv dX1_noteTypes_18 mlX1_112 hC (sW33 hW) (Nat.le_of_ble_eq_true rfl) (gW33 hW) rfl rfl (by omega) (Nat.zero_le _) (Nat.zero_le _) (Nat.le_of_ble_eq_true rfl) (fun o1 Y4 w3 ht hP => ?_)
    obtain ⟨r2, rfl⟩ : ∃ i, o1 = some (0, i) := ht
    obtain ⟨hX, hP⟩ := hP
    have hX := Eq.symm hX
    subst hX
    have F := F r2 w3 hP
    refine x_istore [(2, 32), (2, 4), (2, 38), (0, x3), (0, r2)] dX1_noteTypes_21 rfl (Nat.le_of_ble_eq_true rfl) ?_
    refine x_iload_n dX1_noteTypes_23 rfl ?_
    refine x_aload_n dX1_noteTypes_24 rfl ?_
    refine x_getr (r' := 17) flX1_58 dX1_noteTypes_25 (sW4 hW) (gW4 hW) (rW4_1 hW) rfl (Nat.le_of_ble_eq_true rfl) ?_
    obtain ⟨P5, hC, F⟩ := F
    refine x_inv dX1_noteTypes_28 mlX1_81 hC (sW17 hW) (Nat.le_of_ble_eq_true rfl) (gW17 hW) rfl rfl (by omega) (Nat.zero_le _) (Nat.zero_le _) (Nat.le_of_ble_eq_true rfl) (fun o1 Y8 w7 ht hP => ?_)
    obtain ⟨r6, rfl⟩ : ∃ i, o1 = some (0, i) := ht
    obtain ⟨hX, hP⟩ := hP
    have hX := Eq.symm hX
    subst hX
    have F := F r6 w7 hP
    refine x_icmp_ge 43 dX1_noteTypes_31 rfl (fun hc => ?_) (fun hc => ?_)
    · have F := F.1 hc
      exact F
    · have F := F.2 hc
      refine x_aload_n dX1_noteTypes_34 rfl ?_
      refine x_getr (r' := 19) flX1_116 dX1_noteTypes_35 (sW4 hW) (gW4 hW) (rW4_2 hW) rfl (Nat.le_of_ble_eq_true rfl) ?_
      refine x_iload dX1_noteTypes_38 rfl ?_
      obtain ⟨P9, hC, F⟩ := F
      refine x_inv dX1_noteTypes_40 mlX1_102 hC (sW19 hW) (Nat.le_of_ble_eq_true rfl) (gW19 hW) rfl rfl (by omega) (Nat.zero_le _) (Nat.zero_le _) (Nat.le_of_ble_eq_true rfl) (fun o1 Y12 w11 ht hP => ?_)
      obtain rfl : o1 = none := ht
      obtain ⟨hX, hP⟩ := hP
      have hX := Eq.symm hX
      subst hX
      have F := F w11 hP
      exact F

set_option maxRecDepth 100000 in
set_option maxHeartbeats 4000000 in
theorem bX1_noteTypes_43 {d mc ms : Nat} {X : XX} {v : VV} {Q : QQ} (x3 : Int) (x4 : Int) (hd : 4 ≤ d) (hW : SW X) (F : i32 x3 → i32 x4 → ((((v 33 2) = (-1)) → i32 (x3 + 1) ∧ Ex mX1_noteTypes d 2 [(2, 32), (2, 4), (2, 38), (0, (x3 + 1)), (3, 0)] [] X v mc ms Q) ∧ ((¬ (v 33 2) = (-1)) → ∃ P13 : Option AV → VV → Prop, Con mX1_note 0 0 0 [(2, 32), (0, 3), (0, (v 33 2))] X v (fun o X1 v1 => X1 = X ∧ P13 o v1) ∧ ∀ (w15 : VV), P13 none w15 → i32 (x3 + 1) ∧ Ex mX1_noteTypes d 2 [(2, 32), (2, 4), (2, 38), (0, (x3 + 1)), (3, 0)] [] X w15 mc ms Q))) : Ex mX1_noteTypes d 43 [(2, 32), (2, 4), (2, 38), (0, x3), (0, x4)] [] X v mc ms Q := by
  refine x_li32 (i := 3) rfl (fun hx3 => ?_)
  have F := F hx3
  refine x_li32 (i := 4) rfl (fun hx4 => ?_)
  have F := F hx4
  refine x_aload_n dX1_noteTypes_43 rfl ?_
  refine x_getr (r' := 33) flX1_12 dX1_noteTypes_44 (sW32 hW) (gW32 hW) (rW32_0 hW) rfl (Nat.le_of_ble_eq_true rfl) ?_
  refine x_geti (e := (v 33 2)) 0 flX1_119 dX1_noteTypes_47 (sW33 hW) (gW33 hW) rfl rfl (Nat.le_of_ble_eq_true rfl) (tagn2 rfl) ?_
  refine x_iconst dX1_noteTypes_50 rfl (i32_of rfl) ?_
  refine x_icmp_eq 66 dX1_noteTypes_51 rfl (fun hc => ?_) (fun hc => ?_)
  · have F := F.1 hc
    obtain ⟨hz, F⟩ := F
    refine x_iinc [(2, 32), (2, 4), (2, 38), (0, (x3 + 1)), (0, x4)] dX1_noteTypes_66 rfl rfl (Nat.le_of_ble_eq_true rfl) hz ?_
    refine x_goto 2 dX1_noteTypes_69 rfl ?_
    exact x_less [(2, 32), (2, 4), (2, 38), (0, (x3 + 1)), (3, 0)] ⟨Or.inr rfl, ⟨Or.inr rfl, ⟨Or.inr rfl, ⟨Or.inr rfl, ⟨Or.inl rfl, trivial⟩⟩⟩⟩⟩ F
  · have F := F.2 hc
    refine x_aload_n dX1_noteTypes_54 rfl ?_
    refine x_iconst dX1_noteTypes_55 rfl (i32_of rfl) ?_
    refine x_aload_n dX1_noteTypes_56 rfl ?_
    refine x_getr (r' := 33) flX1_12 dX1_noteTypes_57 (sW32 hW) (gW32 hW) (rW32_0 hW) rfl (Nat.le_of_ble_eq_true rfl) ?_
    refine x_geti (e := (v 33 2)) 0 flX1_119 dX1_noteTypes_60 (sW33 hW) (gW33 hW) rfl rfl (Nat.le_of_ble_eq_true rfl) (tagn2 rfl) ?_
    obtain ⟨P13, hC, F⟩ := F
    refine x_inv dX1_noteTypes_63 mlX1_54 hC (sW32 hW) (Nat.le_of_ble_eq_true rfl) (gW32 hW) rfl rfl (by omega) (Nat.zero_le _) (Nat.zero_le _) (Nat.le_of_ble_eq_true rfl) (fun o1 Y16 w15 ht hP => ?_)
    obtain rfl : o1 = none := ht
    obtain ⟨hX, hP⟩ := hP
    have hX := Eq.symm hX
    subst hX
    have F := F w15 hP
    obtain ⟨hz, F⟩ := F
    refine x_iinc [(2, 32), (2, 4), (2, 38), (0, (x3 + 1)), (0, x4)] dX1_noteTypes_66 rfl rfl (Nat.le_of_ble_eq_true rfl) hz ?_
    refine x_goto 2 dX1_noteTypes_69 rfl ?_
    exact x_less [(2, 32), (2, 4), (2, 38), (0, (x3 + 1)), (3, 0)] ⟨Or.inr rfl, ⟨Or.inr rfl, ⟨Or.inr rfl, ⟨Or.inr rfl, ⟨Or.inl rfl, trivial⟩⟩⟩⟩⟩ F

set_option maxRecDepth 100000 in
set_option maxHeartbeats 4000000 in
theorem bX2_clear_0 {d mc ms : Nat} {X : XX} {v : VV} {Q : QQ} (hd : 0 ≤ d) (hW : SW X) (F : Ex mX2_clear d 2 [(2, 41), (0, 0)] [] X v mc ms Q) : Ex mX2_clear d 0 [(2, 41), (3, 0)] [] X v mc ms Q := by
  refine x_iconst dX2_clear_0 rfl (i32_of rfl) ?_
  refine x_istore_n [(2, 41), (0, 0)] dX2_clear_1 rfl (Nat.le_of_ble_eq_true rfl) ?_
  exact F

set_option maxRecDepth 100000 in
set_option maxHeartbeats 4000000 in
theorem bX2_clear_2 {d mc ms : Nat} {X : XX} {v : VV} {Q : QQ} (x1 : Int) (hd : 0 ≤ d) (hW : SW X) (F : i32 x1 → (((16 ≤ x1) → Q none X v) ∧ ((x1 < 16) → (0 ≤ x1 ∧ x1 < 16) ∧ i32 (x1 + 1) ∧ Ex mX2_clear d 2 [(2, 41), (0, (x1 + 1))] [] X (upd2 v 42 x1 0) mc ms Q))) : Ex mX2_clear d 2 [(2, 41), (0, x1)] [] X v mc ms Q := by
  refine x_li32 (i := 1) rfl (fun hx1 => ?_)
  have F := F hx1
  refine x_iload_n dX2_clear_2 rfl ?_
  refine x_aload_n dX2_clear_3 rfl ?_
  refine x_getr (r' := 42) flX2_9 dX2_clear_4 (sW41 hW) (gW41 hW) (rW41_0 hW) rfl (Nat.le_of_ble_eq_true rfl) ?_
  refine x_alen dX2_clear_7 (sW42 hW) (by decide) (gW42 hW) (fun hlen => ?_)
  refine x_icmp_ge 24 dX2_clear_8 rfl (fun hc => ?_) (fun hc => ?_)
  · have F := F.1 hc
    exact x_ret none rfl ⟨dX2_clear_24, rfl⟩ F
  · have F := F.2 hc
    refine x_aload_n dX2_clear_11 rfl ?_
    refine x_getr (r' := 42) flX2_9 dX2_clear_12 (sW41 hW) (gW41 hW) (rW41_0 hW) rfl (Nat.le_of_ble_eq_true rfl) ?_
    refine x_iload_n dX2_clear_15 rfl ?_
    refine x_iconst dX2_clear_16 rfl (i32_of rfl) ?_
    obtain ⟨hi, F⟩ := F
    refine x_iast dX2_clear_17 (sW42 hW) (gW42 hW) hi ?_
    obtain ⟨hz, F⟩ := F
    refine x_iinc [(2, 41), (0, (x1 + 1))] dX2_clear_18 rfl rfl (Nat.le_of_ble_eq_true rfl) hz ?_
    refine x_goto 2 dX2_clear_21 rfl ?_
    exact F

set_option maxRecDepth 100000 in
set_option maxHeartbeats 4000000 in
theorem bX2_bitsOf_0 {d mc ms : Nat} {X : XX} {v : VV} {Q : QQ} (a1 : Int) (hd : 0 ≤ d) (hW : SW X) (F : i32 a1 → (((a1 < 0) → Q (some (0, 0)) X v) ∧ ((0 ≤ a1) → (((16 ≤ a1) → Q (some (0, 0)) X v) ∧ ((a1 < 16) → (0 ≤ a1 ∧ a1 < 16) ∧ Q (some (0, (v 42 a1))) X v))))) : Ex mX2_bitsOf d 0 [(2, 41), (0, a1)] [] X v mc ms Q := by
  refine x_li32 (i := 1) rfl (fun ha1 => ?_)
  have F := F ha1
  refine x_iload_n dX2_bitsOf_0 rfl ?_
  refine x_if_lt 22 dX2_bitsOf_1 rfl (fun hc => ?_) (fun hc => ?_)
  · have F := F.1 hc
    refine x_iconst dX2_bitsOf_22 rfl (i32_of rfl) ?_
    exact x_ret (some (0, 0)) rfl ⟨dX2_bitsOf_23, Or.inl rfl⟩ F
  · have F := F.2 hc
    refine x_iload_n dX2_bitsOf_4 rfl ?_
    refine x_aload_n dX2_bitsOf_5 rfl ?_
    refine x_getr (r' := 42) flX2_9 dX2_bitsOf_6 (sW41 hW) (gW41 hW) (rW41_0 hW) rfl (Nat.le_of_ble_eq_true rfl) ?_
    refine x_alen dX2_bitsOf_9 (sW42 hW) (by decide) (gW42 hW) (fun hlen => ?_)
    refine x_icmp_ge 22 dX2_bitsOf_10 rfl (fun hc => ?_) (fun hc => ?_)
    · have F := F.1 hc
      refine x_iconst dX2_bitsOf_22 rfl (i32_of rfl) ?_
      exact x_ret (some (0, 0)) rfl ⟨dX2_bitsOf_23, Or.inl rfl⟩ F
    · have F := F.2 hc
      refine x_aload_n dX2_bitsOf_13 rfl ?_
      refine x_getr (r' := 42) flX2_9 dX2_bitsOf_14 (sW41 hW) (gW41 hW) (rW41_0 hW) rfl (Nat.le_of_ble_eq_true rfl) ?_
      refine x_iload_n dX2_bitsOf_17 rfl ?_
      obtain ⟨hi, F⟩ := F
      refine x_iald (e := (v 42 a1)) dX2_bitsOf_18 (sW42 hW) (gW42 hW) hi rfl ?_
      refine x_goto 23 dX2_bitsOf_19 rfl ?_
      exact x_ret (some (0, (v 42 a1))) rfl ⟨dX2_bitsOf_23, Or.inl rfl⟩ F

set_option maxRecDepth 100000 in
set_option maxHeartbeats 4000000 in
theorem bX2_has_0 {d mc ms : Nat} {X : XX} {v : VV} {Q : QQ} (a1 : Int) (hd : 1 ≤ d) (hW : SW X) (F : i32 a1 → (((a1 < 0) → Q (some (0, 0)) X v) ∧ ((0 ≤ a1) → (0 ≤ a1) ∧ ∃ P1 : Option AV → VV → Prop, Con mX2_bitsOf 0 0 0 [(2, 41), (0, (a1 / 8))] X v (fun o X1 v1 => X1 = X ∧ P1 o v1) ∧ ∀ (r2 : Int) (w3 : VV), P1 (some (0, r2)) w3 → (0 ≤ a1) ∧ ∀ z5 : Int, Int32.ofInt r2 >>> (Int32.ofInt (a1 % 8) &&& 31) = Int32.ofInt z5 → i32 z5 → ∀ z6 : Int, Int32.ofInt z5 &&& Int32.ofInt 1 = Int32.ofInt z6 → i32 z6 → (((z6 = 0) → Q (some (0, 0)) X w3) ∧ ((¬ z6 = 0) → Q (some (0, 1)) X w3))))) : Ex mX2_has d 0 [(2, 41), (0, a1)] [] X v mc ms Q := by
  refine x_li32 (i := 1) rfl (fun ha1 => ?_)
  have F := F ha1
  refine x_iload_n dX2_has_0 rfl ?_
  refine x_if_lt 26 dX2_has_1 rfl (fun hc => ?_) (fun hc => ?_)
  · have F := F.1 hc
    refine x_iconst dX2_has_26 rfl (i32_of rfl) ?_
    exact x_ret (some (0, 0)) rfl ⟨dX2_has_27, Or.inr ⟨rfl, Or.inl rfl⟩⟩ F
  · have F := F.2 hc
    refine x_aload_n dX2_has_4 rfl ?_
    refine x_iload_n dX2_has_5 rfl ?_
    refine x_bipush dX2_has_6 kb_8 (i32_of rfl) ?_
    obtain ⟨hz, F⟩ := F
    refine x_si32 (i := 0) rfl (fun hk0 => ?_)
    refine x_si32 (i := 1) rfl (fun hk1 => ?_)
    refine x_idiv (z := (a1 / 8)) dX2_has_8 (idiv_ne hk0 (by decide)) (idiv_nn hk1 hk0 hz (by decide)) (idiv_ok hk1 hk0 hz (by decide)) ?_
    obtain ⟨P1, hC, F⟩ := F
    refine x_inv dX2_has_9 mlX2_15 hC (sW41 hW) (Nat.le_of_ble_eq_true rfl) (gW41 hW) rfl rfl (by omega) (Nat.zero_le _) (Nat.zero_le _) (Nat.le_of_ble_eq_true rfl) (fun o1 Y4 w3 ht hP => ?_)
    obtain ⟨r2, rfl⟩ : ∃ i, o1 = some (0, i) := ht
    obtain ⟨hX, hP⟩ := hP
    have hX := Eq.symm hX
    subst hX
    have F := F r2 w3 hP
    refine x_iload_n dX2_has_12 rfl ?_
    refine x_bipush dX2_has_13 kb_8 (i32_of rfl) ?_
    obtain ⟨hz, F⟩ := F
    refine x_si32 (i := 0) rfl (fun hk0 => ?_)
    refine x_si32 (i := 1) rfl (fun hk1 => ?_)
    refine x_irem (z := (a1 % 8)) dX2_has_15 (irem_ne hk0 (by decide)) (irem_nn hk1 hk0 hz (by decide)) (irem_ok hk1 hk0 hz (by decide)) ?_
    obtain ⟨z5, ez5, hz5⟩ := i32_ex (Int32.ofInt r2 >>> (Int32.ofInt (a1 % 8) &&& 31))
    have F := F z5 ez5 hz5
    refine x_ishr (z := z5) dX2_has_16 ez5 hz5 ?_
    refine x_iconst dX2_has_17 rfl (i32_of rfl) ?_
    obtain ⟨z6, ez6, hz6⟩ := i32_ex (Int32.ofInt z5 &&& Int32.ofInt 1)
    have F := F z6 ez6 hz6
    refine x_iand (z := z6) dX2_has_18 ez6 hz6 ?_
    refine x_if_eq 26 dX2_has_19 rfl (fun hc => ?_) (fun hc => ?_)
    · have F := F.1 hc
      refine x_iconst dX2_has_26 rfl (i32_of rfl) ?_
      exact x_ret (some (0, 0)) rfl ⟨dX2_has_27, Or.inr ⟨rfl, Or.inl rfl⟩⟩ F
    · have F := F.2 hc
      refine x_iconst dX2_has_22 rfl (i32_of rfl) ?_
      refine x_goto 27 dX2_has_23 rfl ?_
      exact x_ret (some (0, 1)) rfl ⟨dX2_has_27, Or.inr ⟨rfl, Or.inr rfl⟩⟩ F

set_option maxRecDepth 100000 in
set_option maxHeartbeats 4000000 in
theorem bX2_add_0 {d mc ms : Nat} {X : XX} {v : VV} {Q : QQ} (a1 : Int) (hd : 0 ≤ d) (hW : SW X) (F : i32 a1 → (((a1 < 0) → Q none X v) ∧ ((0 ≤ a1) → (((128 ≤ a1) → Q none X v) ∧ ((a1 < 128) → (0 ≤ a1) ∧ (0 ≤ (a1 / 8) ∧ (a1 / 8) < 16) ∧ (0 ≤ a1) ∧ ∀ z1 : Int, Int32.ofInt 1 <<< (Int32.ofInt (a1 % 8) &&& 31) = Int32.ofInt z1 → i32 z1 → ∀ z2 : Int, Int32.ofInt (v 42 (a1 / 8)) ||| Int32.ofInt z1 = Int32.ofInt z2 → i32 z2 → (0 ≤ (a1 / 8) ∧ (a1 / 8) < 16) ∧ Q none X (upd2 v 42 (a1 / 8) z2)))))) : Ex mX2_add d 0 [(2, 41), (0, a1)] [] X v mc ms Q := by
  refine x_li32 (i := 1) rfl (fun ha1 => ?_)
  have F := F ha1
  refine x_iload_n dX2_add_0 rfl ?_
  refine x_if_lt 29 dX2_add_1 rfl (fun hc => ?_) (fun hc => ?_)
  · have F := F.1 hc
    exact x_ret none rfl ⟨dX2_add_29, rfl⟩ F
  · have F := F.2 hc
    refine x_iload_n dX2_add_4 rfl ?_
    refine x_sipush dX2_add_5 ks_128 (i32_of rfl) ?_
    refine x_icmp_ge 29 dX2_add_8 rfl (fun hc => ?_) (fun hc => ?_)
    · have F := F.1 hc
      exact x_ret none rfl ⟨dX2_add_29, rfl⟩ F
    · have F := F.2 hc
      refine x_aload_n dX2_add_11 rfl ?_
      refine x_getr (r' := 42) flX2_9 dX2_add_12 (sW41 hW) (gW41 hW) (rW41_0 hW) rfl (Nat.le_of_ble_eq_true rfl) ?_
      refine x_iload_n dX2_add_15 rfl ?_
      refine x_bipush dX2_add_16 kb_8 (i32_of rfl) ?_
      obtain ⟨hz, F⟩ := F
      refine x_si32 (i := 0) rfl (fun hk0 => ?_)
      refine x_si32 (i := 1) rfl (fun hk1 => ?_)
      refine x_idiv (z := (a1 / 8)) dX2_add_18 (idiv_ne hk0 (by decide)) (idiv_nn hk1 hk0 hz (by decide)) (idiv_ok hk1 hk0 hz (by decide)) ?_
      refine x_dup2 dX2_add_19 (tag1 rfl) (tag1 rfl) ?_
      obtain ⟨hi, F⟩ := F
      refine x_iald (e := (v 42 (a1 / 8))) dX2_add_20 (sW42 hW) (gW42 hW) hi rfl ?_
      refine x_iconst dX2_add_21 rfl (i32_of rfl) ?_
      refine x_iload_n dX2_add_22 rfl ?_
      refine x_bipush dX2_add_23 kb_8 (i32_of rfl) ?_
      obtain ⟨hz, F⟩ := F
      refine x_si32 (i := 0) rfl (fun hk0 => ?_)
      refine x_si32 (i := 1) rfl (fun hk1 => ?_)
      refine x_irem (z := (a1 % 8)) dX2_add_25 (irem_ne hk0 (by decide)) (irem_nn hk1 hk0 hz (by decide)) (irem_ok hk1 hk0 hz (by decide)) ?_
      obtain ⟨z1, ez1, hz1⟩ := i32_ex (Int32.ofInt 1 <<< (Int32.ofInt (a1 % 8) &&& 31))
      have F := F z1 ez1 hz1
      refine x_ishl (z := z1) dX2_add_26 ez1 hz1 ?_
      obtain ⟨z2, ez2, hz2⟩ := i32_ex (Int32.ofInt (v 42 (a1 / 8)) ||| Int32.ofInt z1)
      have F := F z2 ez2 hz2
      refine x_ior (z := z2) dX2_add_27 ez2 hz2 ?_
      obtain ⟨hi, F⟩ := F
      refine x_iast dX2_add_28 (sW42 hW) (gW42 hW) hi ?_
      exact x_ret none rfl ⟨dX2_add_29, rfl⟩ F

set_option maxRecDepth 100000 in
set_option maxHeartbeats 4000000 in
theorem bX2_remove_0 {d mc ms : Nat} {X : XX} {v : VV} {Q : QQ} (a1 : Int) (hd : 0 ≤ d) (hW : SW X) (F : i32 a1 → (((a1 < 0) → Q none X v) ∧ ((0 ≤ a1) → (((128 ≤ a1) → Q none X v) ∧ ((a1 < 128) → (0 ≤ a1) ∧ (0 ≤ (a1 / 8) ∧ (a1 / 8) < 16) ∧ (0 ≤ a1) ∧ ∀ z1 : Int, Int32.ofInt 1 <<< (Int32.ofInt (a1 % 8) &&& 31) = Int32.ofInt z1 → i32 z1 → ∀ z2 : Int, Int32.ofInt z1 ^^^ Int32.ofInt (-1) = Int32.ofInt z2 → i32 z2 → ∀ z3 : Int, Int32.ofInt (v 42 (a1 / 8)) &&& Int32.ofInt z2 = Int32.ofInt z3 → i32 z3 → (0 ≤ (a1 / 8) ∧ (a1 / 8) < 16) ∧ Q none X (upd2 v 42 (a1 / 8) z3)))))) : Ex mX2_remove d 0 [(2, 41), (0, a1)] [] X v mc ms Q := by
  refine x_li32 (i := 1) rfl (fun ha1 => ?_)
  have F := F ha1
  refine x_iload_n dX2_remove_0 rfl ?_
  refine x_if_lt 31 dX2_remove_1 rfl (fun hc => ?_) (fun hc => ?_)
  · have F := F.1 hc
    exact x_ret none rfl ⟨dX2_remove_31, rfl⟩ F
  · have F := F.2 hc
    refine x_iload_n dX2_remove_4 rfl ?_
    refine x_sipush dX2_remove_5 ks_128 (i32_of rfl) ?_
    refine x_icmp_ge 31 dX2_remove_8 rfl (fun hc => ?_) (fun hc => ?_)
    · have F := F.1 hc
      exact x_ret none rfl ⟨dX2_remove_31, rfl⟩ F
    · have F := F.2 hc
      refine x_aload_n dX2_remove_11 rfl ?_
      refine x_getr (r' := 42) flX2_9 dX2_remove_12 (sW41 hW) (gW41 hW) (rW41_0 hW) rfl (Nat.le_of_ble_eq_true rfl) ?_
      refine x_iload_n dX2_remove_15 rfl ?_
      refine x_bipush dX2_remove_16 kb_8 (i32_of rfl) ?_
      obtain ⟨hz, F⟩ := F
      refine x_si32 (i := 0) rfl (fun hk0 => ?_)
      refine x_si32 (i := 1) rfl (fun hk1 => ?_)
      refine x_idiv (z := (a1 / 8)) dX2_remove_18 (idiv_ne hk0 (by decide)) (idiv_nn hk1 hk0 hz (by decide)) (idiv_ok hk1 hk0 hz (by decide)) ?_
      refine x_dup2 dX2_remove_19 (tag1 rfl) (tag1 rfl) ?_
      obtain ⟨hi, F⟩ := F
      refine x_iald (e := (v 42 (a1 / 8))) dX2_remove_20 (sW42 hW) (gW42 hW) hi rfl ?_
      refine x_iconst dX2_remove_21 rfl (i32_of rfl) ?_
      refine x_iload_n dX2_remove_22 rfl ?_
      refine x_bipush dX2_remove_23 kb_8 (i32_of rfl) ?_
      obtain ⟨hz, F⟩ := F
      refine x_si32 (i := 0) rfl (fun hk0 => ?_)
      refine x_si32 (i := 1) rfl (fun hk1 => ?_)
      refine x_irem (z := (a1 % 8)) dX2_remove_25 (irem_ne hk0 (by decide)) (irem_nn hk1 hk0 hz (by decide)) (irem_ok hk1 hk0 hz (by decide)) ?_
      obtain ⟨z1, ez1, hz1⟩ := i32_ex (Int32.ofInt 1 <<< (Int32.ofInt (a1 % 8) &&& 31))
      have F := F z1 ez1 hz1
      refine x_ishl (z := z1) dX2_remove_26 ez1 hz1 ?_
      refine x_iconst dX2_remove_27 rfl (i32_of rfl) ?_
      obtain ⟨z2, ez2, hz2⟩ := i32_ex (Int32.ofInt z1 ^^^ Int32.ofInt (-1))
      have F := F z2 ez2 hz2
      refine x_ixor (z := z2) dX2_remove_28 ez2 hz2 ?_
      obtain ⟨z3, ez3, hz3⟩ := i32_ex (Int32.ofInt (v 42 (a1 / 8)) &&& Int32.ofInt z2)
      have F := F z3 ez3 hz3
      refine x_iand (z := z3) dX2_remove_29 ez3 hz3 ?_
      obtain ⟨hi, F⟩ := F
      refine x_iast dX2_remove_30 (sW42 hW) (gW42 hW) hi ?_
      exact x_ret none rfl ⟨dX2_remove_31, rfl⟩ F

set_option maxRecDepth 100000 in
set_option maxHeartbeats 4000000 in
theorem bX3_clear_0 {d mc ms : Nat} {X : XX} {v : VV} {Q : QQ} (hd : 2 ≤ d) (hW : SW X) (F : ∃ P1 : Option AV → VV → Prop, Con mX6_cutTo 0 0 0 [(2, 17), (0, 0)] X v (fun o X1 v1 => X1 = X ∧ P1 o v1) ∧ ∀ (w3 : VV), P1 none w3 → ∃ P5 : Option AV → VV → Prop, Con mX6_cutTo 0 0 0 [(2, 19), (0, 0)] X w3 (fun o X1 v1 => X1 = X ∧ P5 o v1) ∧ ∀ (w7 : VV), P5 none w7 → ∃ P9 : Option AV → VV → Prop, Con mX6_cutTo 0 0 0 [(2, 21), (0, 0)] X w7 (fun o X1 v1 => X1 = X ∧ P9 o v1) ∧ ∀ (w11 : VV), P9 none w11 → ∃ P13 : Option AV → VV → Prop, Con mX6_cutTo 0 0 0 [(2, 23), (0, 0)] X w11 (fun o X1 v1 => X1 = X ∧ P13 o v1) ∧ ∀ (w15 : VV), P13 none w15 → ∃ P17 : Option AV → VV → Prop, Con mX5_clear 1 0 0 [(2, 25)] X w15 (fun o X1 v1 => X1 = X ∧ P17 o v1) ∧ ∀ (w19 : VV), P17 none w19 → Q none X (upd2 (upd2 (upd2 w19 4 6 0) 4 7 0) 4 8 0)) : Ex mX3_clear d 0 [(2, 4)] [] X v mc ms Q := by
  refine x_aload_n dX3_clear_0 rfl ?_
  refine x_getr (r' := 17) flX3_23 dX3_clear_1 (sW4 hW) (gW4 hW) (rW4_1 hW) rfl (Nat.le_of_ble_eq_true rfl) ?_
  refine x_iconst dX3_clear_4 rfl (i32_of rfl) ?_
  obtain ⟨P1, hC, F⟩ := F
  refine x_inv dX3_clear_5 mlX3_43 hC (sW17 hW) (Nat.le_of_ble_eq_true rfl) (gW17 hW) rfl rfl (by omega) (Nat.zero_le _) (Nat.zero_le _) (Nat.le_of_ble_eq_true rfl) (fun o1 Y4 w3 ht hP => ?_)
  obtain rfl : o1 = none := ht
  obtain ⟨hX, hP⟩ := hP
  have hX := Eq.symm hX
  subst hX
  have F := F w3 hP
  refine x_aload_n dX3_clear_8 rfl ?_
  refine x_getr (r' := 19) flX3_27 dX3_clear_9 (sW4 hW) (gW4 hW) (rW4_2 hW) rfl (Nat.le_of_ble_eq_true rfl) ?_
  refine x_iconst dX3_clear_12 rfl (i32_of rfl) ?_
  obtain ⟨P5, hC, F⟩ := F
  refine x_inv dX3_clear_13 mlX3_43 hC (sW19 hW) (Nat.le_of_ble_eq_true rfl) (gW19 hW) rfl rfl (by omega) (Nat.zero_le _) (Nat.zero_le _) (Nat.le_of_ble_eq_true rfl) (fun o1 Y8 w7 ht hP => ?_)
  obtain rfl : o1 = none := ht
  obtain ⟨hX, hP⟩ := hP
  have hX := Eq.symm hX
  subst hX
  have F := F w7 hP
  refine x_aload_n dX3_clear_16 rfl ?_
  refine x_getr (r' := 21) flX3_30 dX3_clear_17 (sW4 hW) (gW4 hW) (rW4_3 hW) rfl (Nat.le_of_ble_eq_true rfl) ?_
  refine x_iconst dX3_clear_20 rfl (i32_of rfl) ?_
  obtain ⟨P9, hC, F⟩ := F
  refine x_inv dX3_clear_21 mlX3_43 hC (sW21 hW) (Nat.le_of_ble_eq_true rfl) (gW21 hW) rfl rfl (by omega) (Nat.zero_le _) (Nat.zero_le _) (Nat.le_of_ble_eq_true rfl) (fun o1 Y12 w11 ht hP => ?_)
  obtain rfl : o1 = none := ht
  obtain ⟨hX, hP⟩ := hP
  have hX := Eq.symm hX
  subst hX
  have F := F w11 hP
  refine x_aload_n dX3_clear_24 rfl ?_
  refine x_getr (r' := 23) flX3_33 dX3_clear_25 (sW4 hW) (gW4 hW) (rW4_4 hW) rfl (Nat.le_of_ble_eq_true rfl) ?_
  refine x_iconst dX3_clear_28 rfl (i32_of rfl) ?_
  obtain ⟨P13, hC, F⟩ := F
  refine x_inv dX3_clear_29 mlX3_43 hC (sW23 hW) (Nat.le_of_ble_eq_true rfl) (gW23 hW) rfl rfl (by omega) (Nat.zero_le _) (Nat.zero_le _) (Nat.le_of_ble_eq_true rfl) (fun o1 Y16 w15 ht hP => ?_)
  obtain rfl : o1 = none := ht
  obtain ⟨hX, hP⟩ := hP
  have hX := Eq.symm hX
  subst hX
  have F := F w15 hP
  refine x_aload_n dX3_clear_32 rfl ?_
  refine x_getr (r' := 25) flX3_39 dX3_clear_33 (sW4 hW) (gW4 hW) (rW4_5 hW) rfl (Nat.le_of_ble_eq_true rfl) ?_
  obtain ⟨P17, hC, F⟩ := F
  refine x_inv dX3_clear_36 mlX3_46 hC (sW25 hW) (Nat.le_of_ble_eq_true rfl) (gW25 hW) rfl rfl (by omega) (Nat.zero_le _) (Nat.zero_le _) (Nat.le_of_ble_eq_true rfl) (fun o1 Y20 w19 ht hP => ?_)
  obtain rfl : o1 = none := ht
  obtain ⟨hX, hP⟩ := hP
  have hX := Eq.symm hX
  subst hX
  have F := F w19 hP
  refine x_aload_n dX3_clear_39 rfl ?_
  refine x_iconst dX3_clear_40 rfl (i32_of rfl) ?_
  refine x_puti 0 fwX3_49 dX3_clear_41 (sW4 hW) (gW4 hW) (fun h => Bool.noConfusion h) (Nat.le_of_ble_eq_true rfl) rfl (Or.inl ⟨rfl, Or.inl rfl⟩) ?_
  refine x_aload_n dX3_clear_44 rfl ?_
  refine x_iconst dX3_clear_45 rfl (i32_of rfl) ?_
  refine x_puti 0 fwX3_53 dX3_clear_46 (sW4 hW) (gW4 hW) (fun h => Bool.noConfusion h) (Nat.le_of_ble_eq_true rfl) rfl (Or.inl ⟨rfl, Or.inl rfl⟩) ?_
  refine x_aload_n dX3_clear_49 rfl ?_
  refine x_iconst dX3_clear_50 rfl (i32_of rfl) ?_
  refine x_puti 0 fwX3_56 dX3_clear_51 (sW4 hW) (gW4 hW) (fun h => Bool.noConfusion h) (Nat.le_of_ble_eq_true rfl) rfl (Or.inl ⟨rfl, Or.inl rfl⟩) ?_
  exact x_ret none rfl ⟨dX3_clear_54, rfl⟩ F

set_option maxRecDepth 100000 in
set_option maxHeartbeats 4000000 in
theorem bX3_columnNames_0 {d mc ms : Nat} {X : XX} {v : VV} {Q : QQ} (hd : 1 ≤ d) (hW : SW X) (F : ∃ P1 : Option AV → VV → Prop, Con mX6_size 0 0 0 [(2, 17)] X v (fun o X1 v1 => X1 = X ∧ P1 o v1) ∧ ∀ (r2 : Int) (w3 : VV), P1 (some (0, r2)) w3 → ∃ N6 : Nat, (if r2 < 0 then 0 else r2) = (N6 : Int) ∧ N6 ≤ 60000000 ∧ 1 ≤ mc ∧ N6 ≤ ms ∧ Ex mX3_columnNames d 16 [(2, 4), (2, (X.1.1 : Int)), (0, 0)] [] (nX X 101 N6) (nV X w3) (mc - 1) (ms - N6) Q) : Ex mX3_columnNames d 0 [(2, 4), (3, 0), (3, 0)] [] X v mc ms Q := by
  refine x_aload_n dX3_columnNames_0 rfl ?_
  refine x_getr (r' := 17) flX3_23 dX3_columnNames_1 (sW4 hW) (gW4 hW) (rW4_1 hW) rfl (Nat.le_of_ble_eq_true rfl) ?_
  obtain ⟨P1, hC, F⟩ := F
  refine x_inv dX3_columnNames_4 mlX3_59 hC (sW17 hW) (Nat.le_of_ble_eq_true rfl) (gW17 hW) rfl rfl (by omega) (Nat.zero_le _) (Nat.zero_le _) (Nat.le_of_ble_eq_true rfl) (fun o1 Y4 w3 ht hP => ?_)
  obtain ⟨r2, rfl⟩ : ∃ i, o1 = some (0, i) := ht
  obtain ⟨hX, hP⟩ := hP
  have hX := Eq.symm hX
  subst hX
  have F := F r2 w3 hP
  refine x_iconst dX3_columnNames_7 rfl (i32_of rfl) ?_
  refine x_max dX3_columnNames_8 mlX3_63 (by omega) (Nat.le_of_ble_eq_true rfl) ?_
  obtain ⟨N6, hxN, hN, hb1, hb2, F⟩ := F
  refine x_newarr N6 dX3_columnNames_11 (Or.inr (Or.inl ⟨rfl, rfl⟩)) ac_long hxN hN hb1 hb2 ?_
  have hW5 : SW (nX X 101 N6) := hW.new
  refine x_astore_n [(2, 4), (2, (X.1.1 : Int)), (3, 0)] dX3_columnNames_13 rfl (Nat.le_of_ble_eq_true rfl) ?_
  refine x_iconst dX3_columnNames_14 rfl (i32_of rfl) ?_
  refine x_istore_n [(2, 4), (2, (X.1.1 : Int)), (0, 0)] dX3_columnNames_15 rfl (Nat.le_of_ble_eq_true rfl) ?_
  exact F

set_option maxRecDepth 100000 in
set_option maxHeartbeats 4000000 in
theorem bX3_columnNames_16 {d mc ms : Nat} {X : XX} {v : VV} {Q : QQ} (x1 : Int) (x2 : Int) (hd : 1 ≤ d) (hW : SW X) (F : i32 x2 → ∃ n7 : Nat, X.1.2 x1 = (101, n7) ∧ (0 ≤ x1 ∧ x1 < X.1.1) ∧ ((((n7 : Int) ≤ x2) → Q (some (2, x1)) X v) ∧ ((x2 < (n7 : Int)) → ∃ P8 : Option AV → VV → Prop, Con mX6_get 0 0 0 [(2, 17), (0, x2)] X v (fun o X1 v1 => X1 = X ∧ P8 o v1) ∧ ∀ (r9 : Int) (w10 : VV), P8 (some (0, r9)) w10 → ∃ P12 : Option AV → VV → Prop, Con mX8_nameOf 0 0 0 [(2, 5), (0, r9)] X w10 (fun o X1 v1 => X1 = X ∧ P12 o v1) ∧ ∀ (r13 : Int) (w14 : VV), P12 (some (1, r13)) w14 → (0 ≤ x2 ∧ x2 < n7) ∧ i32 (x2 + 1) ∧ Ex mX3_columnNames d 16 [(2, 4), (2, x1), (0, (x2 + 1))] [] X (upd2 w14 x1 x2 r13) mc ms Q))) : Ex mX3_columnNames d 16 [(2, 4), (2, x1), (0, x2)] [] X v mc ms Q := by
  refine x_li32 (i := 2) rfl (fun hx2 => ?_)
  have F := F hx2
  refine x_iload_n dX3_columnNames_16 rfl ?_
  refine x_aload_n dX3_columnNames_17 rfl ?_
  obtain ⟨n7, hs7, hr7, F⟩ := F
  refine x_alen dX3_columnNames_18 hs7 (by decide) hr7 (fun hlen => ?_)
  refine x_icmp_ge 46 dX3_columnNames_19 rfl (fun hc => ?_) (fun hc => ?_)
  · have F := F.1 hc
    refine x_aload_n dX3_columnNames_46 rfl ?_
    exact x_ret (some (2, x1)) rfl ⟨dX3_columnNames_47, Or.inr ⟨_, rfl⟩⟩ F
  · have F := F.2 hc
    refine x_aload_n dX3_columnNames_22 rfl ?_
    refine x_iload_n dX3_columnNames_23 rfl ?_
    refine x_aload_n dX3_columnNames_24 rfl ?_
    refine x_getr (r' := 5) flX3_12 dX3_columnNames_25 (sW4 hW) (gW4 hW) (rW4_0 hW) rfl (Nat.le_of_ble_eq_true rfl) ?_
    refine x_aload_n dX3_columnNames_28 rfl ?_
    refine x_getr (r' := 17) flX3_23 dX3_columnNames_29 (sW4 hW) (gW4 hW) (rW4_1 hW) rfl (Nat.le_of_ble_eq_true rfl) ?_
    refine x_iload_n dX3_columnNames_32 rfl ?_
    obtain ⟨P8, hC, F⟩ := F
    refine x_inv dX3_columnNames_33 mlX3_69 hC (sW17 hW) (Nat.le_of_ble_eq_true rfl) (gW17 hW) rfl rfl (by omega) (Nat.zero_le _) (Nat.zero_le _) (Nat.le_of_ble_eq_true rfl) (fun o1 Y11 w10 ht hP => ?_)
    obtain ⟨r9, rfl⟩ : ∃ i, o1 = some (0, i) := ht
    obtain ⟨hX, hP⟩ := hP
    have hX := Eq.symm hX
    subst hX
    have F := F r9 w10 hP
    obtain ⟨P12, hC, F⟩ := F
    refine x_inv dX3_columnNames_36 mlX3_73 hC (sW5 hW) (Nat.le_of_ble_eq_true rfl) (gW5 hW) rfl rfl (by omega) (Nat.zero_le _) (Nat.zero_le _) (Nat.le_of_ble_eq_true rfl) (fun o1 Y15 w14 ht hP => ?_)
    obtain ⟨r13, rfl⟩ : ∃ i, o1 = some (1, i) := ht
    obtain ⟨hX, hP⟩ := hP
    have hX := Eq.symm hX
    subst hX
    have F := F r13 w14 hP
    obtain ⟨hi, F⟩ := F
    refine x_last dX3_columnNames_39 hs7 hr7 hi ?_
    obtain ⟨hz, F⟩ := F
    refine x_iinc [(2, 4), (2, x1), (0, (x2 + 1))] dX3_columnNames_40 rfl rfl (Nat.le_of_ble_eq_true rfl) hz ?_
    refine x_goto 16 dX3_columnNames_43 rfl ?_
    exact F

set_option maxRecDepth 100000 in
set_option maxHeartbeats 4000000 in
theorem bX3_wording_0 {d mc ms : Nat} {X : XX} {v : VV} {Q : QQ} (hd : 5 ≤ d) (hW : SW X) (F : (((¬ (v 4 6) = 0) → ∃ c5 s6 : Nat, c5 ≤ mc ∧ s6 ≤ ms ∧ ∃ P1 : QQ, Con mX8_wordingFrom 4 c5 s6 [(2, 5), (0, (v 4 8))] X v P1 ∧ ∀ (r2 : Int) (Y4 : XX) (w3 : VV), P1 (some (2, r2)) Y4 w3 → SW Y4 ∧ Q (some (2, r2)) Y4 w3) ∧ (((v 4 6) = 0) → (1 ≤ mc ∧ 2 ≤ ms) ∧ ∃ c14 s15 : Nat, c14 ≤ (mc - 1) ∧ s15 ≤ (ms - 2) ∧ ∃ P10 : QQ, Con mX6_init 1 c14 s15 [(2, (X.1.1 : Int)), (0, 0)] (nX X 6 0) (nV X v) P10 ∧ ∀ (Y13 : XX) (w12 : VV), P10 none Y13 w12 → SW Y13 ∧ Q (some (2, (X.1.1 : Int))) Y13 w12))) : Ex mX3_wording d 0 [(2, 4)] [] X v mc ms Q := by
  refine x_aload_n dX3_wording_0 rfl ?_
  refine x_geti (e := (v 4 6)) 0 flX3_49 dX3_wording_1 (sW4 hW) (gW4 hW) rfl rfl (Nat.le_of_ble_eq_true rfl) (tagn2 rfl) ?_
  refine x_if_ne 18 dX3_wording_4 rfl (fun hc => ?_) (fun hc => ?_)
  · have F := F.1 hc
    refine x_aload_n dX3_wording_18 rfl ?_
    refine x_getr (r' := 5) flX3_12 dX3_wording_19 (sW4 hW) (gW4 hW) (rW4_0 hW) rfl (Nat.le_of_ble_eq_true rfl) ?_
    refine x_aload_n dX3_wording_22 rfl ?_
    refine x_geti (e := (v 4 8)) 0 flX3_56 dX3_wording_23 (sW4 hW) (gW4 hW) rfl rfl (Nat.le_of_ble_eq_true rfl) (tagn2 rfl) ?_
    obtain ⟨c5, s6, hc1, hs1_, F⟩ := F
    obtain ⟨P1, hC, F⟩ := F
    refine x_inv dX3_wording_26 mlX3_77 hC (sW5 hW) (Nat.le_of_ble_eq_true rfl) (gW5 hW) rfl rfl (by omega) hc1 hs1_ (Nat.le_of_ble_eq_true rfl) (fun o1 Y4 w3 ht hP => ?_)
    obtain ⟨r2, rfl⟩ : ∃ i, o1 = some (2, i) := ht
    obtain ⟨hW7, F⟩ := F r2 Y4 w3 hP
    exact x_ret (some (2, r2)) rfl ⟨dX3_wording_29, Or.inl ⟨_, rfl⟩⟩ F
  · have F := F.2 hc
    obtain ⟨hb, F⟩ := F
    refine x_new nlX3_18 dX3_wording_7 (by decide) hb.1 hb.2 ?_
    have hW9 : SW (nX X 6 0) := hW.new
    refine x_dup dX3_wording_10 (tag1 rfl) ?_
    refine x_iconst dX3_wording_11 rfl (i32_of rfl) ?_
    obtain ⟨c14, s15, hc1, hs1_, F⟩ := F
    obtain ⟨P10, hC, F⟩ := F
    refine x_init dX3_wording_12 mlX3_20 hC (nX_in X 6 0).1 rfl rfl (by omega) hc1 hs1_ (Nat.le_of_ble_eq_true rfl) (fun Y13 w12 hP => ?_)
    obtain ⟨hW16, F⟩ := F Y13 w12 hP
    refine x_goto 29 dX3_wording_15 rfl ?_
    exact x_ret (some (2, (X.1.1 : Int))) rfl ⟨dX3_wording_29, Or.inl ⟨_, rfl⟩⟩ F

set_option maxRecDepth 100000 in
set_option maxHeartbeats 4000000 in
theorem bX4_readStatement_0 {d mc ms : Nat} {X : XX} {v : VV} {Q : QQ} (hd : 12 ≤ d) (hW : SW X) (F : ∃ P1 : Option AV → VV → Prop, Con mX3_clear 2 0 0 [(2, 4)] X (upd2 (upd2 v 3 1 0) 3 2 0) (fun o X1 v1 => X1 = X ∧ P1 o v1) ∧ ∀ (w3 : VV), P1 none w3 → ∃ P5 : Option AV → VV → Prop, Con mX4_readHead 2 0 0 [(2, 3)] X w3 (fun o X1 v1 => X1 = X ∧ P5 o v1) ∧ ∀ (r6 : Int) (w7 : VV), P5 (some (0, r6)) w7 → (((¬ r6 = 0) → (((¬ (w7 4 6) = 0) → ∃ P9 : Option AV → VV → Prop, Con mX4_take 1 0 0 [(2, 3), (0, 61)] X w7 (fun o X1 v1 => X1 = X ∧ P9 o v1) ∧ ∀ (r10 : Int) (w11 : VV), P9 (some (0, r10)) w11 → (((r10 = 0) → Ex mX4_readStatement d 77 [(2, 3), (3, 0)] [] X w11 mc ms Q) ∧ ((¬ r10 = 0) → ∃ P13 : Option AV → VV → Prop, Con mX4_readResults 11 0 0 [(2, 3)] X w11 (fun o X1 v1 => X1 = X ∧ P13 o v1) ∧ ∀ (r14 : Int) (w15 : VV), P13 (some (0, r14)) w15 → (((r14 = 0) → Ex mX4_readStatement d 77 [(2, 3), (3, 0)] [] X w15 mc ms Q) ∧ ((¬ r14 = 0) → ∃ P17 : Option AV → VV → Prop, Con mX4_readBehind 2 0 0 [(2, 3)] X w15 (fun o X1 v1 => X1 = X ∧ P17 o v1) ∧ ∀ (r18 : Int) (w19 : VV), P17 (some (0, r18)) w19 → (((r18 = 0) → Ex mX4_readStatement d 77 [(2, 3), (3, 0)] [] X w19 mc ms Q) ∧ ((¬ r18 = 0) → ∃ P21 : Option AV → VV → Prop, Con mX4_readWhere 11 0 0 [(2, 3)] X w19 (fun o X1 v1 => X1 = X ∧ P21 o v1) ∧ ∀ (r22 : Int) (w23 : VV), P21 (some (0, r22)) w23 → (((r22 = 0) → Ex mX4_readStatement d 77 [(2, 3), (3, 0)] [] X w23 mc ms Q) ∧ ((¬ r22 = 0) → ∃ P25 : Option AV → VV → Prop, Con mX4_take 1 0 0 [(2, 3), (0, 59)] X w23 (fun o X1 v1 => X1 = X ∧ P25 o v1) ∧ ∀ (r26 : Int) (w27 : VV), P25 (some (0, r26)) w27 → (((r26 = 0) → Q (some (0, 0)) X w27) ∧ ((¬ r26 = 0) → ∃ P29 : Option AV → VV → Prop, Con mX6_get 0 0 0 [(2, 6), (0, (w27 3 1))] X w27 (fun o X1 v1 => X1 = X ∧ P29 o v1) ∧ ∀ (r30 : Int) (w31 : VV), P29 (some (0, r30)) w31 → (((¬ r30 = 260) → Q (some (0, 0)) X w31) ∧ ((r30 = 260) → Q (some (0, 1)) X w31))))))))))))) ∧ (((w7 4 6) = 0) → ∃ P33 : Option AV → VV → Prop, Con mX4_readSource 2 0 0 [(2, 3)] X w7 (fun o X1 v1 => X1 = X ∧ P33 o v1) ∧ ∀ (r34 : Int) (w35 : VV), P33 (some (0, r34)) w35 → (((r34 = 0) → Q (some (0, 0)) X w35) ∧ ((¬ r34 = 0) → ∃ P37 : Option AV → VV → Prop, Con mX4_take 1 0 0 [(2, 3), (0, 59)] X w35 (fun o X1 v1 => X1 = X ∧ P37 o v1) ∧ ∀ (r38 : Int) (w39 : VV), P37 (some (0, r38)) w39 → (((r38 = 0) → Q (some (0, 0)) X w39) ∧ ((¬ r38 = 0) → ∃ P41 : Option AV → VV → Prop, Con mX6_get 0 0 0 [(2, 6), (0, (w39 3 1))] X w39 (fun o X1 v1 => X1 = X ∧ P41 o v1) ∧ ∀ (r42 : Int) (w43 : VV), P41 (some (0, r42)) w43 → (((¬ r42 = 260) → Q (some (0, 0)) X w43) ∧ ((r42 = 260) → Q (some (0, 1)) X w43))))))))) ∧ ((r6 = 0) → Q (some (0, 0)) X w7))) : Ex mX4_readStatement d 0 [(2, 3), (3, 0)] [] X v mc ms Q := by
  refine x_aload_n dX4_readStatement_0 rfl ?_
  refine x_iconst dX4_readStatement_1 rfl (i32_of rfl) ?_
  refine x_puti 0 fwX4_18 dX4_readStatement_2 (sW3 hW) (gW3 hW) (fun h => Bool.noConfusion h) (Nat.le_of_ble_eq_true rfl) rfl (Or.inl ⟨rfl, Or.inl rfl⟩) ?_
  refine x_aload_n dX4_readStatement_5 rfl ?_
  refine x_iconst dX4_readStatement_6 rfl (i32_of rfl) ?_
  refine x_puti 0 fwX4_22 dX4_readStatement_7 (sW3 hW) (gW3 hW) (fun h => Bool.noConfusion h) (Nat.le_of_ble_eq_true rfl) rfl (Or.inl ⟨rfl, Or.inl rfl⟩) ?_
  refine x_aload_n dX4_readStatement_10 rfl ?_
  refine x_getr (r' := 4) flX4_12 dX4_readStatement_11 (sW3 hW) (gW3 hW) (rW3_0 hW) rfl (Nat.le_of_ble_eq_true rfl) ?_
  obtain ⟨P1, hC, F⟩ := F
  refine x_inv dX4_readStatement_14 mlX4_25 hC (sW4 hW) (Nat.le_of_ble_eq_true rfl) (gW4 hW) rfl rfl (by omega) (Nat.zero_le _) (Nat.zero_le _) (Nat.le_of_ble_eq_true rfl) (fun o1 Y4 w3 ht hP => ?_)
  obtain rfl : o1 = none := ht
  obtain ⟨hX, hP⟩ := hP
  have hX := Eq.symm hX
  subst hX
  have F := F w3 hP
  refine x_aload_n dX4_readStatement_17 rfl ?_
  obtain ⟨P5, hC, F⟩ := F
  refine x_inv dX4_readStatement_18 mlX4_28 hC (sW3 hW) (Nat.le_of_ble_eq_true rfl) (gW3 hW) rfl rfl (by omega) (Nat.zero_le _) (Nat.zero_le _) (Nat.le_of_ble_eq_true rfl) (fun o1 Y8 w7 ht hP => ?_)
  obtain ⟨r6, rfl⟩ : ∃ i, o1 = some (0, i) := ht
  obtain ⟨hX, hP⟩ := hP
  have hX := Eq.symm hX
  subst hX
  have F := F r6 w7 hP
  refine x_if_ne 26 dX4_readStatement_21 rfl (fun hc => ?_) (fun hc => ?_)
  · have F := F.1 hc
    refine x_aload_n dX4_readStatement_26 rfl ?_
    refine x_getr (r' := 4) flX4_12 dX4_readStatement_27 (sW3 hW) (gW3 hW) (rW3_0 hW) rfl (Nat.le_of_ble_eq_true rfl) ?_
    refine x_geti (e := (w7 4 6)) 0 flX4_32 dX4_readStatement_30 (sW4 hW) (gW4 hW) rfl rfl (Nat.le_of_ble_eq_true rfl) (tagn2 rfl) ?_
    refine x_if_ne 43 dX4_readStatement_33 rfl (fun hc => ?_) (fun hc => ?_)
    · have F := F.1 hc
      refine x_aload_n dX4_readStatement_43 rfl ?_
      refine x_bipush dX4_readStatement_44 kb_61 (i32_of rfl) ?_
      obtain ⟨P9, hC, F⟩ := F
      refine x_inv dX4_readStatement_46 mlX4_38 hC (sW3 hW) (Nat.le_of_ble_eq_true rfl) (gW3 hW) rfl rfl (by omega) (Nat.zero_le _) (Nat.zero_le _) (Nat.le_of_ble_eq_true rfl) (fun o1 Y12 w11 ht hP => ?_)
      obtain ⟨r10, rfl⟩ : ∃ i, o1 = some (0, i) := ht
      obtain ⟨hX, hP⟩ := hP
      have hX := Eq.symm hX
      subst hX
      have F := F r10 w11 hP
      refine x_if_eq 77 dX4_readStatement_49 rfl (fun hc => ?_) (fun hc => ?_)
      · have F := F.1 hc
        exact F
      · have F := F.2 hc
        refine x_aload_n dX4_readStatement_52 rfl ?_
        obtain ⟨P13, hC, F⟩ := F
        refine x_inv dX4_readStatement_53 mlX4_42 hC (sW3 hW) (Nat.le_of_ble_eq_true rfl) (gW3 hW) rfl rfl (by omega) (Nat.zero_le _) (Nat.zero_le _) (Nat.le_of_ble_eq_true rfl) (fun o1 Y16 w15 ht hP => ?_)
        obtain ⟨r14, rfl⟩ : ∃ i, o1 = some (0, i) := ht
        obtain ⟨hX, hP⟩ := hP
        have hX := Eq.symm hX
        subst hX
        have F := F r14 w15 hP
        refine x_if_eq 77 dX4_readStatement_56 rfl (fun hc => ?_) (fun hc => ?_)
        · have F := F.1 hc
          exact F
        · have F := F.2 hc
          refine x_aload_n dX4_readStatement_59 rfl ?_
          obtain ⟨P17, hC, F⟩ := F
          refine x_inv dX4_readStatement_60 mlX4_45 hC (sW3 hW) (Nat.le_of_ble_eq_true rfl) (gW3 hW) rfl rfl (by omega) (Nat.zero_le _) (Nat.zero_le _) (Nat.le_of_ble_eq_true rfl) (fun o1 Y20 w19 ht hP => ?_)
          obtain ⟨r18, rfl⟩ : ∃ i, o1 = some (0, i) := ht
          obtain ⟨hX, hP⟩ := hP
          have hX := Eq.symm hX
          subst hX
          have F := F r18 w19 hP
          refine x_if_eq 77 dX4_readStatement_63 rfl (fun hc => ?_) (fun hc => ?_)
          · have F := F.1 hc
            exact F
          · have F := F.2 hc
            refine x_aload_n dX4_readStatement_66 rfl ?_
            obtain ⟨P21, hC, F⟩ := F
            refine x_inv dX4_readStatement_67 mlX4_48 hC (sW3 hW) (Nat.le_of_ble_eq_true rfl) (gW3 hW) rfl rfl (by omega) (Nat.zero_le _) (Nat.zero_le _) (Nat.le_of_ble_eq_true rfl) (fun o1 Y24 w23 ht hP => ?_)
            obtain ⟨r22, rfl⟩ : ∃ i, o1 = some (0, i) := ht
            obtain ⟨hX, hP⟩ := hP
            have hX := Eq.symm hX
            subst hX
            have F := F r22 w23 hP
            refine x_if_eq 77 dX4_readStatement_70 rfl (fun hc => ?_) (fun hc => ?_)
            · have F := F.1 hc
              exact F
            · have F := F.2 hc
              refine x_iconst dX4_readStatement_73 rfl (i32_of rfl) ?_
              refine x_goto 78 dX4_readStatement_74 rfl ?_
              refine x_istore_n [(2, 3), (0, 1)] dX4_readStatement_78 rfl (Nat.le_of_ble_eq_true rfl) ?_
              refine x_iload_n dX4_readStatement_79 rfl ?_
              refine x_if_eq 119 dX4_readStatement_80 rfl (fun hc => absurd hc (by decide)) (fun _ => ?_)
              refine x_aload_n dX4_readStatement_83 rfl ?_
              refine x_bipush dX4_readStatement_84 kb_59 (i32_of rfl) ?_
              obtain ⟨P25, hC, F⟩ := F
              refine x_inv dX4_readStatement_86 mlX4_38 hC (sW3 hW) (Nat.le_of_ble_eq_true rfl) (gW3 hW) rfl rfl (by omega) (Nat.zero_le _) (Nat.zero_le _) (Nat.le_of_ble_eq_true rfl) (fun o1 Y28 w27 ht hP => ?_)
              obtain ⟨r26, rfl⟩ : ∃ i, o1 = some (0, i) := ht
              obtain ⟨hX, hP⟩ := hP
              have hX := Eq.symm hX
              subst hX
              have F := F r26 w27 hP
              refine x_if_eq 119 dX4_readStatement_89 rfl (fun hc => ?_) (fun hc => ?_)
              · have F := F.1 hc
                refine x_iconst dX4_readStatement_119 rfl (i32_of rfl) ?_
                exact x_ret (some (0, 0)) rfl ⟨dX4_readStatement_120, Or.inr ⟨rfl, Or.inl rfl⟩⟩ F
              · have F := F.2 hc
                refine x_aload_n dX4_readStatement_92 rfl ?_
                refine x_getr (r' := 4) flX4_12 dX4_readStatement_93 (sW3 hW) (gW3 hW) (rW3_0 hW) rfl (Nat.le_of_ble_eq_true rfl) ?_
                refine x_getr (r' := 5) flX4_51 dX4_readStatement_96 (sW4 hW) (gW4 hW) (rW4_0 hW) rfl (Nat.le_of_ble_eq_true rfl) ?_
                refine x_getr (r' := 6) flX4_55 dX4_readStatement_99 (sW5 hW) (gW5 hW) (rW5_0 hW) rfl (Nat.le_of_ble_eq_true rfl) ?_
                refine x_aload_n dX4_readStatement_102 rfl ?_
                refine x_geti (e := (w27 3 1)) 0 flX4_18 dX4_readStatement_103 (sW3 hW) (gW3 hW) rfl rfl (Nat.le_of_ble_eq_true rfl) (tagn2 rfl) ?_
                obtain ⟨P29, hC, F⟩ := F
                refine x_inv dX4_readStatement_106 mlX4_61 hC (sW6 hW) (Nat.le_of_ble_eq_true rfl) (gW6 hW) rfl rfl (by omega) (Nat.zero_le _) (Nat.zero_le _) (Nat.le_of_ble_eq_true rfl) (fun o1 Y32 w31 ht hP => ?_)
                obtain ⟨r30, rfl⟩ : ∃ i, o1 = some (0, i) := ht
                obtain ⟨hX, hP⟩ := hP
                have hX := Eq.symm hX
                subst hX
                have F := F r30 w31 hP
                refine x_sipush dX4_readStatement_109 ks_260 (i32_of rfl) ?_
                refine x_icmp_ne 119 dX4_readStatement_112 rfl (fun hc => ?_) (fun hc => ?_)
                · have F := F.1 hc
                  refine x_iconst dX4_readStatement_119 rfl (i32_of rfl) ?_
                  exact x_ret (some (0, 0)) rfl ⟨dX4_readStatement_120, Or.inr ⟨rfl, Or.inl rfl⟩⟩ F
                · have F := F.2 hc
                  refine x_iconst dX4_readStatement_115 rfl (i32_of rfl) ?_
                  refine x_goto 120 dX4_readStatement_116 rfl ?_
                  exact x_ret (some (0, 1)) rfl ⟨dX4_readStatement_120, Or.inr ⟨rfl, Or.inr rfl⟩⟩ F
    · have F := F.2 hc
      refine x_aload_n dX4_readStatement_36 rfl ?_
      obtain ⟨P33, hC, F⟩ := F
      refine x_inv dX4_readStatement_37 mlX4_35 hC (sW3 hW) (Nat.le_of_ble_eq_true rfl) (gW3 hW) rfl rfl (by omega) (Nat.zero_le _) (Nat.zero_le _) (Nat.le_of_ble_eq_true rfl) (fun o1 Y36 w35 ht hP => ?_)
      obtain ⟨r34, rfl⟩ : ∃ i, o1 = some (0, i) := ht
      obtain ⟨hX, hP⟩ := hP
      have hX := Eq.symm hX
      subst hX
      have F := F r34 w35 hP
      refine x_goto 78 dX4_readStatement_40 rfl ?_
      refine x_istore_n [(2, 3), (0, r34)] dX4_readStatement_78 rfl (Nat.le_of_ble_eq_true rfl) ?_
      refine x_iload_n dX4_readStatement_79 rfl ?_
      refine x_if_eq 119 dX4_readStatement_80 rfl (fun hc => ?_) (fun hc => ?_)
      · have F := F.1 hc
        refine x_iconst dX4_readStatement_119 rfl (i32_of rfl) ?_
        exact x_ret (some (0, 0)) rfl ⟨dX4_readStatement_120, Or.inr ⟨rfl, Or.inl rfl⟩⟩ F
      · have F := F.2 hc
        refine x_aload_n dX4_readStatement_83 rfl ?_
        refine x_bipush dX4_readStatement_84 kb_59 (i32_of rfl) ?_
        obtain ⟨P37, hC, F⟩ := F
        refine x_inv dX4_readStatement_86 mlX4_38 hC (sW3 hW) (Nat.le_of_ble_eq_true rfl) (gW3 hW) rfl rfl (by omega) (Nat.zero_le _) (Nat.zero_le _) (Nat.le_of_ble_eq_true rfl) (fun o1 Y40 w39 ht hP => ?_)
        obtain ⟨r38, rfl⟩ : ∃ i, o1 = some (0, i) := ht
        obtain ⟨hX, hP⟩ := hP
        have hX := Eq.symm hX
        subst hX
        have F := F r38 w39 hP
        refine x_if_eq 119 dX4_readStatement_89 rfl (fun hc => ?_) (fun hc => ?_)
        · have F := F.1 hc
          refine x_iconst dX4_readStatement_119 rfl (i32_of rfl) ?_
          exact x_ret (some (0, 0)) rfl ⟨dX4_readStatement_120, Or.inr ⟨rfl, Or.inl rfl⟩⟩ F
        · have F := F.2 hc
          refine x_aload_n dX4_readStatement_92 rfl ?_
          refine x_getr (r' := 4) flX4_12 dX4_readStatement_93 (sW3 hW) (gW3 hW) (rW3_0 hW) rfl (Nat.le_of_ble_eq_true rfl) ?_
          refine x_getr (r' := 5) flX4_51 dX4_readStatement_96 (sW4 hW) (gW4 hW) (rW4_0 hW) rfl (Nat.le_of_ble_eq_true rfl) ?_
          refine x_getr (r' := 6) flX4_55 dX4_readStatement_99 (sW5 hW) (gW5 hW) (rW5_0 hW) rfl (Nat.le_of_ble_eq_true rfl) ?_
          refine x_aload_n dX4_readStatement_102 rfl ?_
          refine x_geti (e := (w39 3 1)) 0 flX4_18 dX4_readStatement_103 (sW3 hW) (gW3 hW) rfl rfl (Nat.le_of_ble_eq_true rfl) (tagn2 rfl) ?_
          obtain ⟨P41, hC, F⟩ := F
          refine x_inv dX4_readStatement_106 mlX4_61 hC (sW6 hW) (Nat.le_of_ble_eq_true rfl) (gW6 hW) rfl rfl (by omega) (Nat.zero_le _) (Nat.zero_le _) (Nat.le_of_ble_eq_true rfl) (fun o1 Y44 w43 ht hP => ?_)
          obtain ⟨r42, rfl⟩ : ∃ i, o1 = some (0, i) := ht
          obtain ⟨hX, hP⟩ := hP
          have hX := Eq.symm hX
          subst hX
          have F := F r42 w43 hP
          refine x_sipush dX4_readStatement_109 ks_260 (i32_of rfl) ?_
          refine x_icmp_ne 119 dX4_readStatement_112 rfl (fun hc => ?_) (fun hc => ?_)
          · have F := F.1 hc
            refine x_iconst dX4_readStatement_119 rfl (i32_of rfl) ?_
            exact x_ret (some (0, 0)) rfl ⟨dX4_readStatement_120, Or.inr ⟨rfl, Or.inl rfl⟩⟩ F
          · have F := F.2 hc
            refine x_iconst dX4_readStatement_115 rfl (i32_of rfl) ?_
            refine x_goto 120 dX4_readStatement_116 rfl ?_
            exact x_ret (some (0, 1)) rfl ⟨dX4_readStatement_120, Or.inr ⟨rfl, Or.inr rfl⟩⟩ F
  · have F := F.2 hc
    refine x_iconst dX4_readStatement_24 rfl (i32_of rfl) ?_
    exact x_ret (some (0, 0)) rfl ⟨dX4_readStatement_25, Or.inr ⟨rfl, Or.inl rfl⟩⟩ F

set_option maxRecDepth 100000 in
set_option maxHeartbeats 4000000 in
theorem bX4_readStatement_77 {d mc ms : Nat} {X : XX} {v : VV} {Q : QQ} (hd : 12 ≤ d) (hW : SW X) (F : Q (some (0, 0)) X v) : Ex mX4_readStatement d 77 [(2, 3), (3, 0)] [] X v mc ms Q := by
  refine x_iconst dX4_readStatement_77 rfl (i32_of rfl) ?_
  refine x_istore_n [(2, 3), (0, 0)] dX4_readStatement_78 rfl (Nat.le_of_ble_eq_true rfl) ?_
  refine x_iload_n dX4_readStatement_79 rfl ?_
  refine x_if_eq 119 dX4_readStatement_80 rfl (fun _ => ?_) (fun hc => absurd hc (by decide))
  refine x_iconst dX4_readStatement_119 rfl (i32_of rfl) ?_
  exact x_ret (some (0, 0)) rfl ⟨dX4_readStatement_120, Or.inr ⟨rfl, Or.inl rfl⟩⟩ F

set_option maxRecDepth 100000 in
set_option maxHeartbeats 4000000 in
theorem bX4_stopPlace_0 {d mc ms : Nat} {X : XX} {v : VV} {Q : QQ} (hd : 1 ≤ d) (hW : SW X) (F : ∃ P1 : Option AV → VV → Prop, Con mX6_get 0 0 0 [(2, 8), (0, (v 3 1))] X v (fun o X1 v1 => X1 = X ∧ P1 o v1) ∧ ∀ (r2 : Int) (w3 : VV), P1 (some (0, r2)) w3 → (i32 (w3 3 2) → i32 r2 → i32 (r2 + (w3 3 2))) ∧ Q (some (0, (r2 + (w3 3 2)))) X w3) : Ex mX4_stopPlace d 0 [(2, 3)] [] X v mc ms Q := by
  refine x_aload_n dX4_stopPlace_0 rfl ?_
  refine x_getr (r' := 4) flX4_12 dX4_stopPlace_1 (sW3 hW) (gW3 hW) (rW3_0 hW) rfl (Nat.le_of_ble_eq_true rfl) ?_
  refine x_getr (r' := 5) flX4_51 dX4_stopPlace_4 (sW4 hW) (gW4 hW) (rW4_0 hW) rfl (Nat.le_of_ble_eq_true rfl) ?_
  refine x_getr (r' := 8) flX4_67 dX4_stopPlace_7 (sW5 hW) (gW5 hW) (rW5_1 hW) rfl (Nat.le_of_ble_eq_true rfl) ?_
  refine x_aload_n dX4_stopPlace_10 rfl ?_
  refine x_geti (e := (v 3 1)) 0 flX4_18 dX4_stopPlace_11 (sW3 hW) (gW3 hW) rfl rfl (Nat.le_of_ble_eq_true rfl) (tagn2 rfl) ?_
  obtain ⟨P1, hC, F⟩ := F
  refine x_inv dX4_stopPlace_14 mlX4_61 hC (sW8 hW) (Nat.le_of_ble_eq_true rfl) (gW8 hW) rfl rfl (by omega) (Nat.zero_le _) (Nat.zero_le _) (Nat.le_of_ble_eq_true rfl) (fun o1 Y4 w3 ht hP => ?_)
  obtain ⟨r2, rfl⟩ : ∃ i, o1 = some (0, i) := ht
  obtain ⟨hX, hP⟩ := hP
  have hX := Eq.symm hX
  subst hX
  have F := F r2 w3 hP
  refine x_aload_n dX4_stopPlace_17 rfl ?_
  refine x_geti (e := (w3 3 2)) 0 flX4_22 dX4_stopPlace_18 (sW3 hW) (gW3 hW) rfl rfl (Nat.le_of_ble_eq_true rfl) (tagn2 rfl) ?_
  refine x_si32 (i := 0) rfl (fun hk0 => ?_)
  refine x_si32 (i := 1) rfl (fun hk1 => ?_)
  obtain ⟨hz, F⟩ := F
  have hz := hz hk0 hk1
  refine x_iadd dX4_stopPlace_21 hz ?_
  exact x_ret (some (0, (r2 + (w3 3 2)))) rfl ⟨dX4_stopPlace_22, Or.inl rfl⟩ F

set_option maxRecDepth 100000 in
set_option maxHeartbeats 4000000 in
theorem bX4_readHead_0 {d mc ms : Nat} {X : XX} {v : VV} {Q : QQ} (hd : 2 ≤ d) (hW : SW X) (F : ∃ P1 : Option AV → VV → Prop, Con mX6_get 0 0 0 [(2, 6), (0, (v 3 1))] X v (fun o X1 v1 => X1 = X ∧ P1 o v1) ∧ ∀ (r2 : Int) (w3 : VV), P1 (some (0, r2)) w3 → (((r2 = 261) → Ex mX4_readHead d 41 [(2, 3), (0, r2)] [] X w3 mc ms Q) ∧ ((¬ r2 = 261) → (((r2 = 262) → Ex mX4_readHead d 41 [(2, 3), (0, r2)] [] X w3 mc ms Q) ∧ ((¬ r2 = 262) → (((r2 = 263) → Ex mX4_readHead d 41 [(2, 3), (0, r2)] [] X w3 mc ms Q) ∧ ((¬ r2 = 263) → Q (some (0, 0)) X w3))))))) : Ex mX4_readHead d 0 [(2, 3), (3, 0)] [] X v mc ms Q := by
  refine x_aload_n dX4_readHead_0 rfl ?_
  refine x_getr (r' := 4) flX4_12 dX4_readHead_1 (sW3 hW) (gW3 hW) (rW3_0 hW) rfl (Nat.le_of_ble_eq_true rfl) ?_
  refine x_getr (r' := 5) flX4_51 dX4_readHead_4 (sW4 hW) (gW4 hW) (rW4_0 hW) rfl (Nat.le_of_ble_eq_true rfl) ?_
  refine x_getr (r' := 6) flX4_55 dX4_readHead_7 (sW5 hW) (gW5 hW) (rW5_0 hW) rfl (Nat.le_of_ble_eq_true rfl) ?_
  refine x_aload_n dX4_readHead_10 rfl ?_
  refine x_geti (e := (v 3 1)) 0 flX4_18 dX4_readHead_11 (sW3 hW) (gW3 hW) rfl rfl (Nat.le_of_ble_eq_true rfl) (tagn2 rfl) ?_
  obtain ⟨P1, hC, F⟩ := F
  refine x_inv dX4_readHead_14 mlX4_61 hC (sW6 hW) (Nat.le_of_ble_eq_true rfl) (gW6 hW) rfl rfl (by omega) (Nat.zero_le _) (Nat.zero_le _) (Nat.le_of_ble_eq_true rfl) (fun o1 Y4 w3 ht hP => ?_)
  obtain ⟨r2, rfl⟩ : ∃ i, o1 = some (0, i) := ht
  obtain ⟨hX, hP⟩ := hP
  have hX := Eq.symm hX
  subst hX
  have F := F r2 w3 hP
  refine x_istore_n [(2, 3), (0, r2)] dX4_readHead_17 rfl (Nat.le_of_ble_eq_true rfl) ?_
  refine x_iload_n dX4_readHead_18 rfl ?_
  refine x_sipush dX4_readHead_19 ks_261 (i32_of rfl) ?_
  refine x_icmp_eq 41 dX4_readHead_22 rfl (fun hc => ?_) (fun hc => ?_)
  · have F := F.1 hc
    exact F
  · have F := F.2 hc
    refine x_iload_n dX4_readHead_25 rfl ?_
    refine x_sipush dX4_readHead_26 ks_262 (i32_of rfl) ?_
    refine x_icmp_eq 41 dX4_readHead_29 rfl (fun hc => ?_) (fun hc => ?_)
    · have F := F.1 hc
      exact F
    · have F := F.2 hc
      refine x_iload_n dX4_readHead_32 rfl ?_
      refine x_sipush dX4_readHead_33 ks_263 (i32_of rfl) ?_
      refine x_icmp_eq 41 dX4_readHead_36 rfl (fun hc => ?_) (fun hc => ?_)
      · have F := F.1 hc
        exact F
      · have F := F.2 hc
        refine x_iconst dX4_readHead_39 rfl (i32_of rfl) ?_
        exact x_ret (some (0, 0)) rfl ⟨dX4_readHead_40, Or.inr ⟨rfl, Or.inl rfl⟩⟩ F

set_option maxRecDepth 100000 in
set_option maxHeartbeats 4000000 in
theorem bX4_readHead_41 {d mc ms : Nat} {X : XX} {v : VV} {Q : QQ} (x1 : Int) (hd : 2 ≤ d) (hW : SW X) (F : i32 x1 → (((¬ x1 = 261) → (((¬ x1 = 262) → (i32 (v 3 1) → i32 ((v 3 1) + 1)) ∧ (i32 ((v 3 1) + 1) → i32 (((v 3 1) + 1) + 1)) ∧ ∃ P5 : Option AV → VV → Prop, Con mX4_takeName 1 0 0 [(2, 3)] X (upd2 (upd2 (upd2 (upd2 v 4 6 2) 3 1 ((v 3 1) + 1)) 4 7 ((v 3 1) + 1)) 4 8 (((v 3 1) + 1) + 1)) (fun o X1 v1 => X1 = X ∧ P5 o v1) ∧ ∀ (r6 : Int) (w7 : VV), P5 (some (0, r6)) w7 → (r6 = 0 ∨ r6 = 1) ∧ Q (some (0, r6)) X w7) ∧ ((x1 = 262) → (i32 (v 3 1) → i32 ((v 3 1) + 1)) ∧ (i32 ((v 3 1) + 1) → i32 (((v 3 1) + 1) + 1)) ∧ ∃ P9 : Option AV → VV → Prop, Con mX4_takeName 1 0 0 [(2, 3)] X (upd2 (upd2 (upd2 (upd2 v 4 6 1) 3 1 ((v 3 1) + 1)) 4 7 ((v 3 1) + 1)) 4 8 (((v 3 1) + 1) + 1)) (fun o X1 v1 => X1 = X ∧ P9 o v1) ∧ ∀ (r10 : Int) (w11 : VV), P9 (some (0, r10)) w11 → (r10 = 0 ∨ r10 = 1) ∧ Q (some (0, r10)) X w11))) ∧ ((x1 = 261) → (i32 (v 3 1) → i32 ((v 3 1) + 1)) ∧ (i32 ((v 3 1) + 1) → i32 (((v 3 1) + 1) + 1)) ∧ ∃ P13 : Option AV → VV → Prop, Con mX4_takeName 1 0 0 [(2, 3)] X (upd2 (upd2 (upd2 (upd2 v 4 6 0) 3 1 ((v 3 1) + 1)) 4 7 ((v 3 1) + 1)) 4 8 (((v 3 1) + 1) + 1)) (fun o X1 v1 => X1 = X ∧ P13 o v1) ∧ ∀ (r14 : Int) (w15 : VV), P13 (some (0, r14)) w15 → (r14 = 0 ∨ r14 = 1) ∧ Q (some (0, r14)) X w15))) : Ex mX4_readHead d 41 [(2, 3), (0, x1)] [] X v mc ms Q := by
  refine x_li32 (i := 1) rfl (fun hx1 => ?_)
  have F := F hx1
  refine x_aload_n dX4_readHead_41 rfl ?_
  refine x_getr (r' := 4) flX4_12 dX4_readHead_42 (sW3 hW) (gW3 hW) (rW3_0 hW) rfl (Nat.le_of_ble_eq_true rfl) ?_
  refine x_iload_n dX4_readHead_45 rfl ?_
  refine x_sipush dX4_readHead_46 ks_261 (i32_of rfl) ?_
  refine x_icmp_ne 56 dX4_readHead_49 rfl (fun hc => ?_) (fun hc => ?_)
  · have F := F.1 hc
    refine x_iload_n dX4_readHead_56 rfl ?_
    refine x_sipush dX4_readHead_57 ks_262 (i32_of rfl) ?_
    refine x_icmp_ne 67 dX4_readHead_60 rfl (fun hc => ?_) (fun hc => ?_)
    · have F := F.1 hc
      refine x_iconst dX4_readHead_67 rfl (i32_of rfl) ?_
      refine x_puti 0 fwX4_32 dX4_readHead_68 (sW4 hW) (gW4 hW) (fun h => Bool.noConfusion h) (Nat.le_of_ble_eq_true rfl) rfl (Or.inl ⟨rfl, Or.inl rfl⟩) ?_
      refine x_aload_n dX4_readHead_71 rfl ?_
      refine x_dup dX4_readHead_72 (tag1 rfl) ?_
      refine x_geti (e := (v 3 1)) 0 flX4_18 dX4_readHead_73 (sW3 hW) (gW3 hW) rfl rfl (Nat.le_of_ble_eq_true rfl) (tagn2 rfl) ?_
      refine x_iconst dX4_readHead_76 rfl (i32_of rfl) ?_
      refine x_si32 (i := 1) rfl (fun hk1 => ?_)
      obtain ⟨hz, F⟩ := F
      have hz := hz hk1
      refine x_iadd dX4_readHead_77 hz ?_
      refine x_puti 0 fwX4_18 dX4_readHead_78 (sW3 hW) (gW3 hW) (fun h => Bool.noConfusion h) (Nat.le_of_ble_eq_true rfl) rfl (Or.inl ⟨rfl, Or.inl rfl⟩) ?_
      refine x_aload_n dX4_readHead_81 rfl ?_
      refine x_getr (r' := 4) flX4_12 dX4_readHead_82 (sW3 hW) (gW3 hW) (rW3_0 hW) rfl (Nat.le_of_ble_eq_true rfl) ?_
      refine x_aload_n dX4_readHead_85 rfl ?_
      refine x_geti (e := ((v 3 1) + 1)) 0 flX4_18 dX4_readHead_86 (sW3 hW) (gW3 hW) rfl rfl (Nat.le_of_ble_eq_true rfl) (tagn2 rfl) ?_
      refine x_puti 0 fwX4_70 dX4_readHead_89 (sW4 hW) (gW4 hW) (fun h => Bool.noConfusion h) (Nat.le_of_ble_eq_true rfl) rfl (Or.inl ⟨rfl, Or.inl rfl⟩) ?_
      refine x_aload_n dX4_readHead_92 rfl ?_
      refine x_getr (r' := 4) flX4_12 dX4_readHead_93 (sW3 hW) (gW3 hW) (rW3_0 hW) rfl (Nat.le_of_ble_eq_true rfl) ?_
      refine x_aload_n dX4_readHead_96 rfl ?_
      refine x_geti (e := ((v 3 1) + 1)) 0 flX4_18 dX4_readHead_97 (sW3 hW) (gW3 hW) rfl rfl (Nat.le_of_ble_eq_true rfl) (tagn2 rfl) ?_
      refine x_iconst dX4_readHead_100 rfl (i32_of rfl) ?_
      refine x_si32 (i := 1) rfl (fun hk1 => ?_)
      obtain ⟨hz, F⟩ := F
      have hz := hz hk1
      refine x_iadd dX4_readHead_101 hz ?_
      refine x_puti 0 fwX4_73 dX4_readHead_102 (sW4 hW) (gW4 hW) (fun h => Bool.noConfusion h) (Nat.le_of_ble_eq_true rfl) rfl (Or.inl ⟨rfl, Or.inl rfl⟩) ?_
      refine x_aload_n dX4_readHead_105 rfl ?_
      obtain ⟨P5, hC, F⟩ := F
      refine x_inv dX4_readHead_106 mlX4_76 hC (sW3 hW) (Nat.le_of_ble_eq_true rfl) (gW3 hW) rfl rfl (by omega) (Nat.zero_le _) (Nat.zero_le _) (Nat.le_of_ble_eq_true rfl) (fun o1 Y8 w7 ht hP => ?_)
      obtain ⟨r6, rfl⟩ : ∃ i, o1 = some (0, i) := ht
      obtain ⟨hX, hP⟩ := hP
      have hX := Eq.symm hX
      subst hX
      have F := F r6 w7 hP
      exact x_ret (some (0, r6)) rfl ⟨dX4_readHead_109, Or.inr ⟨rfl, F.1⟩⟩ F.2
    · have F := F.2 hc
      refine x_iconst dX4_readHead_63 rfl (i32_of rfl) ?_
      refine x_goto 68 dX4_readHead_64 rfl ?_
      refine x_puti 0 fwX4_32 dX4_readHead_68 (sW4 hW) (gW4 hW) (fun h => Bool.noConfusion h) (Nat.le_of_ble_eq_true rfl) rfl (Or.inl ⟨rfl, Or.inl rfl⟩) ?_
      refine x_aload_n dX4_readHead_71 rfl ?_
      refine x_dup dX4_readHead_72 (tag1 rfl) ?_
      refine x_geti (e := (v 3 1)) 0 flX4_18 dX4_readHead_73 (sW3 hW) (gW3 hW) rfl rfl (Nat.le_of_ble_eq_true rfl) (tagn2 rfl) ?_
      refine x_iconst dX4_readHead_76 rfl (i32_of rfl) ?_
      refine x_si32 (i := 1) rfl (fun hk1 => ?_)
      obtain ⟨hz, F⟩ := F
      have hz := hz hk1
      refine x_iadd dX4_readHead_77 hz ?_
      refine x_puti 0 fwX4_18 dX4_readHead_78 (sW3 hW) (gW3 hW) (fun h => Bool.noConfusion h) (Nat.le_of_ble_eq_true rfl) rfl (Or.inl ⟨rfl, Or.inl rfl⟩) ?_
      refine x_aload_n dX4_readHead_81 rfl ?_
      refine x_getr (r' := 4) flX4_12 dX4_readHead_82 (sW3 hW) (gW3 hW) (rW3_0 hW) rfl (Nat.le_of_ble_eq_true rfl) ?_
      refine x_aload_n dX4_readHead_85 rfl ?_
      refine x_geti (e := ((v 3 1) + 1)) 0 flX4_18 dX4_readHead_86 (sW3 hW) (gW3 hW) rfl rfl (Nat.le_of_ble_eq_true rfl) (tagn2 rfl) ?_
      refine x_puti 0 fwX4_70 dX4_readHead_89 (sW4 hW) (gW4 hW) (fun h => Bool.noConfusion h) (Nat.le_of_ble_eq_true rfl) rfl (Or.inl ⟨rfl, Or.inl rfl⟩) ?_
      refine x_aload_n dX4_readHead_92 rfl ?_
      refine x_getr (r' := 4) flX4_12 dX4_readHead_93 (sW3 hW) (gW3 hW) (rW3_0 hW) rfl (Nat.le_of_ble_eq_true rfl) ?_
      refine x_aload_n dX4_readHead_96 rfl ?_
      refine x_geti (e := ((v 3 1) + 1)) 0 flX4_18 dX4_readHead_97 (sW3 hW) (gW3 hW) rfl rfl (Nat.le_of_ble_eq_true rfl) (tagn2 rfl) ?_
      refine x_iconst dX4_readHead_100 rfl (i32_of rfl) ?_
      refine x_si32 (i := 1) rfl (fun hk1 => ?_)
      obtain ⟨hz, F⟩ := F
      have hz := hz hk1
      refine x_iadd dX4_readHead_101 hz ?_
      refine x_puti 0 fwX4_73 dX4_readHead_102 (sW4 hW) (gW4 hW) (fun h => Bool.noConfusion h) (Nat.le_of_ble_eq_true rfl) rfl (Or.inl ⟨rfl, Or.inl rfl⟩) ?_
      refine x_aload_n dX4_readHead_105 rfl ?_
      obtain ⟨P9, hC, F⟩ := F
      refine x_inv dX4_readHead_106 mlX4_76 hC (sW3 hW) (Nat.le_of_ble_eq_true rfl) (gW3 hW) rfl rfl (by omega) (Nat.zero_le _) (Nat.zero_le _) (Nat.le_of_ble_eq_true rfl) (fun o1 Y12 w11 ht hP => ?_)
      obtain ⟨r10, rfl⟩ : ∃ i, o1 = some (0, i) := ht
      obtain ⟨hX, hP⟩ := hP
      have hX := Eq.symm hX
      subst hX
      have F := F r10 w11 hP
      exact x_ret (some (0, r10)) rfl ⟨dX4_readHead_109, Or.inr ⟨rfl, F.1⟩⟩ F.2
  · have F := F.2 hc
    refine x_iconst dX4_readHead_52 rfl (i32_of rfl) ?_
    refine x_goto 68 dX4_readHead_53 rfl ?_
    refine x_puti 0 fwX4_32 dX4_readHead_68 (sW4 hW) (gW4 hW) (fun h => Bool.noConfusion h) (Nat.le_of_ble_eq_true rfl) rfl (Or.inl ⟨rfl, Or.inl rfl⟩) ?_
    refine x_aload_n dX4_readHead_71 rfl ?_
    refine x_dup dX4_readHead_72 (tag1 rfl) ?_
    refine x_geti (e := (v 3 1)) 0 flX4_18 dX4_readHead_73 (sW3 hW) (gW3 hW) rfl rfl (Nat.le_of_ble_eq_true rfl) (tagn2 rfl) ?_
    refine x_iconst dX4_readHead_76 rfl (i32_of rfl) ?_
    refine x_si32 (i := 1) rfl (fun hk1 => ?_)
    obtain ⟨hz, F⟩ := F
    have hz := hz hk1
    refine x_iadd dX4_readHead_77 hz ?_
    refine x_puti 0 fwX4_18 dX4_readHead_78 (sW3 hW) (gW3 hW) (fun h => Bool.noConfusion h) (Nat.le_of_ble_eq_true rfl) rfl (Or.inl ⟨rfl, Or.inl rfl⟩) ?_
    refine x_aload_n dX4_readHead_81 rfl ?_
    refine x_getr (r' := 4) flX4_12 dX4_readHead_82 (sW3 hW) (gW3 hW) (rW3_0 hW) rfl (Nat.le_of_ble_eq_true rfl) ?_
    refine x_aload_n dX4_readHead_85 rfl ?_
    refine x_geti (e := ((v 3 1) + 1)) 0 flX4_18 dX4_readHead_86 (sW3 hW) (gW3 hW) rfl rfl (Nat.le_of_ble_eq_true rfl) (tagn2 rfl) ?_
    refine x_puti 0 fwX4_70 dX4_readHead_89 (sW4 hW) (gW4 hW) (fun h => Bool.noConfusion h) (Nat.le_of_ble_eq_true rfl) rfl (Or.inl ⟨rfl, Or.inl rfl⟩) ?_
    refine x_aload_n dX4_readHead_92 rfl ?_
    refine x_getr (r' := 4) flX4_12 dX4_readHead_93 (sW3 hW) (gW3 hW) (rW3_0 hW) rfl (Nat.le_of_ble_eq_true rfl) ?_
    refine x_aload_n dX4_readHead_96 rfl ?_
    refine x_geti (e := ((v 3 1) + 1)) 0 flX4_18 dX4_readHead_97 (sW3 hW) (gW3 hW) rfl rfl (Nat.le_of_ble_eq_true rfl) (tagn2 rfl) ?_
    refine x_iconst dX4_readHead_100 rfl (i32_of rfl) ?_
    refine x_si32 (i := 1) rfl (fun hk1 => ?_)
    obtain ⟨hz, F⟩ := F
    have hz := hz hk1
    refine x_iadd dX4_readHead_101 hz ?_
    refine x_puti 0 fwX4_73 dX4_readHead_102 (sW4 hW) (gW4 hW) (fun h => Bool.noConfusion h) (Nat.le_of_ble_eq_true rfl) rfl (Or.inl ⟨rfl, Or.inl rfl⟩) ?_
    refine x_aload_n dX4_readHead_105 rfl ?_
    obtain ⟨P13, hC, F⟩ := F
    refine x_inv dX4_readHead_106 mlX4_76 hC (sW3 hW) (Nat.le_of_ble_eq_true rfl) (gW3 hW) rfl rfl (by omega) (Nat.zero_le _) (Nat.zero_le _) (Nat.le_of_ble_eq_true rfl) (fun o1 Y16 w15 ht hP => ?_)
    obtain ⟨r14, rfl⟩ : ∃ i, o1 = some (0, i) := ht
    obtain ⟨hX, hP⟩ := hP
    have hX := Eq.symm hX
    subst hX
    have F := F r14 w15 hP
    exact x_ret (some (0, r14)) rfl ⟨dX4_readHead_109, Or.inr ⟨rfl, F.1⟩⟩ F.2
