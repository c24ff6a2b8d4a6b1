set_option maxRecDepth 100000 in
set_option maxHeartbeats 4000000 in
theorem bX11_isMore_0 {d mc ms : Nat} {X : XX} {v : VV} {Q : QQ} (hd : 0 ≤ d) (hW : SW X) (F : ((((v 47 29) = 43) → Q (some (0, 1)) X v) ∧ ((¬ (v 47 29) = 43) → ((((v 47 29) = 45) → Q (some (0, 1)) X v) ∧ ((¬ (v 47 29) = 45) → (((¬ (v 47 29) = 38) → Q (some (0, 0)) X v) ∧ (((v 47 29) = 38) → Q (some (0, 1)) X v))))))) : Ex mX11_isMore d 0 [(2, 47)] [] X v mc ms Q := by
  refine x_aload_n dX11_isMore_0 rfl ?_
  refine x_geti (e := (v 47 29)) 0 flX11_197 dX11_isMore_1 (sW47 hW) (gW47 hW) rfl rfl (Nat.le_of_ble_eq_true rfl) (tagn2 rfl) ?_
  refine x_bipush dX11_isMore_4 kb_43 (i32_of rfl) ?_
  refine x_icmp_eq 27 dX11_isMore_6 rfl (fun hc => ?_) (fun hc => ?_)
  · have F := F.1 hc
    refine x_iconst dX11_isMore_27 rfl (i32_of rfl) ?_
    refine x_goto 32 dX11_isMore_28 rfl ?_
    exact x_ret (some (0, 1)) rfl ⟨dX11_isMore_32, Or.inr ⟨rfl, Or.inr rfl⟩⟩ F
  · have F := F.2 hc
    refine x_aload_n dX11_isMore_9 rfl ?_
    refine x_geti (e := (v 47 29)) 0 flX11_197 dX11_isMore_10 (sW47 hW) (gW47 hW) rfl rfl (Nat.le_of_ble_eq_true rfl) (tagn2 rfl) ?_
    refine x_bipush dX11_isMore_13 kb_45 (i32_of rfl) ?_
    refine x_icmp_eq 27 dX11_isMore_15 rfl (fun hc => ?_) (fun hc => ?_)
    · have F := F.1 hc
      refine x_iconst dX11_isMore_27 rfl (i32_of rfl) ?_
      refine x_goto 32 dX11_isMore_28 rfl ?_
      exact x_ret (some (0, 1)) rfl ⟨dX11_isMore_32, Or.inr ⟨rfl, Or.inr rfl⟩⟩ F
    · have F := F.2 hc
      refine x_aload_n dX11_isMore_18 rfl ?_
      refine x_geti (e := (v 47 29)) 0 flX11_197 dX11_isMore_19 (sW47 hW) (gW47 hW) rfl rfl (Nat.le_of_ble_eq_true rfl) (tagn2 rfl) ?_
      refine x_bipush dX11_isMore_22 kb_38 (i32_of rfl) ?_
      refine x_icmp_ne 31 dX11_isMore_24 rfl (fun hc => ?_) (fun hc => ?_)
      · have F := F.1 hc
        refine x_iconst dX11_isMore_31 rfl (i32_of rfl) ?_
        exact x_ret (some (0, 0)) rfl ⟨dX11_isMore_32, Or.inr ⟨rfl, Or.inl rfl⟩⟩ F
      · have F := F.2 hc
        refine x_iconst dX11_isMore_27 rfl (i32_of rfl) ?_
        refine x_goto 32 dX11_isMore_28 rfl ?_
        exact x_ret (some (0, 1)) rfl ⟨dX11_isMore_32, Or.inr ⟨rfl, Or.inr rfl⟩⟩ F

set_option maxRecDepth 100000 in
set_option maxHeartbeats 4000000 in
theorem bX11_term_0 {d mc ms : Nat} {X : XX} {v : VV} {Q : QQ} (hd : 4 ≤ d) (hW : SW X) (F : (((¬ (v 47 29) = 2) → (((¬ (v 47 29) = 3) → ∃ P1 : Option AV → VV → Prop, Con mX11_name 3 0 0 [(2, 47)] X v (fun o X1 v1 => X1 = X ∧ P1 o v1) ∧ ∀ (w3 : VV), P1 none w3 → (((¬ (w3 47 25) = 0) → Ex mX11_term d 165 [(2, 47)] [] X w3 mc ms Q) ∧ (((w3 47 25) = 0) → ∃ P5 : Option AV → VV → Prop, Con mX11_sign 3 0 0 [(2, 47), (0, 46)] X w3 (fun o X1 v1 => X1 = X ∧ P5 o v1) ∧ ∀ (w7 : VV), P5 none w7 → Ex mX11_term d 165 [(2, 47)] [] X w7 mc ms Q))) ∧ (((v 47 29) = 3) → Ex mX11_term d 43 [(2, 47)] [] X v mc ms Q))) ∧ (((v 47 29) = 2) → ((((v 47 31) = (-1)) → ∃ P9 : Option AV → VV → Prop, Con mX11_keeps 2 0 0 [(2, 47)] X v (fun o X1 v1 => X1 = X ∧ P9 o v1) ∧ ∀ (w11 : VV), P9 none w11 → Q none X w11) ∧ ((¬ (v 47 31) = (-1)) → ∃ P13 : Option AV → VV → Prop, Con mX11_fail 0 0 0 [(2, 47), (0, 1), (0, (v 47 31))] X v (fun o X1 v1 => X1 = X ∧ P13 o v1) ∧ ∀ (w15 : VV), P13 none w15 → Q none X w15))))) : Ex mX11_term d 0 [(2, 47)] [] X v mc ms Q := by
  refine x_aload_n dX11_term_0 rfl ?_
  refine x_geti (e := (v 47 29)) 0 flX11_197 dX11_term_1 (sW47 hW) (gW47 hW) rfl rfl (Nat.le_of_ble_eq_true rfl) (tagn2 rfl) ?_
  refine x_iconst dX11_term_4 rfl (i32_of rfl) ?_
  refine x_icmp_ne 35 dX11_term_5 rfl (fun hc => ?_) (fun hc => ?_)
  · have F := F.1 hc
    refine x_aload_n dX11_term_35 rfl ?_
    refine x_geti (e := (v 47 29)) 0 flX11_197 dX11_term_36 (sW47 hW) (gW47 hW) rfl rfl (Nat.le_of_ble_eq_true rfl) (tagn2 rfl) ?_
    refine x_iconst dX11_term_39 rfl (i32_of rfl) ?_
    refine x_icmp_ne 148 dX11_term_40 rfl (fun hc => ?_) (fun hc => ?_)
    · have F := F.1 hc
      refine x_aload_n dX11_term_148 rfl ?_
      obtain ⟨P1, hC, F⟩ := F
      refine x_inv dX11_term_149 mlX11_238 hC (sW47 hW) (Nat.le_of_ble_eq_true rfl) (gW47 hW) rfl rfl (by omega) (Nat.zero_le _) (Nat.zero_le _) (Nat.le_of_ble_eq_true rfl) (fun o1 Y4 w3 ht hP => ?_)
      obtain rfl : o1 = none := ht
      obtain ⟨rfl, hP⟩ := hP
      have F := F w3 hP
      refine x_aload_n dX11_term_152 rfl ?_
      refine x_geti (e := (w3 47 25)) 0 flX11_169 dX11_term_153 (sW47 hW) (gW47 hW) rfl rfl (Nat.le_of_ble_eq_true rfl) (tagn2 rfl) ?_
      refine x_if_ne 165 dX11_term_156 rfl (fun hc => ?_) (fun hc => ?_)
      · have F := F.1 hc
        exact F
      · have F := F.2 hc
        refine x_aload_n dX11_term_159 rfl ?_
        refine x_bipush dX11_term_160 kb_46 (i32_of rfl) ?_
        obtain ⟨P5, hC, F⟩ := F
        refine x_inv dX11_term_162 mlX11_231 hC (sW47 hW) (Nat.le_of_ble_eq_true rfl) (gW47 hW) rfl rfl (by omega) (Nat.zero_le _) (Nat.zero_le _) (Nat.le_of_ble_eq_true rfl) (fun o1 Y8 w7 ht hP => ?_)
        obtain rfl : o1 = none := ht
        obtain ⟨rfl, hP⟩ := hP
        have F := F w7 hP
        exact F
    · have F := F.2 hc
      exact F
  · have F := F.2 hc
    refine x_aload_n dX11_term_8 rfl ?_
    refine x_geti (e := (v 47 31)) 0 flX11_191 dX11_term_9 (sW47 hW) (gW47 hW) rfl rfl (Nat.le_of_ble_eq_true rfl) (tagn2 rfl) ?_
    refine x_iconst dX11_term_12 rfl (i32_of rfl) ?_
    refine x_icmp_eq 28 dX11_term_13 rfl (fun hc => ?_) (fun hc => ?_)
    · have F := F.1 hc
      refine x_aload_n dX11_term_28 rfl ?_
      obtain ⟨P9, hC, F⟩ := F
      refine x_inv dX11_term_29 mlX11_213 hC (sW47 hW) (Nat.le_of_ble_eq_true rfl) (gW47 hW) rfl rfl (by omega) (Nat.zero_le _) (Nat.zero_le _) (Nat.le_of_ble_eq_true rfl) (fun o1 Y12 w11 ht hP => ?_)
      obtain rfl : o1 = none := ht
      obtain ⟨rfl, hP⟩ := hP
      have F := F w11 hP
      refine x_goto 176 dX11_term_32 rfl ?_
      exact x_ret none rfl ⟨dX11_term_176, rfl⟩ F
    · have F := F.2 hc
      refine x_aload_n dX11_term_16 rfl ?_
      refine x_iconst dX11_term_17 rfl (i32_of rfl) ?_
      refine x_aload_n dX11_term_18 rfl ?_
      refine x_geti (e := (v 47 31)) 0 flX11_191 dX11_term_19 (sW47 hW) (gW47 hW) rfl rfl (Nat.le_of_ble_eq_true rfl) (tagn2 rfl) ?_
      obtain ⟨P13, hC, F⟩ := F
      refine x_inv dX11_term_22 mlX11_216 hC (sW47 hW) (Nat.le_of_ble_eq_true rfl) (gW47 hW) rfl rfl (by omega) (Nat.zero_le _) (Nat.zero_le _) (Nat.le_of_ble_eq_true rfl) (fun o1 Y16 w15 ht hP => ?_)
      obtain rfl : o1 = none := ht
      obtain ⟨rfl, hP⟩ := hP
      have F := F w15 hP
      refine x_goto 176 dX11_term_25 rfl ?_
      exact x_ret none rfl ⟨dX11_term_176, rfl⟩ F

set_option maxRecDepth 100000 in
set_option maxHeartbeats 4000000 in
theorem bX11_term_43 {d mc ms : Nat} {X : XX} {v : VV} {Q : QQ} (hd : 4 ≤ d) (hW : SW X) (F : ((((v 47 24) ≤ (v 47 23)) → Ex mX11_term d 96 [(2, 47)] [] X v mc ms Q) ∧ (((v 47 23) < (v 47 24)) → (0 ≤ (v 47 23) ∧ (v 47 23) < 400) ∧ ∃ P17 : Option AV → VV → Prop, Con mX11_isLetter 0 0 0 [(0, (v 68 (v 47 23)))] X v (fun o X1 v1 => X1 = X ∧ P17 o v1) ∧ ∀ (r18 : Int) (w19 : VV), P17 (some (0, r18)) w19 → (((¬ r18 = 0) → Ex mX11_term d 83 [(2, 47)] [] X w19 mc ms Q) ∧ ((r18 = 0) → (0 ≤ (w19 47 23) ∧ (w19 47 23) < 400) ∧ (((¬ (w19 68 (w19 47 23)) = 32) → Ex mX11_term d 96 [(2, 47)] [] X w19 mc ms Q) ∧ (((w19 68 (w19 47 23)) = 32) → Ex mX11_term d 83 [(2, 47)] [] X w19 mc ms Q))))))) : Ex mX11_term d 43 [(2, 47)] [] X v mc ms Q := by
  refine x_aload_n dX11_term_43 rfl ?_
  refine x_geti (e := (v 47 23)) 0 flX11_179 dX11_term_44 (sW47 hW) (gW47 hW) rfl rfl (Nat.le_of_ble_eq_true rfl) (tagn2 rfl) ?_
  refine x_aload_n dX11_term_47 rfl ?_
  refine x_geti (e := (v 47 24)) 0 flX11_182 dX11_term_48 (sW47 hW) (gW47 hW) rfl rfl (Nat.le_of_ble_eq_true rfl) (tagn2 rfl) ?_
  refine x_icmp_ge 96 dX11_term_51 rfl (fun hc => ?_) (fun hc => ?_)
  · have F := F.1 hc
    exact F
  · have F := F.2 hc
    refine x_aload_n dX11_term_54 rfl ?_
    refine x_getr (r' := 68) flX11_72 dX11_term_55 (sW47 hW) (gW47 hW) (rW47_21 hW) rfl (Nat.le_of_ble_eq_true rfl) ?_
    refine x_aload_n dX11_term_58 rfl ?_
    refine x_geti (e := (v 47 23)) 0 flX11_179 dX11_term_59 (sW47 hW) (gW47 hW) rfl rfl (Nat.le_of_ble_eq_true rfl) (tagn2 rfl) ?_
    obtain ⟨hi, F⟩ := F
    refine x_iald (e := (v 68 (v 47 23))) dX11_term_62 (sW68 hW) (gW68 hW) hi rfl ?_
    obtain ⟨P17, hC, F⟩ := F
    refine x_static dX11_term_63 mlX11_200 hC rfl rfl (by omega) (Nat.zero_le _) (Nat.zero_le _) (Nat.le_of_ble_eq_true rfl) (fun o1 Y20 w19 ht hP => ?_)
    obtain ⟨r18, rfl⟩ : ∃ i, o1 = some (0, i) := ht
    obtain ⟨rfl, hP⟩ := hP
    have F := F r18 w19 hP
    refine x_if_ne 83 dX11_term_66 rfl (fun hc => ?_) (fun hc => ?_)
    · have F := F.1 hc
      exact F
    · have F := F.2 hc
      refine x_aload_n dX11_term_69 rfl ?_
      refine x_getr (r' := 68) flX11_72 dX11_term_70 (sW47 hW) (gW47 hW) (rW47_21 hW) rfl (Nat.le_of_ble_eq_true rfl) ?_
      refine x_aload_n dX11_term_73 rfl ?_
      refine x_geti (e := (w19 47 23)) 0 flX11_179 dX11_term_74 (sW47 hW) (gW47 hW) rfl rfl (Nat.le_of_ble_eq_true rfl) (tagn2 rfl) ?_
      obtain ⟨hi, F⟩ := F
      refine x_iald (e := (w19 68 (w19 47 23))) dX11_term_77 (sW68 hW) (gW68 hW) hi rfl ?_
      refine x_bipush dX11_term_78 kb_32 (i32_of rfl) ?_
      refine x_icmp_ne 96 dX11_term_80 rfl (fun hc => ?_) (fun hc => ?_)
      · have F := F.1 hc
        exact F
      · have F := F.2 hc
        exact F

set_option maxRecDepth 100000 in
set_option maxHeartbeats 4000000 in
theorem bX11_term_83 {d mc ms : Nat} {X : XX} {v : VV} {Q : QQ} (hd : 4 ≤ d) (hW : SW X) (F : (i32 (v 47 23) → i32 ((v 47 23) + 1)) ∧ Ex mX11_term d 43 [(2, 47)] [] X (upd2 v 47 23 ((v 47 23) + 1)) mc ms Q) : Ex mX11_term d 83 [(2, 47)] [] X v mc ms Q := by
  refine x_aload_n dX11_term_83 rfl ?_
  refine x_dup dX11_term_84 (tag1 rfl) ?_
  refine x_geti (e := (v 47 23)) 0 flX11_179 dX11_term_85 (sW47 hW) (gW47 hW) rfl rfl (Nat.le_of_ble_eq_true rfl) (tagn2 rfl) ?_
  refine x_iconst dX11_term_88 rfl (i32_of rfl) ?_
  refine x_si32 (i := 1) rfl (fun hk1 => ?_)
  obtain ⟨hz, F⟩ := F
  have hz := hz hk1
  refine x_iadd dX11_term_89 hz ?_
  refine x_puti 0 fwX11_179 dX11_term_90 (sW47 hW) (gW47 hW) (fun h => Bool.noConfusion h) (Nat.le_of_ble_eq_true rfl) rfl (Or.inl ⟨rfl, Or.inl rfl⟩) ?_
  refine x_goto 43 dX11_term_93 rfl ?_
  exact F

set_option maxRecDepth 100000 in
set_option maxHeartbeats 4000000 in
theorem bX11_term_96 {d mc ms : Nat} {X : XX} {v : VV} {Q : QQ} (hd : 4 ≤ d) (hW : SW X) (F : ((((v 47 23) = (v 47 24)) → ∃ P21 : Option AV → VV → Prop, Con mX11_fail 0 0 0 [(2, 47), (0, 1), (0, (v 47 23))] X v (fun o X1 v1 => X1 = X ∧ P21 o v1) ∧ ∀ (w23 : VV), P21 none w23 → Q none X w23) ∧ ((¬ (v 47 23) = (v 47 24)) → (0 ≤ (v 47 23) ∧ (v 47 23) < 400) ∧ ((((v 68 (v 47 23)) = 39) → (i32 (v 47 23) → i32 ((v 47 23) + 1)) ∧ ∃ P25 : Option AV → VV → Prop, Con mX11_keeps 2 0 0 [(2, 47)] X (upd2 v 47 23 ((v 47 23) + 1)) (fun o X1 v1 => X1 = X ∧ P25 o v1) ∧ ∀ (w27 : VV), P25 none w27 → Q none X w27) ∧ ((¬ (v 68 (v 47 23)) = 39) → ∃ P29 : Option AV → VV → Prop, Con mX11_fail 0 0 0 [(2, 47), (0, 1), (0, (v 47 23))] X v (fun o X1 v1 => X1 = X ∧ P29 o v1) ∧ ∀ (w31 : VV), P29 none w31 → Q none X w31))))) : Ex mX11_term d 96 [(2, 47)] [] X v mc ms Q := by
  refine x_aload_n dX11_term_96 rfl ?_
  refine x_geti (e := (v 47 23)) 0 flX11_179 dX11_term_97 (sW47 hW) (gW47 hW) rfl rfl (Nat.le_of_ble_eq_true rfl) (tagn2 rfl) ?_
  refine x_aload_n dX11_term_100 rfl ?_
  refine x_geti (e := (v 47 24)) 0 flX11_182 dX11_term_101 (sW47 hW) (gW47 hW) rfl rfl (Nat.le_of_ble_eq_true rfl) (tagn2 rfl) ?_
  refine x_icmp_eq 121 dX11_term_104 rfl (fun hc => ?_) (fun hc => ?_)
  · have F := F.1 hc
    refine x_aload_n dX11_term_121 rfl ?_
    refine x_iconst dX11_term_122 rfl (i32_of rfl) ?_
    refine x_aload_n dX11_term_123 rfl ?_
    refine x_geti (e := (v 47 23)) 0 flX11_179 dX11_term_124 (sW47 hW) (gW47 hW) rfl rfl (Nat.le_of_ble_eq_true rfl) (tagn2 rfl) ?_
    obtain ⟨P21, hC, F⟩ := F
    refine x_inv dX11_term_127 mlX11_216 hC (sW47 hW) (Nat.le_of_ble_eq_true rfl) (gW47 hW) rfl rfl (by omega) (Nat.zero_le _) (Nat.zero_le _) (Nat.le_of_ble_eq_true rfl) (fun o1 Y24 w23 ht hP => ?_)
    obtain rfl : o1 = none := ht
    obtain ⟨rfl, hP⟩ := hP
    have F := F w23 hP
    exact x_ret none rfl ⟨dX11_term_130, rfl⟩ F
  · have F := F.2 hc
    refine x_aload_n dX11_term_107 rfl ?_
    refine x_getr (r' := 68) flX11_72 dX11_term_108 (sW47 hW) (gW47 hW) (rW47_21 hW) rfl (Nat.le_of_ble_eq_true rfl) ?_
    refine x_aload_n dX11_term_111 rfl ?_
    refine x_geti (e := (v 47 23)) 0 flX11_179 dX11_term_112 (sW47 hW) (gW47 hW) rfl rfl (Nat.le_of_ble_eq_true rfl) (tagn2 rfl) ?_
    obtain ⟨hi, F⟩ := F
    refine x_iald (e := (v 68 (v 47 23))) dX11_term_115 (sW68 hW) (gW68 hW) hi rfl ?_
    refine x_bipush dX11_term_116 kb_39 (i32_of rfl) ?_
    refine x_icmp_eq 131 dX11_term_118 rfl (fun hc => ?_) (fun hc => ?_)
    · have F := F.1 hc
      refine x_aload_n dX11_term_131 rfl ?_
      refine x_dup dX11_term_132 (tag1 rfl) ?_
      refine x_geti (e := (v 47 23)) 0 flX11_179 dX11_term_133 (sW47 hW) (gW47 hW) rfl rfl (Nat.le_of_ble_eq_true rfl) (tagn2 rfl) ?_
      refine x_iconst dX11_term_136 rfl (i32_of rfl) ?_
      refine x_si32 (i := 1) rfl (fun hk1 => ?_)
      obtain ⟨hz, F⟩ := F
      have hz := hz hk1
      refine x_iadd dX11_term_137 hz ?_
      refine x_puti 0 fwX11_179 dX11_term_138 (sW47 hW) (gW47 hW) (fun h => Bool.noConfusion h) (Nat.le_of_ble_eq_true rfl) rfl (Or.inl ⟨rfl, Or.inl rfl⟩) ?_
      refine x_aload_n dX11_term_141 rfl ?_
      obtain ⟨P25, hC, F⟩ := F
      refine x_inv dX11_term_142 mlX11_213 hC (sW47 hW) (Nat.le_of_ble_eq_true rfl) (gW47 hW) rfl rfl (by omega) (Nat.zero_le _) (Nat.zero_le _) (Nat.le_of_ble_eq_true rfl) (fun o1 Y28 w27 ht hP => ?_)
      obtain rfl : o1 = none := ht
      obtain ⟨rfl, hP⟩ := hP
      have F := F w27 hP
      refine x_goto 176 dX11_term_145 rfl ?_
      exact x_ret none rfl ⟨dX11_term_176, rfl⟩ F
    · have F := F.2 hc
      refine x_aload_n dX11_term_121 rfl ?_
      refine x_iconst dX11_term_122 rfl (i32_of rfl) ?_
      refine x_aload_n dX11_term_123 rfl ?_
      refine x_geti (e := (v 47 23)) 0 flX11_179 dX11_term_124 (sW47 hW) (gW47 hW) rfl rfl (Nat.le_of_ble_eq_true rfl) (tagn2 rfl) ?_
      obtain ⟨P29, hC, F⟩ := F
      refine x_inv dX11_term_127 mlX11_216 hC (sW47 hW) (Nat.le_of_ble_eq_true rfl) (gW47 hW) rfl rfl (by omega) (Nat.zero_le _) (Nat.zero_le _) (Nat.le_of_ble_eq_true rfl) (fun o1 Y32 w31 ht hP => ?_)
      obtain rfl : o1 = none := ht
      obtain ⟨rfl, hP⟩ := hP
      have F := F w31 hP
      exact x_ret none rfl ⟨dX11_term_130, rfl⟩ F

set_option maxRecDepth 100000 in
set_option maxHeartbeats 4000000 in
theorem bX11_term_165 {d mc ms : Nat} {X : XX} {v : VV} {Q : QQ} (hd : 4 ≤ d) (hW : SW X) (F : (((¬ (v 47 25) = 0) → Q none X v) ∧ (((v 47 25) = 0) → ∃ P33 : Option AV → VV → Prop, Con mX11_name 3 0 0 [(2, 47)] X v (fun o X1 v1 => X1 = X ∧ P33 o v1) ∧ ∀ (w35 : VV), P33 none w35 → Q none X w35))) : Ex mX11_term d 165 [(2, 47)] [] X v mc ms Q := by
  refine x_aload_n dX11_term_165 rfl ?_
  refine x_geti (e := (v 47 25)) 0 flX11_169 dX11_term_166 (sW47 hW) (gW47 hW) rfl rfl (Nat.le_of_ble_eq_true rfl) (tagn2 rfl) ?_
  refine x_if_ne 176 dX11_term_169 rfl (fun hc => ?_) (fun hc => ?_)
  · have F := F.1 hc
    exact x_ret none rfl ⟨dX11_term_176, rfl⟩ F
  · have F := F.2 hc
    refine x_aload_n dX11_term_172 rfl ?_
    obtain ⟨P33, hC, F⟩ := F
    refine x_inv dX11_term_173 mlX11_238 hC (sW47 hW) (Nat.le_of_ble_eq_true rfl) (gW47 hW) rfl rfl (by omega) (Nat.zero_le _) (Nat.zero_le _) (Nat.le_of_ble_eq_true rfl) (fun o1 Y36 w35 ht hP => ?_)
    obtain rfl : o1 = none := ht
    obtain ⟨rfl, hP⟩ := hP
    have F := F w35 hP
    exact x_ret none rfl ⟨dX11_term_176, rfl⟩ F

set_option maxRecDepth 100000 in
set_option maxHeartbeats 4000000 in
theorem bX11_source_0 {d mc ms : Nat} {X : XX} {v : VV} {Q : QQ} (hd : 4 ≤ d) (hW : SW X) (F : ∃ P1 : Option AV → VV → Prop, Con mX11_sign 3 0 0 [(2, 47), (0, 40)] X v (fun o X1 v1 => X1 = X ∧ P1 o v1) ∧ ∀ (w3 : VV), P1 none w3 → (((¬ (w3 47 25) = 0) → Ex mX11_source d 19 [(2, 47), (0, 0)] [] X w3 mc ms Q) ∧ (((w3 47 25) = 0) → Ex mX11_source d 19 [(2, 47), (0, 1)] [] X w3 mc ms Q))) : Ex mX11_source d 0 [(2, 47), (3, 0)] [] X v mc ms Q := by
  refine x_aload_n dX11_source_0 rfl ?_
  refine x_bipush dX11_source_1 kb_40 (i32_of rfl) ?_
  obtain ⟨P1, hC, F⟩ := F
  refine x_inv dX11_source_3 mlX11_231 hC (sW47 hW) (Nat.le_of_ble_eq_true rfl) (gW47 hW) rfl rfl (by omega) (Nat.zero_le _) (Nat.zero_le _) (Nat.le_of_ble_eq_true rfl) (fun o1 Y4 w3 ht hP => ?_)
  obtain rfl : o1 = none := ht
  obtain ⟨rfl, hP⟩ := hP
  have F := F w3 hP
  refine x_aload_n dX11_source_6 rfl ?_
  refine x_geti (e := (w3 47 25)) 0 flX11_169 dX11_source_7 (sW47 hW) (gW47 hW) rfl rfl (Nat.le_of_ble_eq_true rfl) (tagn2 rfl) ?_
  refine x_if_ne 17 dX11_source_10 rfl (fun hc => ?_) (fun hc => ?_)
  · have F := F.1 hc
    refine x_iconst dX11_source_17 rfl (i32_of rfl) ?_
    refine x_istore_n [(2, 47), (0, 0)] dX11_source_18 rfl (Nat.le_of_ble_eq_true rfl) ?_
    exact F
  · have F := F.2 hc
    refine x_iconst dX11_source_13 rfl (i32_of rfl) ?_
    refine x_goto 18 dX11_source_14 rfl ?_
    refine x_istore_n [(2, 47), (0, 1)] dX11_source_18 rfl (Nat.le_of_ble_eq_true rfl) ?_
    exact F

set_option maxRecDepth 100000 in
set_option maxHeartbeats 4000000 in
theorem bX11_source_19 {d mc ms : Nat} {X : XX} {v : VV} {Q : QQ} (x1 : Int) (hd : 4 ≤ d) (hW : SW X) (F : i32 x1 → (((x1 = 0) → ∃ P5 : Option AV → VV → Prop, Con mX11_sign 3 0 0 [(2, 47), (0, 41)] X v (fun o X1 v1 => X1 = X ∧ P5 o v1) ∧ ∀ (w7 : VV), P5 none w7 → Q none X w7) ∧ ((¬ x1 = 0) → (0 ≤ (v 47 0) ∧ (v 47 0) < 17) ∧ (((¬ (v 51 (v 47 0)) = 6) → Ex mX11_source d 46 [(2, 47), (0, x1)] [] X v mc ms Q) ∧ (((v 51 (v 47 0)) = 6) → ∃ P9 : Option AV → VV → Prop, Con mX11_fail 0 0 0 [(2, 47), (0, 1), (0, (v 47 30))] X v (fun o X1 v1 => X1 = X ∧ P9 o v1) ∧ ∀ (w11 : VV), P9 none w11 → Ex mX11_source d 46 [(2, 47), (0, x1)] [] X w11 mc ms Q))))) : Ex mX11_source d 19 [(2, 47), (0, x1)] [] X v mc ms Q := by
  refine x_li32 (i := 1) rfl (fun hx1 => ?_)
  have F := F hx1
  refine x_iload_n dX11_source_19 rfl ?_
  refine x_if_eq 247 dX11_source_20 rfl (fun hc => ?_) (fun hc => ?_)
  · have F := F.1 hc
    refine x_aload_n dX11_source_247 rfl ?_
    refine x_bipush dX11_source_248 kb_41 (i32_of rfl) ?_
    obtain ⟨P5, hC, F⟩ := F
    refine x_inv dX11_source_250 mlX11_231 hC (sW47 hW) (Nat.le_of_ble_eq_true rfl) (gW47 hW) rfl rfl (by omega) (Nat.zero_le _) (Nat.zero_le _) (Nat.le_of_ble_eq_true rfl) (fun o1 Y8 w7 ht hP => ?_)
    obtain rfl : o1 = none := ht
    obtain ⟨rfl, hP⟩ := hP
    have F := F w7 hP
    exact x_ret none rfl ⟨dX11_source_253, rfl⟩ F
  · have F := F.2 hc
    refine x_aload_n dX11_source_23 rfl ?_
    refine x_getr (r' := 51) flX11_21 dX11_source_24 (sW47 hW) (gW47 hW) (rW47_4 hW) rfl (Nat.le_of_ble_eq_true rfl) ?_
    refine x_aload_n dX11_source_27 rfl ?_
    refine x_geti (e := (v 47 0)) 0 flX11_159 dX11_source_28 (sW47 hW) (gW47 hW) rfl rfl (Nat.le_of_ble_eq_true rfl) (tagn2 rfl) ?_
    obtain ⟨hi, F⟩ := F
    refine x_iald (e := (v 51 (v 47 0))) dX11_source_31 (sW51 hW) (gW51 hW) hi rfl ?_
    refine x_bipush dX11_source_32 kb_6 (i32_of rfl) ?_
    refine x_icmp_ne 46 dX11_source_34 rfl (fun hc => ?_) (fun hc => ?_)
    · have F := F.1 hc
      exact F
    · have F := F.2 hc
      refine x_aload_n dX11_source_37 rfl ?_
      refine x_iconst dX11_source_38 rfl (i32_of rfl) ?_
      refine x_aload_n dX11_source_39 rfl ?_
      refine x_geti (e := (v 47 30)) 0 flX11_188 dX11_source_40 (sW47 hW) (gW47 hW) rfl rfl (Nat.le_of_ble_eq_true rfl) (tagn2 rfl) ?_
      obtain ⟨P9, hC, F⟩ := F
      refine x_inv dX11_source_43 mlX11_216 hC (sW47 hW) (Nat.le_of_ble_eq_true rfl) (gW47 hW) rfl rfl (by omega) (Nat.zero_le _) (Nat.zero_le _) (Nat.le_of_ble_eq_true rfl) (fun o1 Y12 w11 ht hP => ?_)
      obtain rfl : o1 = none := ht
      obtain ⟨rfl, hP⟩ := hP
      have F := F w11 hP
      exact F

set_option maxRecDepth 100000 in
set_option maxHeartbeats 4000000 in
theorem bX11_source_46 {d mc ms : Nat} {X : XX} {v : VV} {Q : QQ} (x1 : Int) (hd : 4 ≤ d) (hW : SW X) (F : i32 x1 → (((¬ (v 47 25) = 0) → Ex mX11_source d 83 [(2, 47), (0, x1)] [] X v mc ms Q) ∧ (((v 47 25) = 0) → (i32 (v 47 0) → i32 (8 * (v 47 0))) ∧ (0 ≤ (v 47 0) ∧ (v 47 0) < 17) ∧ (i32 (v 51 (v 47 0)) → i32 (8 * (v 47 0)) → i32 ((8 * (v 47 0)) + (v 51 (v 47 0)))) ∧ (0 ≤ ((8 * (v 47 0)) + (v 51 (v 47 0))) ∧ ((8 * (v 47 0)) + (v 51 (v 47 0))) < 136) ∧ ∃ P13 : Option AV → VV → Prop, Con mX11_name 3 0 0 [(2, 47)] X (upd2 v 52 ((8 * (v 47 0)) + (v 51 (v 47 0))) (v 47 32)) (fun o X1 v1 => X1 = X ∧ P13 o v1) ∧ ∀ (w15 : VV), P13 none w15 → Ex mX11_source d 83 [(2, 47), (0, x1)] [] X w15 mc ms Q))) : Ex mX11_source d 46 [(2, 47), (0, x1)] [] X v mc ms Q := by
  refine x_li32 (i := 1) rfl (fun hx1 => ?_)
  have F := F hx1
  refine x_aload_n dX11_source_46 rfl ?_
  refine x_geti (e := (v 47 25)) 0 flX11_169 dX11_source_47 (sW47 hW) (gW47 hW) rfl rfl (Nat.le_of_ble_eq_true rfl) (tagn2 rfl) ?_
  refine x_if_ne 83 dX11_source_50 rfl (fun hc => ?_) (fun hc => ?_)
  · have F := F.1 hc
    exact F
  · have F := F.2 hc
    refine x_aload_n dX11_source_53 rfl ?_
    refine x_getr (r' := 52) flX11_24 dX11_source_54 (sW47 hW) (gW47 hW) (rW47_5 hW) rfl (Nat.le_of_ble_eq_true rfl) ?_
    refine x_bipush dX11_source_57 kb_8 (i32_of rfl) ?_
    refine x_aload_n dX11_source_59 rfl ?_
    refine x_geti (e := (v 47 0)) 0 flX11_159 dX11_source_60 (sW47 hW) (gW47 hW) rfl rfl (Nat.le_of_ble_eq_true rfl) (tagn2 rfl) ?_
    refine x_si32 (i := 0) rfl (fun hk0 => ?_)
    obtain ⟨hz, F⟩ := F
    have hz := hz hk0
    refine x_imul dX11_source_63 hz ?_
    refine x_aload_n dX11_source_64 rfl ?_
    refine x_getr (r' := 51) flX11_21 dX11_source_65 (sW47 hW) (gW47 hW) (rW47_4 hW) rfl (Nat.le_of_ble_eq_true rfl) ?_
    refine x_aload_n dX11_source_68 rfl ?_
    refine x_geti (e := (v 47 0)) 0 flX11_159 dX11_source_69 (sW47 hW) (gW47 hW) rfl rfl (Nat.le_of_ble_eq_true rfl) (tagn2 rfl) ?_
    obtain ⟨hi, F⟩ := F
    refine x_iald (e := (v 51 (v 47 0))) dX11_source_72 (sW51 hW) (gW51 hW) hi rfl ?_
    refine x_si32 (i := 0) rfl (fun hk0 => ?_)
    refine x_si32 (i := 1) rfl (fun hk1 => ?_)
    obtain ⟨hz, F⟩ := F
    have hz := hz hk0 hk1
    refine x_iadd dX11_source_73 hz ?_
    refine x_aload_n dX11_source_74 rfl ?_
    refine x_geti (e := (v 47 32)) 1 flX11_194 dX11_source_75 (sW47 hW) (gW47 hW) rfl rfl (Nat.le_of_ble_eq_true rfl) (tagn2 rfl) ?_
    obtain ⟨hi, F⟩ := F
    refine x_last dX11_source_78 (sW52 hW) (gW52 hW) hi ?_
    refine x_aload_n dX11_source_79 rfl ?_
    obtain ⟨P13, hC, F⟩ := F
    refine x_inv dX11_source_80 mlX11_238 hC (sW47 hW) (Nat.le_of_ble_eq_true rfl) (gW47 hW) rfl rfl (by omega) (Nat.zero_le _) (Nat.zero_le _) (Nat.le_of_ble_eq_true rfl) (fun o1 Y16 w15 ht hP => ?_)
    obtain rfl : o1 = none := ht
    obtain ⟨rfl, hP⟩ := hP
    have F := F w15 hP
    exact F

set_option maxRecDepth 100000 in
set_option maxHeartbeats 4000000 in
theorem bX11_source_83 {d mc ms : Nat} {X : XX} {v : VV} {Q : QQ} (x1 : Int) (hd : 4 ≤ d) (hW : SW X) (F : i32 x1 → (((¬ (v 47 25) = 0) → Ex mX11_source d 140 [(2, 47), (0, x1)] [] X v mc ms Q) ∧ (((v 47 25) = 0) → (((¬ (v 47 29) = 1) → Ex mX11_source d 131 [(2, 47), (0, x1)] [] X v mc ms Q) ∧ (((v 47 29) = 1) → ((((v 47 32) = 14) → Ex mX11_source d 140 [(2, 47), (0, x1)] [] X v mc ms Q) ∧ ((¬ (v 47 32) = 14) → ((((v 47 32) = 20) → Ex mX11_source d 140 [(2, 47), (0, x1)] [] X v mc ms Q) ∧ ((¬ (v 47 32) = 20) → ((((v 47 32) = 4) → Ex mX11_source d 140 [(2, 47), (0, x1)] [] X v mc ms Q) ∧ ((¬ (v 47 32) = 4) → Ex mX11_source d 131 [(2, 47), (0, x1)] [] X v mc ms Q))))))))))) : Ex mX11_source d 83 [(2, 47), (0, x1)] [] X v mc ms Q := by
  refine x_li32 (i := 1) rfl (fun hx1 => ?_)
  have F := F hx1
  refine x_aload_n dX11_source_83 rfl ?_
  refine x_geti (e := (v 47 25)) 0 flX11_169 dX11_source_84 (sW47 hW) (gW47 hW) rfl rfl (Nat.le_of_ble_eq_true rfl) (tagn2 rfl) ?_
  refine x_if_ne 140 dX11_source_87 rfl (fun hc => ?_) (fun hc => ?_)
  · have F := F.1 hc
    exact F
  · have F := F.2 hc
    refine x_aload_n dX11_source_90 rfl ?_
    refine x_geti (e := (v 47 29)) 0 flX11_197 dX11_source_91 (sW47 hW) (gW47 hW) rfl rfl (Nat.le_of_ble_eq_true rfl) (tagn2 rfl) ?_
    refine x_iconst dX11_source_94 rfl (i32_of rfl) ?_
    refine x_icmp_ne 131 dX11_source_95 rfl (fun hc => ?_) (fun hc => ?_)
    · have F := F.1 hc
      exact F
    · have F := F.2 hc
      refine x_aload_n dX11_source_98 rfl ?_
      refine x_geti (e := (v 47 32)) 1 flX11_194 dX11_source_99 (sW47 hW) (gW47 hW) rfl rfl (Nat.le_of_ble_eq_true rfl) (tagn2 rfl) ?_
      refine x_ldc2 (i := 14) 14 dX11_source_102 lcX11_240 rfl (i64_of rfl) ?_
      refine x_lcmp dX11_source_105 (fun z17 hz171 hz172 hz173 => ?_)
      refine x_if_eq 140 dX11_source_106 rfl (fun hc => ?_) (fun hc => ?_)
      · have F := F.1 (hz171.mp hc)
        exact F
      · have F := F.2 (fun q => hc (hz171.mpr q))
        refine x_aload_n dX11_source_109 rfl ?_
        refine x_geti (e := (v 47 32)) 1 flX11_194 dX11_source_110 (sW47 hW) (gW47 hW) rfl rfl (Nat.le_of_ble_eq_true rfl) (tagn2 rfl) ?_
        refine x_ldc2 (i := 20) 20 dX11_source_113 lcX11_242 rfl (i64_of rfl) ?_
        refine x_lcmp dX11_source_116 (fun z18 hz181 hz182 hz183 => ?_)
        refine x_if_eq 140 dX11_source_117 rfl (fun hc => ?_) (fun hc => ?_)
        · have F := F.1 (hz181.mp hc)
          exact F
        · have F := F.2 (fun q => hc (hz181.mpr q))
          refine x_aload_n dX11_source_120 rfl ?_
          refine x_geti (e := (v 47 32)) 1 flX11_194 dX11_source_121 (sW47 hW) (gW47 hW) rfl rfl (Nat.le_of_ble_eq_true rfl) (tagn2 rfl) ?_
          refine x_ldc2 (i := 4) 4 dX11_source_124 lcX11_244 rfl (i64_of rfl) ?_
          refine x_lcmp dX11_source_127 (fun z19 hz191 hz192 hz193 => ?_)
          refine x_if_eq 140 dX11_source_128 rfl (fun hc => ?_) (fun hc => ?_)
          · have F := F.1 (hz191.mp hc)
            exact F
          · have F := F.2 (fun q => hc (hz191.mpr q))
            exact F

set_option maxRecDepth 100000 in
set_option maxHeartbeats 4000000 in
theorem bX11_source_131 {d mc ms : Nat} {X : XX} {v : VV} {Q : QQ} (x1 : Int) (hd : 4 ≤ d) (hW : SW X) (F : i32 x1 → ∃ P20 : Option AV → VV → Prop, Con mX11_fail 0 0 0 [(2, 47), (0, 1), (0, (v 47 30))] X v (fun o X1 v1 => X1 = X ∧ P20 o v1) ∧ ∀ (w22 : VV), P20 none w22 → Ex mX11_source d 140 [(2, 47), (0, x1)] [] X w22 mc ms Q) : Ex mX11_source d 131 [(2, 47), (0, x1)] [] X v mc ms Q := by
  refine x_li32 (i := 1) rfl (fun hx1 => ?_)
  have F := F hx1
  refine x_aload_n dX11_source_131 rfl ?_
  refine x_iconst dX11_source_132 rfl (i32_of rfl) ?_
  refine x_aload_n dX11_source_133 rfl ?_
  refine x_geti (e := (v 47 30)) 0 flX11_188 dX11_source_134 (sW47 hW) (gW47 hW) rfl rfl (Nat.le_of_ble_eq_true rfl) (tagn2 rfl) ?_
  obtain ⟨P20, hC, F⟩ := F
  refine x_inv dX11_source_137 mlX11_216 hC (sW47 hW) (Nat.le_of_ble_eq_true rfl) (gW47 hW) rfl rfl (by omega) (Nat.zero_le _) (Nat.zero_le _) (Nat.le_of_ble_eq_true rfl) (fun o1 Y23 w22 ht hP => ?_)
  obtain rfl : o1 = none := ht
  obtain ⟨rfl, hP⟩ := hP
  have F := F w22 hP
  exact F

set_option maxRecDepth 100000 in
set_option maxHeartbeats 4000000 in
theorem bX11_source_140 {d mc ms : Nat} {X : XX} {v : VV} {Q : QQ} (x1 : Int) (hd : 4 ≤ d) (hW : SW X) (F : i32 x1 → ((((v 47 25) = 0) → (i32 (v 47 0) → i32 (8 * (v 47 0))) ∧ (0 ≤ (v 47 0) ∧ (v 47 0) < 17) ∧ (i32 (v 51 (v 47 0)) → i32 (8 * (v 47 0)) → i32 ((8 * (v 47 0)) + (v 51 (v 47 0)))) ∧ (((¬ (v 47 32) = 14) → (((¬ (v 47 32) = 20) → (0 ≤ ((8 * (v 47 0)) + (v 51 (v 47 0))) ∧ ((8 * (v 47 0)) + (v 51 (v 47 0))) < 136) ∧ (0 ≤ (v 47 0) ∧ (v 47 0) < 17) ∧ (i32 (v 51 (v 47 0)) → i32 ((v 51 (v 47 0)) + 1)) ∧ (0 ≤ (v 47 0) ∧ (v 47 0) < 17) ∧ ∃ P26 : Option AV → VV → Prop, Con mX11_keeps 2 0 0 [(2, 47)] X (upd2 (upd2 v 53 ((8 * (v 47 0)) + (v 51 (v 47 0))) 100) 51 (v 47 0) ((v 51 (v 47 0)) + 1)) (fun o X1 v1 => X1 = X ∧ P26 o v1) ∧ ∀ (w28 : VV), P26 none w28 → (((¬ (w28 47 29) = 44) → Ex mX11_source d 19 [(2, 47), (0, 0)] [] X w28 mc ms Q) ∧ (((w28 47 29) = 44) → ∃ P30 : Option AV → VV → Prop, Con mX11_keeps 2 0 0 [(2, 47)] X w28 (fun o X1 v1 => X1 = X ∧ P30 o v1) ∧ ∀ (w32 : VV), P30 none w32 → Ex mX11_source d 19 [(2, 47), (0, 1)] [] X w32 mc ms Q))) ∧ (((v 47 32) = 20) → (0 ≤ ((8 * (v 47 0)) + (v 51 (v 47 0))) ∧ ((8 * (v 47 0)) + (v 51 (v 47 0))) < 136) ∧ (0 ≤ (v 47 0) ∧ (v 47 0) < 17) ∧ (i32 (v 51 (v 47 0)) → i32 ((v 51 (v 47 0)) + 1)) ∧ (0 ≤ (v 47 0) ∧ (v 47 0) < 17) ∧ ∃ P34 : Option AV → VV → Prop, Con mX11_keeps 2 0 0 [(2, 47)] X (upd2 (upd2 v 53 ((8 * (v 47 0)) + (v 51 (v 47 0))) 116) 51 (v 47 0) ((v 51 (v 47 0)) + 1)) (fun o X1 v1 => X1 = X ∧ P34 o v1) ∧ ∀ (w36 : VV), P34 none w36 → (((¬ (w36 47 29) = 44) → Ex mX11_source d 19 [(2, 47), (0, 0)] [] X w36 mc ms Q) ∧ (((w36 47 29) = 44) → ∃ P38 : Option AV → VV → Prop, Con mX11_keeps 2 0 0 [(2, 47)] X w36 (fun o X1 v1 => X1 = X ∧ P38 o v1) ∧ ∀ (w40 : VV), P38 none w40 → Ex mX11_source d 19 [(2, 47), (0, 1)] [] X w40 mc ms Q))))) ∧ (((v 47 32) = 14) → (0 ≤ ((8 * (v 47 0)) + (v 51 (v 47 0))) ∧ ((8 * (v 47 0)) + (v 51 (v 47 0))) < 136) ∧ (0 ≤ (v 47 0) ∧ (v 47 0) < 17) ∧ (i32 (v 51 (v 47 0)) → i32 ((v 51 (v 47 0)) + 1)) ∧ (0 ≤ (v 47 0) ∧ (v 47 0) < 17) ∧ ∃ P42 : Option AV → VV → Prop, Con mX11_keeps 2 0 0 [(2, 47)] X (upd2 (upd2 v 53 ((8 * (v 47 0)) + (v 51 (v 47 0))) 110) 51 (v 47 0) ((v 51 (v 47 0)) + 1)) (fun o X1 v1 => X1 = X ∧ P42 o v1) ∧ ∀ (w44 : VV), P42 none w44 → (((¬ (w44 47 29) = 44) → Ex mX11_source d 19 [(2, 47), (0, 0)] [] X w44 mc ms Q) ∧ (((w44 47 29) = 44) → ∃ P46 : Option AV → VV → Prop, Con mX11_keeps 2 0 0 [(2, 47)] X w44 (fun o X1 v1 => X1 = X ∧ P46 o v1) ∧ ∀ (w48 : VV), P46 none w48 → Ex mX11_source d 19 [(2, 47), (0, 1)] [] X w48 mc ms Q))))) ∧ ((¬ (v 47 25) = 0) → Q none X v))) : Ex mX11_source d 140 [(2, 47), (0, x1)] [] X v mc ms Q := by
  refine x_li32 (i := 1) rfl (fun hx1 => ?_)
  have F := F hx1
  refine x_aload_n dX11_source_140 rfl ?_
  refine x_geti (e := (v 47 25)) 0 flX11_169 dX11_source_141 (sW47 hW) (gW47 hW) rfl rfl (Nat.le_of_ble_eq_true rfl) (tagn2 rfl) ?_
  refine x_if_eq 148 dX11_source_144 rfl (fun hc => ?_) (fun hc => ?_)
  · have F := F.1 hc
    refine x_aload_n dX11_source_148 rfl ?_
    refine x_getr (r' := 53) flX11_27 dX11_source_149 (sW47 hW) (gW47 hW) (rW47_6 hW) rfl (Nat.le_of_ble_eq_true rfl) ?_
    refine x_bipush dX11_source_152 kb_8 (i32_of rfl) ?_
    refine x_aload_n dX11_source_154 rfl ?_
    refine x_geti (e := (v 47 0)) 0 flX11_159 dX11_source_155 (sW47 hW) (gW47 hW) rfl rfl (Nat.le_of_ble_eq_true rfl) (tagn2 rfl) ?_
    refine x_si32 (i := 0) rfl (fun hk0 => ?_)
    obtain ⟨hz, F⟩ := F
    have hz := hz hk0
    refine x_imul dX11_source_158 hz ?_
    refine x_aload_n dX11_source_159 rfl ?_
    refine x_getr (r' := 51) flX11_21 dX11_source_160 (sW47 hW) (gW47 hW) (rW47_4 hW) rfl (Nat.le_of_ble_eq_true rfl) ?_
    refine x_aload_n dX11_source_163 rfl ?_
    refine x_geti (e := (v 47 0)) 0 flX11_159 dX11_source_164 (sW47 hW) (gW47 hW) rfl rfl (Nat.le_of_ble_eq_true rfl) (tagn2 rfl) ?_
    obtain ⟨hi, F⟩ := F
    refine x_iald (e := (v 51 (v 47 0))) dX11_source_167 (sW51 hW) (gW51 hW) hi rfl ?_
    refine x_si32 (i := 0) rfl (fun hk0 => ?_)
    refine x_si32 (i := 1) rfl (fun hk1 => ?_)
    obtain ⟨hz, F⟩ := F
    have hz := hz hk0 hk1
    refine x_iadd dX11_source_168 hz ?_
    refine x_aload_n dX11_source_169 rfl ?_
    refine x_geti (e := (v 47 32)) 1 flX11_194 dX11_source_170 (sW47 hW) (gW47 hW) rfl rfl (Nat.le_of_ble_eq_true rfl) (tagn2 rfl) ?_
    refine x_ldc2 (i := 14) 14 dX11_source_173 lcX11_240 rfl (i64_of rfl) ?_
    refine x_lcmp dX11_source_176 (fun z24 hz241 hz242 hz243 => ?_)
    refine x_if_ne 185 dX11_source_177 rfl (fun hc => ?_) (fun hc => ?_)
    · have F := F.1 (fun q => hc (hz241.mpr q))
      refine x_aload_n dX11_source_185 rfl ?_
      refine x_geti (e := (v 47 32)) 1 flX11_194 dX11_source_186 (sW47 hW) (gW47 hW) rfl rfl (Nat.le_of_ble_eq_true rfl) (tagn2 rfl) ?_
      refine x_ldc2 (i := 20) 20 dX11_source_189 lcX11_242 rfl (i64_of rfl) ?_
      refine x_lcmp dX11_source_192 (fun z25 hz251 hz252 hz253 => ?_)
      refine x_if_ne 201 dX11_source_193 rfl (fun hc => ?_) (fun hc => ?_)
      · have F := F.1 (fun q => hc (hz251.mpr q))
        refine x_bipush dX11_source_201 kb_100 (i32_of rfl) ?_
        obtain ⟨hi, F⟩ := F
        refine x_iast dX11_source_203 (sW53 hW) (gW53 hW) hi ?_
        refine x_aload_n dX11_source_204 rfl ?_
        refine x_getr (r' := 51) flX11_21 dX11_source_205 (sW47 hW) (gW47 hW) (rW47_4 hW) rfl (Nat.le_of_ble_eq_true rfl) ?_
        refine x_aload_n dX11_source_208 rfl ?_
        refine x_geti (e := (v 47 0)) 0 flX11_159 dX11_source_209 (sW47 hW) (gW47 hW) rfl rfl (Nat.le_of_ble_eq_true rfl) (tagn2 rfl) ?_
        refine x_dup2 dX11_source_212 (tag1 rfl) (tag1 rfl) ?_
        obtain ⟨hi, F⟩ := F
        refine x_iald (e := (v 51 (v 47 0))) dX11_source_213 (sW51 hW) (gW51 hW) hi rfl ?_
        refine x_iconst dX11_source_214 rfl (i32_of rfl) ?_
        refine x_si32 (i := 1) rfl (fun hk1 => ?_)
        obtain ⟨hz, F⟩ := F
        have hz := hz hk1
        refine x_iadd dX11_source_215 hz ?_
        obtain ⟨hi, F⟩ := F
        refine x_iast dX11_source_216 (sW51 hW) (gW51 hW) hi ?_
        refine x_aload_n dX11_source_217 rfl ?_
        obtain ⟨P26, hC, F⟩ := F
        refine x_inv dX11_source_218 mlX11_213 hC (sW47 hW) (Nat.le_of_ble_eq_true rfl) (gW47 hW) rfl rfl (by omega) (Nat.zero_le _) (Nat.zero_le _) (Nat.le_of_ble_eq_true rfl) (fun o1 Y29 w28 ht hP => ?_)
        obtain rfl : o1 = none := ht
        obtain ⟨rfl, hP⟩ := hP
        have F := F w28 hP
        refine x_aload_n dX11_source_221 rfl ?_
        refine x_geti (e := (w28 47 29)) 0 flX11_197 dX11_source_222 (sW47 hW) (gW47 hW) rfl rfl (Nat.le_of_ble_eq_true rfl) (tagn2 rfl) ?_
        refine x_bipush dX11_source_225 kb_44 (i32_of rfl) ?_
        refine x_icmp_ne 234 dX11_source_227 rfl (fun hc => ?_) (fun hc => ?_)
        · have F := F.1 hc
          refine x_iconst dX11_source_234 rfl (i32_of rfl) ?_
          refine x_istore_n [(2, 47), (0, 0)] dX11_source_235 rfl (Nat.le_of_ble_eq_true rfl) ?_
          refine x_iload_n dX11_source_236 rfl ?_
          refine x_if_eq 19 dX11_source_237 rfl (fun _ => ?_) (fun hc => absurd hc (by decide))
          exact F
        · have F := F.2 hc
          refine x_iconst dX11_source_230 rfl (i32_of rfl) ?_
          refine x_goto 235 dX11_source_231 rfl ?_
          refine x_istore_n [(2, 47), (0, 1)] dX11_source_235 rfl (Nat.le_of_ble_eq_true rfl) ?_
          refine x_iload_n dX11_source_236 rfl ?_
          refine x_if_eq 19 dX11_source_237 rfl (fun hc => absurd hc (by decide)) (fun _ => ?_)
          refine x_aload_n dX11_source_240 rfl ?_
          obtain ⟨P30, hC, F⟩ := F
          refine x_inv dX11_source_241 mlX11_213 hC (sW47 hW) (Nat.le_of_ble_eq_true rfl) (gW47 hW) rfl rfl (by omega) (Nat.zero_le _) (Nat.zero_le _) (Nat.le_of_ble_eq_true rfl) (fun o1 Y33 w32 ht hP => ?_)
          obtain rfl : o1 = none := ht
          obtain ⟨rfl, hP⟩ := hP
          have F := F w32 hP
          refine x_goto 19 dX11_source_244 rfl ?_
          exact F
      · have F := F.2 (hz251.mp hc)
        refine x_bipush dX11_source_196 kb_116 (i32_of rfl) ?_
        refine x_goto 203 dX11_source_198 rfl ?_
        obtain ⟨hi, F⟩ := F
        refine x_iast dX11_source_203 (sW53 hW) (gW53 hW) hi ?_
        refine x_aload_n dX11_source_204 rfl ?_
        refine x_getr (r' := 51) flX11_21 dX11_source_205 (sW47 hW) (gW47 hW) (rW47_4 hW) rfl (Nat.le_of_ble_eq_true rfl) ?_
        refine x_aload_n dX11_source_208 rfl ?_
        refine x_geti (e := (v 47 0)) 0 flX11_159 dX11_source_209 (sW47 hW) (gW47 hW) rfl rfl (Nat.le_of_ble_eq_true rfl) (tagn2 rfl) ?_
        refine x_dup2 dX11_source_212 (tag1 rfl) (tag1 rfl) ?_
        obtain ⟨hi, F⟩ := F
        refine x_iald (e := (v 51 (v 47 0))) dX11_source_213 (sW51 hW) (gW51 hW) hi rfl ?_
        refine x_iconst dX11_source_214 rfl (i32_of rfl) ?_
        refine x_si32 (i := 1) rfl (fun hk1 => ?_)
        obtain ⟨hz, F⟩ := F
        have hz := hz hk1
        refine x_iadd dX11_source_215 hz ?_
        obtain ⟨hi, F⟩ := F
        refine x_iast dX11_source_216 (sW51 hW) (gW51 hW) hi ?_
        refine x_aload_n dX11_source_217 rfl ?_
        obtain ⟨P34, hC, F⟩ := F
        refine x_inv dX11_source_218 mlX11_213 hC (sW47 hW) (Nat.le_of_ble_eq_true rfl) (gW47 hW) rfl rfl (by omega) (Nat.zero_le _) (Nat.zero_le _) (Nat.le_of_ble_eq_true rfl) (fun o1 Y37 w36 ht hP => ?_)
        obtain rfl : o1 = none := ht
        obtain ⟨rfl, hP⟩ := hP
        have F := F w36 hP
        refine x_aload_n dX11_source_221 rfl ?_
        refine x_geti (e := (w36 47 29)) 0 flX11_197 dX11_source_222 (sW47 hW) (gW47 hW) rfl rfl (Nat.le_of_ble_eq_true rfl) (tagn2 rfl) ?_
        refine x_bipush dX11_source_225 kb_44 (i32_of rfl) ?_
        refine x_icmp_ne 234 dX11_source_227 rfl (fun hc => ?_) (fun hc => ?_)
        · have F := F.1 hc
          refine x_iconst dX11_source_234 rfl (i32_of rfl) ?_
          refine x_istore_n [(2, 47), (0, 0)] dX11_source_235 rfl (Nat.le_of_ble_eq_true rfl) ?_
          refine x_iload_n dX11_source_236 rfl ?_
          refine x_if_eq 19 dX11_source_237 rfl (fun _ => ?_) (fun hc => absurd hc (by decide))
          exact F
        · have F := F.2 hc
          refine x_iconst dX11_source_230 rfl (i32_of rfl) ?_
          refine x_goto 235 dX11_source_231 rfl ?_
          refine x_istore_n [(2, 47), (0, 1)] dX11_source_235 rfl (Nat.le_of_ble_eq_true rfl) ?_
          refine x_iload_n dX11_source_236 rfl ?_
          refine x_if_eq 19 dX11_source_237 rfl (fun hc => absurd hc (by decide)) (fun _ => ?_)
          refine x_aload_n dX11_source_240 rfl ?_
          obtain ⟨P38, hC, F⟩ := F
          refine x_inv dX11_source_241 mlX11_213 hC (sW47 hW) (Nat.le_of_ble_eq_true rfl) (gW47 hW) rfl rfl (by omega) (Nat.zero_le _) (Nat.zero_le _) (Nat.le_of_ble_eq_true rfl) (fun o1 Y41 w40 ht hP => ?_)
          obtain rfl : o1 = none := ht
          obtain ⟨rfl, hP⟩ := hP
          have F := F w40 hP
          refine x_goto 19 dX11_source_244 rfl ?_
          exact F
    · have F := F.2 (hz241.mp hc)
      refine x_bipush dX11_source_180 kb_110 (i32_of rfl) ?_
      refine x_goto 203 dX11_source_182 rfl ?_
      obtain ⟨hi, F⟩ := F
      refine x_iast dX11_source_203 (sW53 hW) (gW53 hW) hi ?_
      refine x_aload_n dX11_source_204 rfl ?_
      refine x_getr (r' := 51) flX11_21 dX11_source_205 (sW47 hW) (gW47 hW) (rW47_4 hW) rfl (Nat.le_of_ble_eq_true rfl) ?_
      refine x_aload_n dX11_source_208 rfl ?_
      refine x_geti (e := (v 47 0)) 0 flX11_159 dX11_source_209 (sW47 hW) (gW47 hW) rfl rfl (Nat.le_of_ble_eq_true rfl) (tagn2 rfl) ?_
      refine x_dup2 dX11_source_212 (tag1 rfl) (tag1 rfl) ?_
      obtain ⟨hi, F⟩ := F
      refine x_iald (e := (v 51 (v 47 0))) dX11_source_213 (sW51 hW) (gW51 hW) hi rfl ?_
      refine x_iconst dX11_source_214 rfl (i32_of rfl) ?_
      refine x_si32 (i := 1) rfl (fun hk1 => ?_)
      obtain ⟨hz, F⟩ := F
      have hz := hz hk1
      refine x_iadd dX11_source_215 hz ?_
      obtain ⟨hi, F⟩ := F
      refine x_iast dX11_source_216 (sW51 hW) (gW51 hW) hi ?_
      refine x_aload_n dX11_source_217 rfl ?_
      obtain ⟨P42, hC, F⟩ := F
      refine x_inv dX11_source_218 mlX11_213 hC (sW47 hW) (Nat.le_of_ble_eq_true rfl) (gW47 hW) rfl rfl (by omega) (Nat.zero_le _) (Nat.zero_le _) (Nat.le_of_ble_eq_true rfl) (fun o1 Y45 w44 ht hP => ?_)
      obtain rfl : o1 = none := ht
      obtain ⟨rfl, hP⟩ := hP
      have F := F w44 hP
      refine x_aload_n dX11_source_221 rfl ?_
      refine x_geti (e := (w44 47 29)) 0 flX11_197 dX11_source_222 (sW47 hW) (gW47 hW) rfl rfl (Nat.le_of_ble_eq_true rfl) (tagn2 rfl) ?_
      refine x_bipush dX11_source_225 kb_44 (i32_of rfl) ?_
      refine x_icmp_ne 234 dX11_source_227 rfl (fun hc => ?_) (fun hc => ?_)
      · have F := F.1 hc
        refine x_iconst dX11_source_234 rfl (i32_of rfl) ?_
        refine x_istore_n [(2, 47), (0, 0)] dX11_source_235 rfl (Nat.le_of_ble_eq_true rfl) ?_
        refine x_iload_n dX11_source_236 rfl ?_
        refine x_if_eq 19 dX11_source_237 rfl (fun _ => ?_) (fun hc => absurd hc (by decide))
        exact F
      · have F := F.2 hc
        refine x_iconst dX11_source_230 rfl (i32_of rfl) ?_
        refine x_goto 235 dX11_source_231 rfl ?_
        refine x_istore_n [(2, 47), (0, 1)] dX11_source_235 rfl (Nat.le_of_ble_eq_true rfl) ?_
        refine x_iload_n dX11_source_236 rfl ?_
        refine x_if_eq 19 dX11_source_237 rfl (fun hc => absurd hc (by decide)) (fun _ => ?_)
        refine x_aload_n dX11_source_240 rfl ?_
        obtain ⟨P46, hC, F⟩ := F
        refine x_inv dX11_source_241 mlX11_213 hC (sW47 hW) (Nat.le_of_ble_eq_true rfl) (gW47 hW) rfl rfl (by omega) (Nat.zero_le _) (Nat.zero_le _) (Nat.le_of_ble_eq_true rfl) (fun o1 Y49 w48 ht hP => ?_)
        obtain rfl : o1 = none := ht
        obtain ⟨rfl, hP⟩ := hP
        have F := F w48 hP
        refine x_goto 19 dX11_source_244 rfl ?_
        exact F
  · have F := F.2 hc
    exact x_ret none rfl ⟨dX11_source_147, rfl⟩ F

set_option maxRecDepth 100000 in
set_option maxHeartbeats 4000000 in
theorem bX11_select_0 {d mc ms : Nat} {X : XX} {v : VV} {Q : QQ} (hd : 6 ≤ d) (hW : SW X) (F : (0 ≤ (v 47 0) ∧ (v 47 0) < 17) ∧ (0 ≤ (v 47 0) ∧ (v 47 0) < 17) ∧ ∃ P1 : Option AV → VV → Prop, Con mX11_sign 3 0 0 [(2, 47), (0, 61)] X (upd2 v 67 (v 47 0) (v 60 (v 47 0))) (fun o X1 v1 => X1 = X ∧ P1 o v1) ∧ ∀ (w3 : VV), P1 none w3 → (((¬ (w3 47 25) = 0) → Ex mX11_select d 37 [(2, 47), (0, 0)] [] X w3 mc ms Q) ∧ (((w3 47 25) = 0) → Ex mX11_select d 37 [(2, 47), (0, 1)] [] X w3 mc ms Q))) : Ex mX11_select d 0 [(2, 47), (3, 0)] [] X v mc ms Q := by
  refine x_aload_n dX11_select_0 rfl ?_
  refine x_getr (r' := 67) flX11_69 dX11_select_1 (sW47 hW) (gW47 hW) (rW47_20 hW) rfl (Nat.le_of_ble_eq_true rfl) ?_
  refine x_aload_n dX11_select_4 rfl ?_
  refine x_geti (e := (v 47 0)) 0 flX11_159 dX11_select_5 (sW47 hW) (gW47 hW) rfl rfl (Nat.le_of_ble_eq_true rfl) (tagn2 rfl) ?_
  refine x_aload_n dX11_select_8 rfl ?_
  refine x_getr (r' := 60) flX11_48 dX11_select_9 (sW47 hW) (gW47 hW) (rW47_13 hW) rfl (Nat.le_of_ble_eq_true rfl) ?_
  refine x_aload_n dX11_select_12 rfl ?_
  refine x_geti (e := (v 47 0)) 0 flX11_159 dX11_select_13 (sW47 hW) (gW47 hW) rfl rfl (Nat.le_of_ble_eq_true rfl) (tagn2 rfl) ?_
  obtain ⟨hi, F⟩ := F
  refine x_iald (e := (v 60 (v 47 0))) dX11_select_16 (sW60 hW) (gW60 hW) hi rfl ?_
  obtain ⟨hi, F⟩ := F
  refine x_iast dX11_select_17 (sW67 hW) (gW67 hW) hi ?_
  refine x_aload_n dX11_select_18 rfl ?_
  refine x_bipush dX11_select_19 kb_61 (i32_of rfl) ?_
  obtain ⟨P1, hC, F⟩ := F
  refine x_inv dX11_select_21 mlX11_231 hC (sW47 hW) (Nat.le_of_ble_eq_true rfl) (gW47 hW) rfl rfl (by omega) (Nat.zero_le _) (Nat.zero_le _) (Nat.le_of_ble_eq_true rfl) (fun o1 Y4 w3 ht hP => ?_)
  obtain rfl : o1 = none := ht
  obtain ⟨rfl, hP⟩ := hP
  have F := F w3 hP
  refine x_aload_n dX11_select_24 rfl ?_
  refine x_geti (e := (w3 47 25)) 0 flX11_169 dX11_select_25 (sW47 hW) (gW47 hW) rfl rfl (Nat.le_of_ble_eq_true rfl) (tagn2 rfl) ?_
  refine x_if_ne 35 dX11_select_28 rfl (fun hc => ?_) (fun hc => ?_)
  · have F := F.1 hc
    refine x_iconst dX11_select_35 rfl (i32_of rfl) ?_
    refine x_istore_n [(2, 47), (0, 0)] dX11_select_36 rfl (Nat.le_of_ble_eq_true rfl) ?_
    exact F
  · have F := F.2 hc
    refine x_iconst dX11_select_31 rfl (i32_of rfl) ?_
    refine x_goto 36 dX11_select_32 rfl ?_
    refine x_istore_n [(2, 47), (0, 1)] dX11_select_36 rfl (Nat.le_of_ble_eq_true rfl) ?_
    exact F

set_option maxRecDepth 100000 in
set_option maxHeartbeats 4000000 in
theorem bX11_select_37 {d mc ms : Nat} {X : XX} {v : VV} {Q : QQ} (x1 : Int) (hd : 6 ≤ d) (hW : SW X) (F : i32 x1 → (((x1 = 0) → (((¬ (v 47 25) = 0) → Ex mX11_select d 208 [(2, 47), (0, x1)] [] X v mc ms Q) ∧ (((v 47 25) = 0) → ∃ P5 : Option AV → VV → Prop, Con mX11_isWord 0 0 0 [(2, 47), (1, (v 47 36))] X v (fun o X1 v1 => X1 = X ∧ P5 o v1) ∧ ∀ (r6 : Int) (w7 : VV), P5 (some (0, r6)) w7 → (((¬ r6 = 0) → Ex mX11_select d 208 [(2, 47), (0, x1)] [] X w7 mc ms Q) ∧ ((r6 = 0) → ∃ P9 : Option AV → VV → Prop, Con mX11_fail 0 0 0 [(2, 47), (0, 1), (0, (w7 47 30))] X w7 (fun o X1 v1 => X1 = X ∧ P9 o v1) ∧ ∀ (w11 : VV), P9 none w11 → Ex mX11_select d 208 [(2, 47), (0, x1)] [] X w11 mc ms Q))))) ∧ ((¬ x1 = 0) → (0 ≤ (v 47 0) ∧ (v 47 0) < 17) ∧ (((¬ (v 51 (v 47 0)) = 6) → Ex mX11_select d 64 [(2, 47), (0, x1)] [] X v mc ms Q) ∧ (((v 51 (v 47 0)) = 6) → ∃ P13 : Option AV → VV → Prop, Con mX11_fail 0 0 0 [(2, 47), (0, 1), (0, (v 47 30))] X v (fun o X1 v1 => X1 = X ∧ P13 o v1) ∧ ∀ (w15 : VV), P13 none w15 → Ex mX11_select d 64 [(2, 47), (0, x1)] [] X w15 mc ms Q))))) : Ex mX11_select d 37 [(2, 47), (0, x1)] [] X v mc ms Q := by
  refine x_li32 (i := 1) rfl (fun hx1 => ?_)
  have F := F hx1
  refine x_iload_n dX11_select_37 rfl ?_
  refine x_if_eq 181 dX11_select_38 rfl (fun hc => ?_) (fun hc => ?_)
  · have F := F.1 hc
    refine x_aload_n dX11_select_181 rfl ?_
    refine x_geti (e := (v 47 25)) 0 flX11_169 dX11_select_182 (sW47 hW) (gW47 hW) rfl rfl (Nat.le_of_ble_eq_true rfl) (tagn2 rfl) ?_
    refine x_if_ne 208 dX11_select_185 rfl (fun hc => ?_) (fun hc => ?_)
    · have F := F.1 hc
      exact F
    · have F := F.2 hc
      refine x_aload_n dX11_select_188 rfl ?_
      refine x_aload_n dX11_select_189 rfl ?_
      refine x_geti (e := (v 47 36)) 1 flX11_93 dX11_select_190 (sW47 hW) (gW47 hW) rfl rfl (Nat.le_of_ble_eq_true rfl) (tagn2 rfl) ?_
      obtain ⟨P5, hC, F⟩ := F
      refine x_inv dX11_select_193 mlX11_227 hC (sW47 hW) (Nat.le_of_ble_eq_true rfl) (gW47 hW) rfl rfl (by omega) (Nat.zero_le _) (Nat.zero_le _) (Nat.le_of_ble_eq_true rfl) (fun o1 Y8 w7 ht hP => ?_)
      obtain ⟨r6, rfl⟩ : ∃ i, o1 = some (0, i) := ht
      obtain ⟨rfl, hP⟩ := hP
      have F := F r6 w7 hP
      refine x_if_ne 208 dX11_select_196 rfl (fun hc => ?_) (fun hc => ?_)
      · have F := F.1 hc
        exact F
      · have F := F.2 hc
        refine x_aload_n dX11_select_199 rfl ?_
        refine x_iconst dX11_select_200 rfl (i32_of rfl) ?_
        refine x_aload_n dX11_select_201 rfl ?_
        refine x_geti (e := (w7 47 30)) 0 flX11_188 dX11_select_202 (sW47 hW) (gW47 hW) rfl rfl (Nat.le_of_ble_eq_true rfl) (tagn2 rfl) ?_
        obtain ⟨P9, hC, F⟩ := F
        refine x_inv dX11_select_205 mlX11_216 hC (sW47 hW) (Nat.le_of_ble_eq_true rfl) (gW47 hW) rfl rfl (by omega) (Nat.zero_le _) (Nat.zero_le _) (Nat.le_of_ble_eq_true rfl) (fun o1 Y12 w11 ht hP => ?_)
        obtain rfl : o1 = none := ht
        obtain ⟨rfl, hP⟩ := hP
        have F := F w11 hP
        exact F
  · have F := F.2 hc
    refine x_aload_n dX11_select_41 rfl ?_
    refine x_getr (r' := 51) flX11_21 dX11_select_42 (sW47 hW) (gW47 hW) (rW47_4 hW) rfl (Nat.le_of_ble_eq_true rfl) ?_
    refine x_aload_n dX11_select_45 rfl ?_
    refine x_geti (e := (v 47 0)) 0 flX11_159 dX11_select_46 (sW47 hW) (gW47 hW) rfl rfl (Nat.le_of_ble_eq_true rfl) (tagn2 rfl) ?_
    obtain ⟨hi, F⟩ := F
    refine x_iald (e := (v 51 (v 47 0))) dX11_select_49 (sW51 hW) (gW51 hW) hi rfl ?_
    refine x_bipush dX11_select_50 kb_6 (i32_of rfl) ?_
    refine x_icmp_ne 64 dX11_select_52 rfl (fun hc => ?_) (fun hc => ?_)
    · have F := F.1 hc
      exact F
    · have F := F.2 hc
      refine x_aload_n dX11_select_55 rfl ?_
      refine x_iconst dX11_select_56 rfl (i32_of rfl) ?_
      refine x_aload_n dX11_select_57 rfl ?_
      refine x_geti (e := (v 47 30)) 0 flX11_188 dX11_select_58 (sW47 hW) (gW47 hW) rfl rfl (Nat.le_of_ble_eq_true rfl) (tagn2 rfl) ?_
      obtain ⟨P13, hC, F⟩ := F
      refine x_inv dX11_select_61 mlX11_216 hC (sW47 hW) (Nat.le_of_ble_eq_true rfl) (gW47 hW) rfl rfl (by omega) (Nat.zero_le _) (Nat.zero_le _) (Nat.le_of_ble_eq_true rfl) (fun o1 Y16 w15 ht hP => ?_)
      obtain rfl : o1 = none := ht
      obtain ⟨rfl, hP⟩ := hP
      have F := F w15 hP
      exact F

set_option maxRecDepth 100000 in
set_option maxHeartbeats 4000000 in
theorem bX11_select_64 {d mc ms : Nat} {X : XX} {v : VV} {Q : QQ} (x1 : Int) (hd : 6 ≤ d) (hW : SW X) (F : i32 x1 → (((¬ (v 47 25) = 0) → Ex mX11_select d 101 [(2, 47), (0, x1)] [] X v mc ms Q) ∧ (((v 47 25) = 0) → (i32 (v 47 0) → i32 (8 * (v 47 0))) ∧ (0 ≤ (v 47 0) ∧ (v 47 0) < 17) ∧ (i32 (v 51 (v 47 0)) → i32 (8 * (v 47 0)) → i32 ((8 * (v 47 0)) + (v 51 (v 47 0)))) ∧ (0 ≤ ((8 * (v 47 0)) + (v 51 (v 47 0))) ∧ ((8 * (v 47 0)) + (v 51 (v 47 0))) < 136) ∧ ∃ P17 : Option AV → VV → Prop, Con mX11_name 3 0 0 [(2, 47)] X (upd2 v 52 ((8 * (v 47 0)) + (v 51 (v 47 0))) (v 47 32)) (fun o X1 v1 => X1 = X ∧ P17 o v1) ∧ ∀ (w19 : VV), P17 none w19 → Ex mX11_select d 101 [(2, 47), (0, x1)] [] X w19 mc ms Q))) : Ex mX11_select d 64 [(2, 47), (0, x1)] [] X v mc ms Q := by
  refine x_li32 (i := 1) rfl (fun hx1 => ?_)
  have F := F hx1
  refine x_aload_n dX11_select_64 rfl ?_
  refine x_geti (e := (v 47 25)) 0 flX11_169 dX11_select_65 (sW47 hW) (gW47 hW) rfl rfl (Nat.le_of_ble_eq_true rfl) (tagn2 rfl) ?_
  refine x_if_ne 101 dX11_select_68 rfl (fun hc => ?_) (fun hc => ?_)
  · have F := F.1 hc
    exact F
  · have F := F.2 hc
    refine x_aload_n dX11_select_71 rfl ?_
    refine x_getr (r' := 52) flX11_24 dX11_select_72 (sW47 hW) (gW47 hW) (rW47_5 hW) rfl (Nat.le_of_ble_eq_true rfl) ?_
    refine x_bipush dX11_select_75 kb_8 (i32_of rfl) ?_
    refine x_aload_n dX11_select_77 rfl ?_
    refine x_geti (e := (v 47 0)) 0 flX11_159 dX11_select_78 (sW47 hW) (gW47 hW) rfl rfl (Nat.le_of_ble_eq_true rfl) (tagn2 rfl) ?_
    refine x_si32 (i := 0) rfl (fun hk0 => ?_)
    obtain ⟨hz, F⟩ := F
    have hz := hz hk0
    refine x_imul dX11_select_81 hz ?_
    refine x_aload_n dX11_select_82 rfl ?_
    refine x_getr (r' := 51) flX11_21 dX11_select_83 (sW47 hW) (gW47 hW) (rW47_4 hW) rfl (Nat.le_of_ble_eq_true rfl) ?_
    refine x_aload_n dX11_select_86 rfl ?_
    refine x_geti (e := (v 47 0)) 0 flX11_159 dX11_select_87 (sW47 hW) (gW47 hW) rfl rfl (Nat.le_of_ble_eq_true rfl) (tagn2 rfl) ?_
    obtain ⟨hi, F⟩ := F
    refine x_iald (e := (v 51 (v 47 0))) dX11_select_90 (sW51 hW) (gW51 hW) hi rfl ?_
    refine x_si32 (i := 0) rfl (fun hk0 => ?_)
    refine x_si32 (i := 1) rfl (fun hk1 => ?_)
    obtain ⟨hz, F⟩ := F
    have hz := hz hk0 hk1
    refine x_iadd dX11_select_91 hz ?_
    refine x_aload_n dX11_select_92 rfl ?_
    refine x_geti (e := (v 47 32)) 1 flX11_194 dX11_select_93 (sW47 hW) (gW47 hW) rfl rfl (Nat.le_of_ble_eq_true rfl) (tagn2 rfl) ?_
    obtain ⟨hi, F⟩ := F
    refine x_last dX11_select_96 (sW52 hW) (gW52 hW) hi ?_
    refine x_aload_n dX11_select_97 rfl ?_
    obtain ⟨P17, hC, F⟩ := F
    refine x_inv dX11_select_98 mlX11_238 hC (sW47 hW) (Nat.le_of_ble_eq_true rfl) (gW47 hW) rfl rfl (by omega) (Nat.zero_le _) (Nat.zero_le _) (Nat.le_of_ble_eq_true rfl) (fun o1 Y20 w19 ht hP => ?_)
    obtain rfl : o1 = none := ht
    obtain ⟨rfl, hP⟩ := hP
    have F := F w19 hP
    exact F

set_option maxRecDepth 100000 in
set_option maxHeartbeats 4000000 in
theorem bX11_select_101 {d mc ms : Nat} {X : XX} {v : VV} {Q : QQ} (x1 : Int) (hd : 6 ≤ d) (hW : SW X) (F : i32 x1 → (((¬ (v 47 25) = 0) → Ex mX11_select d 114 [(2, 47), (0, x1)] [] X v mc ms Q) ∧ (((v 47 25) = 0) → ∃ P21 : Option AV → VV → Prop, Con mX11_sign 3 0 0 [(2, 47), (0, 58)] X v (fun o X1 v1 => X1 = X ∧ P21 o v1) ∧ ∀ (w23 : VV), P21 none w23 → Ex mX11_select d 114 [(2, 47), (0, x1)] [] X w23 mc ms Q))) : Ex mX11_select d 101 [(2, 47), (0, x1)] [] X v mc ms Q := by
  refine x_li32 (i := 1) rfl (fun hx1 => ?_)
  have F := F hx1
  refine x_aload_n dX11_select_101 rfl ?_
  refine x_geti (e := (v 47 25)) 0 flX11_169 dX11_select_102 (sW47 hW) (gW47 hW) rfl rfl (Nat.le_of_ble_eq_true rfl) (tagn2 rfl) ?_
  refine x_if_ne 114 dX11_select_105 rfl (fun hc => ?_) (fun hc => ?_)
  · have F := F.1 hc
    exact F
  · have F := F.2 hc
    refine x_aload_n dX11_select_108 rfl ?_
    refine x_bipush dX11_select_109 kb_58 (i32_of rfl) ?_
    obtain ⟨P21, hC, F⟩ := F
    refine x_inv dX11_select_111 mlX11_231 hC (sW47 hW) (Nat.le_of_ble_eq_true rfl) (gW47 hW) rfl rfl (by omega) (Nat.zero_le _) (Nat.zero_le _) (Nat.le_of_ble_eq_true rfl) (fun o1 Y24 w23 ht hP => ?_)
    obtain rfl : o1 = none := ht
    obtain ⟨rfl, hP⟩ := hP
    have F := F w23 hP
    exact F

set_option maxRecDepth 100000 in
set_option maxHeartbeats 4000000 in
theorem bX11_select_114 {d mc ms : Nat} {X : XX} {v : VV} {Q : QQ} (x1 : Int) (hd : 6 ≤ d) (hW : SW X) (F : i32 x1 → (((¬ (v 47 25) = 0) → Ex mX11_select d 134 [(2, 47), (0, x1)] [] X v mc ms Q) ∧ (((v 47 25) = 0) → (0 ≤ (v 47 0) ∧ (v 47 0) < 17) ∧ ∃ P25 : Option AV → VV → Prop, Con mX11_formula 5 0 0 [(2, 47), (0, (v 51 (v 47 0)))] X v (fun o X1 v1 => X1 = X ∧ P25 o v1) ∧ ∀ (w27 : VV), P25 none w27 → Ex mX11_select d 134 [(2, 47), (0, x1)] [] X w27 mc ms Q))) : Ex mX11_select d 114 [(2, 47), (0, x1)] [] X v mc ms Q := by
  refine x_li32 (i := 1) rfl (fun hx1 => ?_)
  have F := F hx1
  refine x_aload_n dX11_select_114 rfl ?_
  refine x_geti (e := (v 47 25)) 0 flX11_169 dX11_select_115 (sW47 hW) (gW47 hW) rfl rfl (Nat.le_of_ble_eq_true rfl) (tagn2 rfl) ?_
  refine x_if_ne 134 dX11_select_118 rfl (fun hc => ?_) (fun hc => ?_)
  · have F := F.1 hc
    exact F
  · have F := F.2 hc
    refine x_aload_n dX11_select_121 rfl ?_
    refine x_aload_n dX11_select_122 rfl ?_
    refine x_getr (r' := 51) flX11_21 dX11_select_123 (sW47 hW) (gW47 hW) (rW47_4 hW) rfl (Nat.le_of_ble_eq_true rfl) ?_
    refine x_aload_n dX11_select_126 rfl ?_
    refine x_geti (e := (v 47 0)) 0 flX11_159 dX11_select_127 (sW47 hW) (gW47 hW) rfl rfl (Nat.le_of_ble_eq_true rfl) (tagn2 rfl) ?_
    obtain ⟨hi, F⟩ := F
    refine x_iald (e := (v 51 (v 47 0))) dX11_select_130 (sW51 hW) (gW51 hW) hi rfl ?_
    obtain ⟨P25, hC, F⟩ := F
    refine x_inv dX11_select_131 mlX11_246 hC (sW47 hW) (Nat.le_of_ble_eq_true rfl) (gW47 hW) rfl rfl (by omega) (Nat.zero_le _) (Nat.zero_le _) (Nat.le_of_ble_eq_true rfl) (fun o1 Y28 w27 ht hP => ?_)
    obtain rfl : o1 = none := ht
    obtain ⟨rfl, hP⟩ := hP
    have F := F w27 hP
    exact F

set_option maxRecDepth 100000 in
set_option maxHeartbeats 4000000 in
theorem bX11_select_134 {d mc ms : Nat} {X : XX} {v : VV} {Q : QQ} (x1 : Int) (hd : 6 ≤ d) (hW : SW X) (F : i32 x1 → ((((v 47 25) = 0) → (0 ≤ (v 47 0) ∧ (v 47 0) < 17) ∧ (i32 (v 51 (v 47 0)) → i32 ((v 51 (v 47 0)) + 1)) ∧ (0 ≤ (v 47 0) ∧ (v 47 0) < 17) ∧ (((¬ (v 47 29) = 44) → Ex mX11_select d 37 [(2, 47), (0, 0)] [] X (upd2 v 51 (v 47 0) ((v 51 (v 47 0)) + 1)) mc ms Q) ∧ (((v 47 29) = 44) → ∃ P29 : Option AV → VV → Prop, Con mX11_keeps 2 0 0 [(2, 47)] X (upd2 v 51 (v 47 0) ((v 51 (v 47 0)) + 1)) (fun o X1 v1 => X1 = X ∧ P29 o v1) ∧ ∀ (w31 : VV), P29 none w31 → Ex mX11_select d 37 [(2, 47), (0, 1)] [] X w31 mc ms Q))) ∧ ((¬ (v 47 25) = 0) → Q none X v))) : Ex mX11_select d 134 [(2, 47), (0, x1)] [] X v mc ms Q := by
  refine x_li32 (i := 1) rfl (fun hx1 => ?_)
  have F := F hx1
  refine x_aload_n dX11_select_134 rfl ?_
  refine x_geti (e := (v 47 25)) 0 flX11_169 dX11_select_135 (sW47 hW) (gW47 hW) rfl rfl (Nat.le_of_ble_eq_true rfl) (tagn2 rfl) ?_
  refine x_if_eq 142 dX11_select_138 rfl (fun hc => ?_) (fun hc => ?_)
  · have F := F.1 hc
    refine x_aload_n dX11_select_142 rfl ?_
    refine x_getr (r' := 51) flX11_21 dX11_select_143 (sW47 hW) (gW47 hW) (rW47_4 hW) rfl (Nat.le_of_ble_eq_true rfl) ?_
    refine x_aload_n dX11_select_146 rfl ?_
    refine x_geti (e := (v 47 0)) 0 flX11_159 dX11_select_147 (sW47 hW) (gW47 hW) rfl rfl (Nat.le_of_ble_eq_true rfl) (tagn2 rfl) ?_
    refine x_dup2 dX11_select_150 (tag1 rfl) (tag1 rfl) ?_
    obtain ⟨hi, F⟩ := F
    refine x_iald (e := (v 51 (v 47 0))) dX11_select_151 (sW51 hW) (gW51 hW) hi rfl ?_
    refine x_iconst dX11_select_152 rfl (i32_of rfl) ?_
    refine x_si32 (i := 1) rfl (fun hk1 => ?_)
    obtain ⟨hz, F⟩ := F
    have hz := hz hk1
    refine x_iadd dX11_select_153 hz ?_
    obtain ⟨hi, F⟩ := F
    refine x_iast dX11_select_154 (sW51 hW) (gW51 hW) hi ?_
    refine x_aload_n dX11_select_155 rfl ?_
    refine x_geti (e := (v 47 29)) 0 flX11_197 dX11_select_156 (sW47 hW) (gW47 hW) rfl rfl (Nat.le_of_ble_eq_true rfl) (tagn2 rfl) ?_
    refine x_bipush dX11_select_159 kb_44 (i32_of rfl) ?_
    refine x_icmp_ne 168 dX11_select_161 rfl (fun hc => ?_) (fun hc => ?_)
    · have F := F.1 hc
      refine x_iconst dX11_select_168 rfl (i32_of rfl) ?_
      refine x_istore_n [(2, 47), (0, 0)] dX11_select_169 rfl (Nat.le_of_ble_eq_true rfl) ?_
      refine x_iload_n dX11_select_170 rfl ?_
      refine x_if_eq 37 dX11_select_171 rfl (fun _ => ?_) (fun hc => absurd hc (by decide))
      exact F
    · have F := F.2 hc
      refine x_iconst dX11_select_164 rfl (i32_of rfl) ?_
      refine x_goto 169 dX11_select_165 rfl ?_
      refine x_istore_n [(2, 47), (0, 1)] dX11_select_169 rfl (Nat.le_of_ble_eq_true rfl) ?_
      refine x_iload_n dX11_select_170 rfl ?_
      refine x_if_eq 37 dX11_select_171 rfl (fun hc => absurd hc (by decide)) (fun _ => ?_)
      refine x_aload_n dX11_select_174 rfl ?_
      obtain ⟨P29, hC, F⟩ := F
      refine x_inv dX11_select_175 mlX11_213 hC (sW47 hW) (Nat.le_of_ble_eq_true rfl) (gW47 hW) rfl rfl (by omega) (Nat.zero_le _) (Nat.zero_le _) (Nat.le_of_ble_eq_true rfl) (fun o1 Y32 w31 ht hP => ?_)
      obtain rfl : o1 = none := ht
      obtain ⟨rfl, hP⟩ := hP
      have F := F w31 hP
      refine x_goto 37 dX11_select_178 rfl ?_
      exact F
  · have F := F.2 hc
    exact x_ret none rfl ⟨dX11_select_141, rfl⟩ F

set_option maxRecDepth 100000 in
set_option maxHeartbeats 4000000 in
theorem bX11_select_208 {d mc ms : Nat} {X : XX} {v : VV} {Q : QQ} (x1 : Int) (hd : 6 ≤ d) (hW : SW X) (F : i32 x1 → ((((v 47 25) = 0) → ∃ P33 : Option AV → VV → Prop, Con mX11_keeps 2 0 0 [(2, 47)] X v (fun o X1 v1 => X1 = X ∧ P33 o v1) ∧ ∀ (w35 : VV), P33 none w35 → (0 ≤ (w35 47 0) ∧ (w35 47 0) < 17) ∧ Ex mX11_select d 235 [(2, 47), (0, 1)] [] X (upd2 w35 47 41 (w35 60 (w35 47 0))) mc ms Q) ∧ ((¬ (v 47 25) = 0) → Q none X v))) : Ex mX11_select d 208 [(2, 47), (0, x1)] [] X v mc ms Q := by
  refine x_li32 (i := 1) rfl (fun hx1 => ?_)
  have F := F hx1
  refine x_aload_n dX11_select_208 rfl ?_
  refine x_geti (e := (v 47 25)) 0 flX11_169 dX11_select_209 (sW47 hW) (gW47 hW) rfl rfl (Nat.le_of_ble_eq_true rfl) (tagn2 rfl) ?_
  refine x_if_eq 216 dX11_select_212 rfl (fun hc => ?_) (fun hc => ?_)
  · have F := F.1 hc
    refine x_aload_n dX11_select_216 rfl ?_
    obtain ⟨P33, hC, F⟩ := F
    refine x_inv dX11_select_217 mlX11_213 hC (sW47 hW) (Nat.le_of_ble_eq_true rfl) (gW47 hW) rfl rfl (by omega) (Nat.zero_le _) (Nat.zero_le _) (Nat.le_of_ble_eq_true rfl) (fun o1 Y36 w35 ht hP => ?_)
    obtain rfl : o1 = none := ht
    obtain ⟨rfl, hP⟩ := hP
    have F := F w35 hP
    refine x_aload_n dX11_select_220 rfl ?_
    refine x_aload_n dX11_select_221 rfl ?_
    refine x_getr (r' := 60) flX11_48 dX11_select_222 (sW47 hW) (gW47 hW) (rW47_13 hW) rfl (Nat.le_of_ble_eq_true rfl) ?_
    refine x_aload_n dX11_select_225 rfl ?_
    refine x_geti (e := (w35 47 0)) 0 flX11_159 dX11_select_226 (sW47 hW) (gW47 hW) rfl rfl (Nat.le_of_ble_eq_true rfl) (tagn2 rfl) ?_
    obtain ⟨hi, F⟩ := F
    refine x_iald (e := (w35 60 (w35 47 0))) dX11_select_229 (sW60 hW) (gW60 hW) hi rfl ?_
    refine x_puti 0 fwX11_249 dX11_select_230 (sW47 hW) (gW47 hW) (fun h => Bool.noConfusion h) (Nat.le_of_ble_eq_true rfl) rfl (Or.inl ⟨rfl, Or.inl rfl⟩) ?_
    refine x_iconst dX11_select_233 rfl (i32_of rfl) ?_
    refine x_istore_n [(2, 47), (0, 1)] dX11_select_234 rfl (Nat.le_of_ble_eq_true rfl) ?_
    exact F
  · have F := F.2 hc
    exact x_ret none rfl ⟨dX11_select_215, rfl⟩ F

set_option maxRecDepth 100000 in
set_option maxHeartbeats 4000000 in
theorem bX11_select_235 {d mc ms : Nat} {X : XX} {v : VV} {Q : QQ} (x1 : Int) (hd : 6 ≤ d) (hW : SW X) (F : i32 x1 → (((x1 = 0) → ∃ P37 : Option AV → VV → Prop, Con mX11_isWord 0 0 0 [(2, 47), (1, (v 47 37))] X v (fun o X1 v1 => X1 = X ∧ P37 o v1) ∧ ∀ (r38 : Int) (w39 : VV), P37 (some (0, r38)) w39 → (((¬ r38 = 0) → ∃ P41 : Option AV → VV → Prop, Con mX11_keeps 2 0 0 [(2, 47)] X w39 (fun o X1 v1 => X1 = X ∧ P41 o v1) ∧ ∀ (w43 : VV), P41 none w43 → ∃ P45 : Option AV → VV → Prop, Con mX11_formula 5 0 0 [(2, 47), (0, 6)] X w43 (fun o X1 v1 => X1 = X ∧ P45 o v1) ∧ ∀ (w47 : VV), P45 none w47 → (((¬ (w47 47 25) = 0) → Ex mX11_select d 411 [(2, 47), (0, x1)] [] X w47 mc ms Q) ∧ (((w47 47 25) = 0) → ((((w47 47 29) = 60) → Ex mX11_select d 411 [(2, 47), (0, x1)] [] X w47 mc ms Q) ∧ ((¬ (w47 47 29) = 60) → ((((w47 47 29) = 61) → Ex mX11_select d 411 [(2, 47), (0, x1)] [] X w47 mc ms Q) ∧ ((¬ (w47 47 29) = 61) → ∃ P49 : Option AV → VV → Prop, Con mX11_fail 0 0 0 [(2, 47), (0, 1), (0, (w47 47 30))] X w47 (fun o X1 v1 => X1 = X ∧ P49 o v1) ∧ ∀ (w51 : VV), P49 none w51 → Ex mX11_select d 411 [(2, 47), (0, x1)] [] X w51 mc ms Q))))))) ∧ ((r38 = 0) → Q none X w39))) ∧ ((¬ x1 = 0) → (0 ≤ (v 47 0) ∧ (v 47 0) < 17) ∧ (((¬ (v 54 (v 47 0)) = 3) → Ex mX11_select d 261 [(2, 47), (0, x1)] [] X v mc ms Q) ∧ (((v 54 (v 47 0)) = 3) → ∃ P53 : Option AV → VV → Prop, Con mX11_fail 0 0 0 [(2, 47), (0, 1), (0, (v 47 30))] X v (fun o X1 v1 => X1 = X ∧ P53 o v1) ∧ ∀ (w55 : VV), P53 none w55 → Ex mX11_select d 261 [(2, 47), (0, x1)] [] X w55 mc ms Q))))) : Ex mX11_select d 235 [(2, 47), (0, x1)] [] X v mc ms Q := by
  refine x_li32 (i := 1) rfl (fun hx1 => ?_)
  have F := F hx1
  refine x_iload_n dX11_select_235 rfl ?_
  refine x_if_eq 355 dX11_select_236 rfl (fun hc => ?_) (fun hc => ?_)
  · have F := F.1 hc
    refine x_aload_n dX11_select_355 rfl ?_
    refine x_aload_n dX11_select_356 rfl ?_
    refine x_geti (e := (v 47 37)) 1 flX11_96 dX11_select_357 (sW47 hW) (gW47 hW) rfl rfl (Nat.le_of_ble_eq_true rfl) (tagn2 rfl) ?_
    obtain ⟨P37, hC, F⟩ := F
    refine x_inv dX11_select_360 mlX11_227 hC (sW47 hW) (Nat.le_of_ble_eq_true rfl) (gW47 hW) rfl rfl (by omega) (Nat.zero_le _) (Nat.zero_le _) (Nat.le_of_ble_eq_true rfl) (fun o1 Y40 w39 ht hP => ?_)
    obtain ⟨r38, rfl⟩ : ∃ i, o1 = some (0, i) := ht
    obtain ⟨rfl, hP⟩ := hP
    have F := F r38 w39 hP
    refine x_if_ne 367 dX11_select_363 rfl (fun hc => ?_) (fun hc => ?_)
    · have F := F.1 hc
      refine x_aload_n dX11_select_367 rfl ?_
      obtain ⟨P41, hC, F⟩ := F
      refine x_inv dX11_select_368 mlX11_213 hC (sW47 hW) (Nat.le_of_ble_eq_true rfl) (gW47 hW) rfl rfl (by omega) (Nat.zero_le _) (Nat.zero_le _) (Nat.le_of_ble_eq_true rfl) (fun o1 Y44 w43 ht hP => ?_)
      obtain rfl : o1 = none := ht
      obtain ⟨rfl, hP⟩ := hP
      have F := F w43 hP
      refine x_aload_n dX11_select_371 rfl ?_
      refine x_bipush dX11_select_372 kb_6 (i32_of rfl) ?_
      obtain ⟨P45, hC, F⟩ := F
      refine x_inv dX11_select_374 mlX11_246 hC (sW47 hW) (Nat.le_of_ble_eq_true rfl) (gW47 hW) rfl rfl (by omega) (Nat.zero_le _) (Nat.zero_le _) (Nat.le_of_ble_eq_true rfl) (fun o1 Y48 w47 ht hP => ?_)
      obtain rfl : o1 = none := ht
      obtain ⟨rfl, hP⟩ := hP
      have F := F w47 hP
      refine x_aload_n dX11_select_377 rfl ?_
      refine x_geti (e := (w47 47 25)) 0 flX11_169 dX11_select_378 (sW47 hW) (gW47 hW) rfl rfl (Nat.le_of_ble_eq_true rfl) (tagn2 rfl) ?_
      refine x_if_ne 411 dX11_select_381 rfl (fun hc => ?_) (fun hc => ?_)
      · have F := F.1 hc
        exact F
      · have F := F.2 hc
        refine x_aload_n dX11_select_384 rfl ?_
        refine x_geti (e := (w47 47 29)) 0 flX11_197 dX11_select_385 (sW47 hW) (gW47 hW) rfl rfl (Nat.le_of_ble_eq_true rfl) (tagn2 rfl) ?_
        refine x_bipush dX11_select_388 kb_60 (i32_of rfl) ?_
        refine x_icmp_eq 411 dX11_select_390 rfl (fun hc => ?_) (fun hc => ?_)
        · have F := F.1 hc
          exact F
        · have F := F.2 hc
          refine x_aload_n dX11_select_393 rfl ?_
          refine x_geti (e := (w47 47 29)) 0 flX11_197 dX11_select_394 (sW47 hW) (gW47 hW) rfl rfl (Nat.le_of_ble_eq_true rfl) (tagn2 rfl) ?_
          refine x_bipush dX11_select_397 kb_61 (i32_of rfl) ?_
          refine x_icmp_eq 411 dX11_select_399 rfl (fun hc => ?_) (fun hc => ?_)
          · have F := F.1 hc
            exact F
          · have F := F.2 hc
            refine x_aload_n dX11_select_402 rfl ?_
            refine x_iconst dX11_select_403 rfl (i32_of rfl) ?_
            refine x_aload_n dX11_select_404 rfl ?_
            refine x_geti (e := (w47 47 30)) 0 flX11_188 dX11_select_405 (sW47 hW) (gW47 hW) rfl rfl (Nat.le_of_ble_eq_true rfl) (tagn2 rfl) ?_
            obtain ⟨P49, hC, F⟩ := F
            refine x_inv dX11_select_408 mlX11_216 hC (sW47 hW) (Nat.le_of_ble_eq_true rfl) (gW47 hW) rfl rfl (by omega) (Nat.zero_le _) (Nat.zero_le _) (Nat.le_of_ble_eq_true rfl) (fun o1 Y52 w51 ht hP => ?_)
            obtain rfl : o1 = none := ht
            obtain ⟨rfl, hP⟩ := hP
            have F := F w51 hP
            exact F
    · have F := F.2 hc
      exact x_ret none rfl ⟨dX11_select_366, rfl⟩ F
  · have F := F.2 hc
    refine x_aload_n dX11_select_239 rfl ?_
    refine x_getr (r' := 54) flX11_30 dX11_select_240 (sW47 hW) (gW47 hW) (rW47_7 hW) rfl (Nat.le_of_ble_eq_true rfl) ?_
    refine x_aload_n dX11_select_243 rfl ?_
    refine x_geti (e := (v 47 0)) 0 flX11_159 dX11_select_244 (sW47 hW) (gW47 hW) rfl rfl (Nat.le_of_ble_eq_true rfl) (tagn2 rfl) ?_
    obtain ⟨hi, F⟩ := F
    refine x_iald (e := (v 54 (v 47 0))) dX11_select_247 (sW54 hW) (gW54 hW) hi rfl ?_
    refine x_iconst dX11_select_248 rfl (i32_of rfl) ?_
    refine x_icmp_ne 261 dX11_select_249 rfl (fun hc => ?_) (fun hc => ?_)
    · have F := F.1 hc
      exact F
    · have F := F.2 hc
      refine x_aload_n dX11_select_252 rfl ?_
      refine x_iconst dX11_select_253 rfl (i32_of rfl) ?_
      refine x_aload_n dX11_select_254 rfl ?_
      refine x_geti (e := (v 47 30)) 0 flX11_188 dX11_select_255 (sW47 hW) (gW47 hW) rfl rfl (Nat.le_of_ble_eq_true rfl) (tagn2 rfl) ?_
      obtain ⟨P53, hC, F⟩ := F
      refine x_inv dX11_select_258 mlX11_216 hC (sW47 hW) (Nat.le_of_ble_eq_true rfl) (gW47 hW) rfl rfl (by omega) (Nat.zero_le _) (Nat.zero_le _) (Nat.le_of_ble_eq_true rfl) (fun o1 Y56 w55 ht hP => ?_)
      obtain rfl : o1 = none := ht
      obtain ⟨rfl, hP⟩ := hP
      have F := F w55 hP
      exact F

set_option maxRecDepth 100000 in
set_option maxHeartbeats 4000000 in
theorem bX11_select_261 {d mc ms : Nat} {X : XX} {v : VV} {Q : QQ} (x1 : Int) (hd : 6 ≤ d) (hW : SW X) (F : i32 x1 → (((¬ (v 47 25) = 0) → Ex mX11_select d 308 [(2, 47), (0, x1)] [] X v mc ms Q) ∧ (((v 47 25) = 0) → (0 ≤ (v 47 0) ∧ (v 47 0) < 17) ∧ (0 ≤ (v 54 (v 47 0)) ∧ (v 54 (v 47 0)) < 3) ∧ (0 ≤ (v 47 0) ∧ (v 47 0) < 17) ∧ (0 ≤ (v 54 (v 47 0)) ∧ (v 54 (v 47 0)) < 3) ∧ ∃ P57 : Option AV → VV → Prop, Con mX11_name 3 0 0 [(2, 47)] X (upd2 (upd2 v 70 (v 54 (v 47 0)) (v 47 32)) 71 (v 54 (v 47 0)) (v 47 30)) (fun o X1 v1 => X1 = X ∧ P57 o v1) ∧ ∀ (w59 : VV), P57 none w59 → Ex mX11_select d 308 [(2, 47), (0, x1)] [] X w59 mc ms Q))) : Ex mX11_select d 261 [(2, 47), (0, x1)] [] X v mc ms Q := by
  refine x_li32 (i := 1) rfl (fun hx1 => ?_)
  have F := F hx1
  refine x_aload_n dX11_select_261 rfl ?_
  refine x_geti (e := (v 47 25)) 0 flX11_169 dX11_select_262 (sW47 hW) (gW47 hW) rfl rfl (Nat.le_of_ble_eq_true rfl) (tagn2 rfl) ?_
  refine x_if_ne 308 dX11_select_265 rfl (fun hc => ?_) (fun hc => ?_)
  · have F := F.1 hc
    exact F
  · have F := F.2 hc
    refine x_aload_n dX11_select_268 rfl ?_
    refine x_getr (r' := 70) flX11_108 dX11_select_269 (sW47 hW) (gW47 hW) (rW47_43 hW) rfl (Nat.le_of_ble_eq_true rfl) ?_
    refine x_aload_n dX11_select_272 rfl ?_
    refine x_getr (r' := 54) flX11_30 dX11_select_273 (sW47 hW) (gW47 hW) (rW47_7 hW) rfl (Nat.le_of_ble_eq_true rfl) ?_
    refine x_aload_n dX11_select_276 rfl ?_
    refine x_geti (e := (v 47 0)) 0 flX11_159 dX11_select_277 (sW47 hW) (gW47 hW) rfl rfl (Nat.le_of_ble_eq_true rfl) (tagn2 rfl) ?_
    obtain ⟨hi, F⟩ := F
    refine x_iald (e := (v 54 (v 47 0))) dX11_select_280 (sW54 hW) (gW54 hW) hi rfl ?_
    refine x_aload_n dX11_select_281 rfl ?_
    refine x_geti (e := (v 47 32)) 1 flX11_194 dX11_select_282 (sW47 hW) (gW47 hW) rfl rfl (Nat.le_of_ble_eq_true rfl) (tagn2 rfl) ?_
    obtain ⟨hi, F⟩ := F
    refine x_last dX11_select_285 (sW70 hW) (gW70 hW) hi ?_
    refine x_aload_n dX11_select_286 rfl ?_
    refine x_getr (r' := 71) flX11_111 dX11_select_287 (sW47 hW) (gW47 hW) (rW47_44 hW) rfl (Nat.le_of_ble_eq_true rfl) ?_
    refine x_aload_n dX11_select_290 rfl ?_
    refine x_getr (r' := 54) flX11_30 dX11_select_291 (sW47 hW) (gW47 hW) (rW47_7 hW) rfl (Nat.le_of_ble_eq_true rfl) ?_
    refine x_aload_n dX11_select_294 rfl ?_
    refine x_geti (e := (v 47 0)) 0 flX11_159 dX11_select_295 (sW47 hW) (gW47 hW) rfl rfl (Nat.le_of_ble_eq_true rfl) (tagn2 rfl) ?_
    obtain ⟨hi, F⟩ := F
    refine x_iald (e := (v 54 (v 47 0))) dX11_select_298 (sW54 hW) (gW54 hW) hi rfl ?_
    refine x_aload_n dX11_select_299 rfl ?_
    refine x_geti (e := (v 47 30)) 0 flX11_188 dX11_select_300 (sW47 hW) (gW47 hW) rfl rfl (Nat.le_of_ble_eq_true rfl) (tagn2 rfl) ?_
    obtain ⟨hi, F⟩ := F
    refine x_iast dX11_select_303 (sW71 hW) (gW71 hW) hi ?_
    refine x_aload_n dX11_select_304 rfl ?_
    obtain ⟨P57, hC, F⟩ := F
    refine x_inv dX11_select_305 mlX11_238 hC (sW47 hW) (Nat.le_of_ble_eq_true rfl) (gW47 hW) rfl rfl (by omega) (Nat.zero_le _) (Nat.zero_le _) (Nat.le_of_ble_eq_true rfl) (fun o1 Y60 w59 ht hP => ?_)
    obtain rfl : o1 = none := ht
    obtain ⟨rfl, hP⟩ := hP
    have F := F w59 hP
    exact F

set_option maxRecDepth 100000 in
set_option maxHeartbeats 4000000 in
theorem bX11_select_308 {d mc ms : Nat} {X : XX} {v : VV} {Q : QQ} (x1 : Int) (hd : 6 ≤ d) (hW : SW X) (F : i32 x1 → ((((v 47 25) = 0) → (0 ≤ (v 47 0) ∧ (v 47 0) < 17) ∧ (i32 (v 54 (v 47 0)) → i32 ((v 54 (v 47 0)) + 1)) ∧ (0 ≤ (v 47 0) ∧ (v 47 0) < 17) ∧ (((¬ (v 47 29) = 44) → Ex mX11_select d 235 [(2, 47), (0, 0)] [] X (upd2 v 54 (v 47 0) ((v 54 (v 47 0)) + 1)) mc ms Q) ∧ (((v 47 29) = 44) → ∃ P61 : Option AV → VV → Prop, Con mX11_keeps 2 0 0 [(2, 47)] X (upd2 v 54 (v 47 0) ((v 54 (v 47 0)) + 1)) (fun o X1 v1 => X1 = X ∧ P61 o v1) ∧ ∀ (w63 : VV), P61 none w63 → Ex mX11_select d 235 [(2, 47), (0, 1)] [] X w63 mc ms Q))) ∧ ((¬ (v 47 25) = 0) → Q none X v))) : Ex mX11_select d 308 [(2, 47), (0, x1)] [] X v mc ms Q := by
  refine x_li32 (i := 1) rfl (fun hx1 => ?_)
  have F := F hx1
  refine x_aload_n dX11_select_308 rfl ?_
  refine x_geti (e := (v 47 25)) 0 flX11_169 dX11_select_309 (sW47 hW) (gW47 hW) rfl rfl (Nat.le_of_ble_eq_true rfl) (tagn2 rfl) ?_
  refine x_if_eq 316 dX11_select_312 rfl (fun hc => ?_) (fun hc => ?_)
  · have F := F.1 hc
    refine x_aload_n dX11_select_316 rfl ?_
    refine x_getr (r' := 54) flX11_30 dX11_select_317 (sW47 hW) (gW47 hW) (rW47_7 hW) rfl (Nat.le_of_ble_eq_true rfl) ?_
    refine x_aload_n dX11_select_320 rfl ?_
    refine x_geti (e := (v 47 0)) 0 flX11_159 dX11_select_321 (sW47 hW) (gW47 hW) rfl rfl (Nat.le_of_ble_eq_true rfl) (tagn2 rfl) ?_
    refine x_dup2 dX11_select_324 (tag1 rfl) (tag1 rfl) ?_
    obtain ⟨hi, F⟩ := F
    refine x_iald (e := (v 54 (v 47 0))) dX11_select_325 (sW54 hW) (gW54 hW) hi rfl ?_
    refine x_iconst dX11_select_326 rfl (i32_of rfl) ?_
    refine x_si32 (i := 1) rfl (fun hk1 => ?_)
    obtain ⟨hz, F⟩ := F
    have hz := hz hk1
    refine x_iadd dX11_select_327 hz ?_
    obtain ⟨hi, F⟩ := F
    refine x_iast dX11_select_328 (sW54 hW) (gW54 hW) hi ?_
    refine x_aload_n dX11_select_329 rfl ?_
    refine x_geti (e := (v 47 29)) 0 flX11_197 dX11_select_330 (sW47 hW) (gW47 hW) rfl rfl (Nat.le_of_ble_eq_true rfl) (tagn2 rfl) ?_
    refine x_bipush dX11_select_333 kb_44 (i32_of rfl) ?_
    refine x_icmp_ne 342 dX11_select_335 rfl (fun hc => ?_) (fun hc => ?_)
    · have F := F.1 hc
      refine x_iconst dX11_select_342 rfl (i32_of rfl) ?_
      refine x_istore_n [(2, 47), (0, 0)] dX11_select_343 rfl (Nat.le_of_ble_eq_true rfl) ?_
      refine x_iload_n dX11_select_344 rfl ?_
      refine x_if_eq 235 dX11_select_345 rfl (fun _ => ?_) (fun hc => absurd hc (by decide))
      exact F
    · have F := F.2 hc
      refine x_iconst dX11_select_338 rfl (i32_of rfl) ?_
      refine x_goto 343 dX11_select_339 rfl ?_
      refine x_istore_n [(2, 47), (0, 1)] dX11_select_343 rfl (Nat.le_of_ble_eq_true rfl) ?_
      refine x_iload_n dX11_select_344 rfl ?_
      refine x_if_eq 235 dX11_select_345 rfl (fun hc => absurd hc (by decide)) (fun _ => ?_)
      refine x_aload_n dX11_select_348 rfl ?_
      obtain ⟨P61, hC, F⟩ := F
      refine x_inv dX11_select_349 mlX11_213 hC (sW47 hW) (Nat.le_of_ble_eq_true rfl) (gW47 hW) rfl rfl (by omega) (Nat.zero_le _) (Nat.zero_le _) (Nat.le_of_ble_eq_true rfl) (fun o1 Y64 w63 ht hP => ?_)
      obtain rfl : o1 = none := ht
      obtain ⟨rfl, hP⟩ := hP
      have F := F w63 hP
      refine x_goto 235 dX11_select_352 rfl ?_
      exact F
  · have F := F.2 hc
    exact x_ret none rfl ⟨dX11_select_315, rfl⟩ F

set_option maxRecDepth 100000 in
set_option maxHeartbeats 4000000 in
theorem bX11_select_411 {d mc ms : Nat} {X : XX} {v : VV} {Q : QQ} (x1 : Int) (hd : 6 ≤ d) (hW : SW X) (F : i32 x1 → ((((v 47 25) = 0) → ∃ P65 : Option AV → VV → Prop, Con mX11_keeps 2 0 0 [(2, 47)] X (upd2 v 47 42 (v 47 30)) (fun o X1 v1 => X1 = X ∧ P65 o v1) ∧ ∀ (w67 : VV), P65 none w67 → ∃ P69 : Option AV → VV → Prop, Con mX11_formula 5 0 0 [(2, 47), (0, 7)] X w67 (fun o X1 v1 => X1 = X ∧ P69 o v1) ∧ ∀ (w71 : VV), P69 none w71 → Q none X w71) ∧ ((¬ (v 47 25) = 0) → Q none X v))) : Ex mX11_select d 411 [(2, 47), (0, x1)] [] X v mc ms Q := by
  refine x_li32 (i := 1) rfl (fun hx1 => ?_)
  have F := F hx1
  refine x_aload_n dX11_select_411 rfl ?_
  refine x_geti (e := (v 47 25)) 0 flX11_169 dX11_select_412 (sW47 hW) (gW47 hW) rfl rfl (Nat.le_of_ble_eq_true rfl) (tagn2 rfl) ?_
  refine x_if_eq 419 dX11_select_415 rfl (fun hc => ?_) (fun hc => ?_)
  · have F := F.1 hc
    refine x_aload_n dX11_select_419 rfl ?_
    refine x_aload_n dX11_select_420 rfl ?_
    refine x_geti (e := (v 47 30)) 0 flX11_188 dX11_select_421 (sW47 hW) (gW47 hW) rfl rfl (Nat.le_of_ble_eq_true rfl) (tagn2 rfl) ?_
    refine x_puti 0 fwX11_252 dX11_select_424 (sW47 hW) (gW47 hW) (fun h => Bool.noConfusion h) (Nat.le_of_ble_eq_true rfl) rfl (Or.inl ⟨rfl, Or.inl rfl⟩) ?_
    refine x_aload_n dX11_select_427 rfl ?_
    obtain ⟨P65, hC, F⟩ := F
    refine x_inv dX11_select_428 mlX11_213 hC (sW47 hW) (Nat.le_of_ble_eq_true rfl) (gW47 hW) rfl rfl (by omega) (Nat.zero_le _) (Nat.zero_le _) (Nat.le_of_ble_eq_true rfl) (fun o1 Y68 w67 ht hP => ?_)
    obtain rfl : o1 = none := ht
    obtain ⟨rfl, hP⟩ := hP
    have F := F w67 hP
    refine x_aload_n dX11_select_431 rfl ?_
    refine x_bipush dX11_select_432 kb_7 (i32_of rfl) ?_
    obtain ⟨P69, hC, F⟩ := F
    refine x_inv dX11_select_434 mlX11_246 hC (sW47 hW) (Nat.le_of_ble_eq_true rfl) (gW47 hW) rfl rfl (by omega) (Nat.zero_le _) (Nat.zero_le _) (Nat.le_of_ble_eq_true rfl) (fun o1 Y72 w71 ht hP => ?_)
    obtain rfl : o1 = none := ht
    obtain ⟨rfl, hP⟩ := hP
    have F := F w71 hP
    exact x_ret none rfl ⟨dX11_select_437, rfl⟩ F
  · have F := F.2 hc
    exact x_ret none rfl ⟨dX11_select_418, rfl⟩ F

set_option maxRecDepth 100000 in
set_option maxHeartbeats 4000000 in
theorem bX11_means_0 {d mc ms : Nat} {X : XX} {v : VV} {Q : QQ} (a1 : Int) (a2 : Int) (hd : 0 ≤ d) (hW : SW X) (F : i32 a1 → i32 a2 → ((((v 47 25) = 0) → Ex mX11_means d 16 [(2, 47), (0, a1), (0, a2)] [] X v mc ms Q) ∧ ((¬ (v 47 25) = 0) → (((a2 < (v 47 26)) → Ex mX11_means d 16 [(2, 47), (0, a1), (0, a2)] [] X v mc ms Q) ∧ (((v 47 26) ≤ a2) → Q none X v))))) : Ex mX11_means d 0 [(2, 47), (0, a1), (0, a2)] [] X v mc ms Q := by
  refine x_li32 (i := 1) rfl (fun ha1 => ?_)
  have F := F ha1
  refine x_li32 (i := 2) rfl (fun ha2 => ?_)
  have F := F ha2
  refine x_aload_n dX11_means_0 rfl ?_
  refine x_geti (e := (v 47 25)) 0 flX11_169 dX11_means_1 (sW47 hW) (gW47 hW) rfl rfl (Nat.le_of_ble_eq_true rfl) (tagn2 rfl) ?_
  refine x_if_eq 16 dX11_means_4 rfl (fun hc => ?_) (fun hc => ?_)
  · have F := F.1 hc
    exact F
  · have F := F.2 hc
    refine x_aload_n dX11_means_7 rfl ?_
    refine x_geti (e := (v 47 26)) 0 flX11_172 dX11_means_8 (sW47 hW) (gW47 hW) rfl rfl (Nat.le_of_ble_eq_true rfl) (tagn2 rfl) ?_
    refine x_iload_n dX11_means_11 rfl ?_
    refine x_icmp_gt 16 dX11_means_12 rfl (fun hc => ?_) (fun hc => ?_)
    · have F := F.1 hc
      exact F
    · have F := F.2 hc
      exact x_ret none rfl ⟨dX11_means_15, rfl⟩ F

set_option maxRecDepth 100000 in
set_option maxHeartbeats 4000000 in
theorem bX11_means_16 {d mc ms : Nat} {X : XX} {v : VV} {Q : QQ} (a1 : Int) (a2 : Int) (hd : 0 ≤ d) (hW : SW X) (F : i32 a1 → i32 a2 → Q none X (upd2 (upd2 v 47 25 a1) 47 26 a2)) : Ex mX11_means d 16 [(2, 47), (0, a1), (0, a2)] [] X v mc ms Q := by
  refine x_li32 (i := 1) rfl (fun ha1 => ?_)
  have F := F ha1
  refine x_li32 (i := 2) rfl (fun ha2 => ?_)
  have F := F ha2
  refine x_aload_n dX11_means_16 rfl ?_
  refine x_iload_n dX11_means_17 rfl ?_
  refine x_puti 0 fwX11_169 dX11_means_18 (sW47 hW) (gW47 hW) (fun h => Bool.noConfusion h) (Nat.le_of_ble_eq_true rfl) rfl (Or.inl ⟨rfl, Or.inl rfl⟩) ?_
  refine x_aload_n dX11_means_21 rfl ?_
  refine x_iload_n dX11_means_22 rfl ?_
  refine x_puti 0 fwX11_172 dX11_means_23 (sW47 hW) (gW47 hW) (fun h => Bool.noConfusion h) (Nat.le_of_ble_eq_true rfl) rfl (Or.inl ⟨rfl, Or.inl rfl⟩) ?_
  exact x_ret none rfl ⟨dX11_means_26, rfl⟩ F
