set_option maxRecDepth 100000 in
set_option maxHeartbeats 4000000 in
theorem bX11_act_0 {d mc ms : Nat} {X : XX} {v : VV} {Q : QQ} (hd : 7 ≤ d) (hW : SW X) (F : (0 ≤ (v 47 0) ∧ (v 47 0) < 17) ∧ (0 ≤ (v 47 0) ∧ (v 47 0) < 17) ∧ (0 ≤ (v 47 0) ∧ (v 47 0) < 17) ∧ Ex mX11_act d 56 [(2, 47), (0, (v 47 0)), (0, 0)] [] X (upd2 (upd2 (upd2 (upd2 (upd2 (upd2 (upd2 (upd2 v 47 24 (v 47 22)) 47 22 0) 47 23 0) 47 25 0) 47 26 (-1)) 60 (v 47 0) 0) 51 (v 47 0) 0) 54 (v 47 0) 0) mc ms Q) : Ex mX11_act d 0 [(2, 47), (3, 0), (3, 0)] [] X v mc ms Q := by
  refine x_aload_n dX11_act_0 rfl ?_
  refine x_geti (e := (v 47 0)) 0 flX11_159 dX11_act_1 (sW47 hW) (gW47 hW) rfl rfl (Nat.le_of_ble_eq_true rfl) (tagn2 rfl) ?_
  refine x_istore_n [(2, 47), (0, (v 47 0)), (3, 0)] dX11_act_4 rfl (Nat.le_of_ble_eq_true rfl) ?_
  refine x_aload_n dX11_act_5 rfl ?_
  refine x_aload_n dX11_act_6 rfl ?_
  refine x_geti (e := (v 47 22)) 0 flX11_166 dX11_act_7 (sW47 hW) (gW47 hW) rfl rfl (Nat.le_of_ble_eq_true rfl) (tagn2 rfl) ?_
  refine x_puti 0 fwX11_182 dX11_act_10 (sW47 hW) (gW47 hW) (fun h => Bool.noConfusion h) (Nat.le_of_ble_eq_true rfl) rfl (Or.inl ⟨rfl, Or.inl rfl⟩) ?_
  refine x_aload_n dX11_act_13 rfl ?_
  refine x_iconst dX11_act_14 rfl (i32_of rfl) ?_
  refine x_puti 0 fwX11_166 dX11_act_15 (sW47 hW) (gW47 hW) (fun h => Bool.noConfusion h) (Nat.le_of_ble_eq_true rfl) rfl (Or.inl ⟨rfl, Or.inl rfl⟩) ?_
  refine x_aload_n dX11_act_18 rfl ?_
  refine x_iconst dX11_act_19 rfl (i32_of rfl) ?_
  refine x_puti 0 fwX11_179 dX11_act_20 (sW47 hW) (gW47 hW) (fun h => Bool.noConfusion h) (Nat.le_of_ble_eq_true rfl) rfl (Or.inl ⟨rfl, Or.inl rfl⟩) ?_
  refine x_aload_n dX11_act_23 rfl ?_
  refine x_iconst dX11_act_24 rfl (i32_of rfl) ?_
  refine x_puti 0 fwX11_169 dX11_act_25 (sW47 hW) (gW47 hW) (fun h => Bool.noConfusion h) (Nat.le_of_ble_eq_true rfl) rfl (Or.inl ⟨rfl, Or.inl rfl⟩) ?_
  refine x_aload_n dX11_act_28 rfl ?_
  refine x_iconst dX11_act_29 rfl (i32_of rfl) ?_
  refine x_puti 0 fwX11_172 dX11_act_30 (sW47 hW) (gW47 hW) (fun h => Bool.noConfusion h) (Nat.le_of_ble_eq_true rfl) rfl (Or.inl ⟨rfl, Or.inl rfl⟩) ?_
  refine x_aload_n dX11_act_33 rfl ?_
  refine x_getr (r' := 60) flX11_48 dX11_act_34 (sW47 hW) (gW47 hW) (rW47_13 hW) rfl (Nat.le_of_ble_eq_true rfl) ?_
  refine x_iload_n dX11_act_37 rfl ?_
  refine x_iconst dX11_act_38 rfl (i32_of rfl) ?_
  obtain ⟨hi, F⟩ := F
  refine x_iast dX11_act_39 (sW60 hW) (gW60 hW) hi ?_
  refine x_aload_n dX11_act_40 rfl ?_
  refine x_getr (r' := 51) flX11_21 dX11_act_41 (sW47 hW) (gW47 hW) (rW47_4 hW) rfl (Nat.le_of_ble_eq_true rfl) ?_
  refine x_iload_n dX11_act_44 rfl ?_
  refine x_iconst dX11_act_45 rfl (i32_of rfl) ?_
  obtain ⟨hi, F⟩ := F
  refine x_iast dX11_act_46 (sW51 hW) (gW51 hW) hi ?_
  refine x_aload_n dX11_act_47 rfl ?_
  refine x_getr (r' := 54) flX11_30 dX11_act_48 (sW47 hW) (gW47 hW) (rW47_7 hW) rfl (Nat.le_of_ble_eq_true rfl) ?_
  refine x_iload_n dX11_act_51 rfl ?_
  refine x_iconst dX11_act_52 rfl (i32_of rfl) ?_
  obtain ⟨hi, F⟩ := F
  refine x_iast dX11_act_53 (sW54 hW) (gW54 hW) hi ?_
  refine x_iconst dX11_act_54 rfl (i32_of rfl) ?_
  refine x_istore_n [(2, 47), (0, (v 47 0)), (0, 0)] dX11_act_55 rfl (Nat.le_of_ble_eq_true rfl) ?_
  exact F

set_option maxRecDepth 100000 in
set_option maxHeartbeats 4000000 in
theorem bX11_act_56 {d mc ms : Nat} {X : XX} {v : VV} {Q : QQ} (x1 : Int) (x2 : Int) (hd : 7 ≤ d) (hW : SW X) (F : i32 x1 → i32 x2 → (((8 ≤ x2) → Ex mX11_act d 94 [(2, 47), (0, x1), (0, 0)] [] X v mc ms Q) ∧ ((x2 < 8) → i32 (8 * x1) ∧ (i32 (8 * x1) → i32 ((8 * x1) + x2)) ∧ (0 ≤ ((8 * x1) + x2) ∧ ((8 * x1) + x2) < 136) ∧ i32 (8 * x1) ∧ (i32 (8 * x1) → i32 ((8 * x1) + x2)) ∧ (0 ≤ ((8 * x1) + x2) ∧ ((8 * x1) + x2) < 136) ∧ i32 (x2 + 1) ∧ Ex mX11_act d 56 [(2, 47), (0, x1), (0, (x2 + 1))] [] X (upd2 (upd2 v 65 ((8 * x1) + x2) 0) 66 ((8 * x1) + x2) 0) mc ms Q))) : Ex mX11_act d 56 [(2, 47), (0, x1), (0, x2)] [] X v mc ms Q := by
  refine x_li32 (i := 1) rfl (fun hx1 => ?_)
  have F := F hx1
  refine x_li32 (i := 2) rfl (fun hx2 => ?_)
  have F := F hx2
  refine x_iload_n dX11_act_56 rfl ?_
  refine x_bipush dX11_act_57 kb_8 (i32_of rfl) ?_
  refine x_icmp_ge 92 dX11_act_59 rfl (fun hc => ?_) (fun hc => ?_)
  · have F := F.1 hc
    refine x_iconst dX11_act_92 rfl (i32_of rfl) ?_
    refine x_istore_n [(2, 47), (0, x1), (0, 0)] dX11_act_93 rfl (Nat.le_of_ble_eq_true rfl) ?_
    exact F
  · have F := F.2 hc
    refine x_aload_n dX11_act_62 rfl ?_
    refine x_getr (r' := 65) flX11_63 dX11_act_63 (sW47 hW) (gW47 hW) (rW47_18 hW) rfl (Nat.le_of_ble_eq_true rfl) ?_
    refine x_bipush dX11_act_66 kb_8 (i32_of rfl) ?_
    refine x_iload_n dX11_act_68 rfl ?_
    obtain ⟨hz, F⟩ := F
    refine x_imul dX11_act_69 hz ?_
    refine x_iload_n dX11_act_70 rfl ?_
    refine x_si32 (i := 1) rfl (fun hk1 => ?_)
    obtain ⟨hz, F⟩ := F
    have hz := hz hk1
    refine x_iadd dX11_act_71 hz ?_
    refine x_iconst dX11_act_72 rfl (i32_of rfl) ?_
    obtain ⟨hi, F⟩ := F
    refine x_iast dX11_act_73 (sW65 hW) (gW65 hW) hi ?_
    refine x_aload_n dX11_act_74 rfl ?_
    refine x_getr (r' := 66) flX11_66 dX11_act_75 (sW47 hW) (gW47 hW) (rW47_19 hW) rfl (Nat.le_of_ble_eq_true rfl) ?_
    refine x_bipush dX11_act_78 kb_8 (i32_of rfl) ?_
    refine x_iload_n dX11_act_80 rfl ?_
    obtain ⟨hz, F⟩ := F
    refine x_imul dX11_act_81 hz ?_
    refine x_iload_n dX11_act_82 rfl ?_
    refine x_si32 (i := 1) rfl (fun hk1 => ?_)
    obtain ⟨hz, F⟩ := F
    have hz := hz hk1
    refine x_iadd dX11_act_83 hz ?_
    refine x_iconst dX11_act_84 rfl (i32_of rfl) ?_
    obtain ⟨hi, F⟩ := F
    refine x_iast dX11_act_85 (sW66 hW) (gW66 hW) hi ?_
    obtain ⟨hz, F⟩ := F
    refine x_iinc [(2, 47), (0, x1), (0, (x2 + 1))] dX11_act_86 rfl rfl (Nat.le_of_ble_eq_true rfl) hz ?_
    refine x_goto 56 dX11_act_89 rfl ?_
    exact F

set_option maxRecDepth 100000 in
set_option maxHeartbeats 4000000 in
theorem bX11_act_94 {d mc ms : Nat} {X : XX} {v : VV} {Q : QQ} (x1 : Int) (x2 : Int) (hd : 7 ≤ d) (hW : SW X) (F : i32 x1 → i32 x2 → ((((v 47 24) ≤ x2) → ∃ P1 : Option AV → VV → Prop, Con mX11_next 1 0 0 [(2, 47)] X v (fun o X1 v1 => X1 = X ∧ P1 o v1) ∧ ∀ (w3 : VV), P1 none w3 → ∃ P5 : Option AV → VV → Prop, Con mX11_isWord 0 0 0 [(2, 47), (1, (w3 47 35))] X w3 (fun o X1 v1 => X1 = X ∧ P5 o v1) ∧ ∀ (r6 : Int) (w7 : VV), P5 (some (0, r6)) w7 → (((r6 = 0) → ∃ P9 : Option AV → VV → Prop, Con mX11_isWord 0 0 0 [(2, 47), (1, (w7 47 33))] X w7 (fun o X1 v1 => X1 = X ∧ P9 o v1) ∧ ∀ (r10 : Int) (w11 : VV), P9 (some (0, r10)) w11 → (((r10 = 0) → ∃ P13 : Option AV → VV → Prop, Con mX11_isWord 0 0 0 [(2, 47), (1, (w11 47 34))] X w11 (fun o X1 v1 => X1 = X ∧ P13 o v1) ∧ ∀ (r14 : Int) (w15 : VV), P13 (some (0, r14)) w15 → (((r14 = 0) → (0 ≤ x1 ∧ x1 < 17) ∧ (0 ≤ x1 ∧ x1 < 17) ∧ ∃ P17 : Option AV → VV → Prop, Con mX11_fail 0 0 0 [(2, 47), (0, 1), (0, (w15 47 30))] X (upd2 w15 50 x1 (-1)) (fun o X1 v1 => X1 = X ∧ P17 o v1) ∧ ∀ (w19 : VV), P17 none w19 → Ex mX11_act d 208 [(2, 47), (0, x1), (0, x2)] [] X w19 mc ms Q) ∧ ((¬ r14 = 0) → (0 ≤ x1 ∧ x1 < 17) ∧ (0 ≤ x1 ∧ x1 < 17) ∧ ∃ P21 : Option AV → VV → Prop, Con mX11_keeps 2 0 0 [(2, 47)] X (upd2 w15 50 x1 2) (fun o X1 v1 => X1 = X ∧ P21 o v1) ∧ ∀ (w23 : VV), P21 none w23 → Ex mX11_act d 208 [(2, 47), (0, x1), (0, x2)] [] X w23 mc ms Q))) ∧ ((¬ r10 = 0) → (0 ≤ x1 ∧ x1 < 17) ∧ (0 ≤ x1 ∧ x1 < 17) ∧ ∃ P25 : Option AV → VV → Prop, Con mX11_keeps 2 0 0 [(2, 47)] X (upd2 w11 50 x1 1) (fun o X1 v1 => X1 = X ∧ P25 o v1) ∧ ∀ (w27 : VV), P25 none w27 → Ex mX11_act d 208 [(2, 47), (0, x1), (0, x2)] [] X w27 mc ms Q))) ∧ ((¬ r6 = 0) → (0 ≤ x1 ∧ x1 < 17) ∧ (0 ≤ x1 ∧ x1 < 17) ∧ ∃ P29 : Option AV → VV → Prop, Con mX11_keeps 2 0 0 [(2, 47)] X (upd2 w7 50 x1 0) (fun o X1 v1 => X1 = X ∧ P29 o v1) ∧ ∀ (w31 : VV), P29 none w31 → Ex mX11_act d 208 [(2, 47), (0, x1), (0, x2)] [] X w31 mc ms Q))) ∧ ((x2 < (v 47 24)) → i32 (400 * x1) ∧ (i32 (400 * x1) → i32 ((400 * x1) + x2)) ∧ (0 ≤ x2 ∧ x2 < 400) ∧ (0 ≤ ((400 * x1) + x2) ∧ ((400 * x1) + x2) < 6800) ∧ i32 (x2 + 1) ∧ Ex mX11_act d 94 [(2, 47), (0, x1), (0, (x2 + 1))] [] X (upd2 v 64 ((400 * x1) + x2) (v 68 x2)) mc ms Q))) : Ex mX11_act d 94 [(2, 47), (0, x1), (0, x2)] [] X v mc ms Q := by
  refine x_li32 (i := 1) rfl (fun hx1 => ?_)
  have F := F hx1
  refine x_li32 (i := 2) rfl (fun hx2 => ?_)
  have F := F hx2
  refine x_iload_n dX11_act_94 rfl ?_
  refine x_aload_n dX11_act_95 rfl ?_
  refine x_geti (e := (v 47 24)) 0 flX11_182 dX11_act_96 (sW47 hW) (gW47 hW) rfl rfl (Nat.le_of_ble_eq_true rfl) (tagn2 rfl) ?_
  refine x_icmp_ge 126 dX11_act_99 rfl (fun hc => ?_) (fun hc => ?_)
  · have F := F.1 hc
    refine x_aload_n dX11_act_126 rfl ?_
    obtain ⟨P1, hC, F⟩ := F
    refine x_inv dX11_act_127 mlX11_210 hC (sW47 hW) (Nat.le_of_ble_eq_true rfl) (gW47 hW) rfl rfl (by omega) (Nat.zero_le _) (Nat.zero_le _) (Nat.le_of_ble_eq_true rfl) (fun o1 Y4 w3 ht hP => ?_)
    obtain rfl : o1 = none := ht
    obtain ⟨rfl, hP⟩ := hP
    have F := F w3 hP
    refine x_aload_n dX11_act_130 rfl ?_
    refine x_getr (r' := 50) flX11_17 dX11_act_131 (sW47 hW) (gW47 hW) (rW47_3 hW) rfl (Nat.le_of_ble_eq_true rfl) ?_
    refine x_iload_n dX11_act_134 rfl ?_
    refine x_aload_n dX11_act_135 rfl ?_
    refine x_aload_n dX11_act_136 rfl ?_
    refine x_geti (e := (w3 47 35)) 1 flX11_90 dX11_act_137 (sW47 hW) (gW47 hW) rfl rfl (Nat.le_of_ble_eq_true rfl) (tagn2 rfl) ?_
    obtain ⟨P5, hC, F⟩ := F
    refine x_inv dX11_act_140 mlX11_227 hC (sW47 hW) (Nat.le_of_ble_eq_true rfl) (gW47 hW) rfl rfl (by omega) (Nat.zero_le _) (Nat.zero_le _) (Nat.le_of_ble_eq_true rfl) (fun o1 Y8 w7 ht hP => ?_)
    obtain ⟨r6, rfl⟩ : ∃ i, o1 = some (0, i) := ht
    obtain ⟨rfl, hP⟩ := hP
    have F := F r6 w7 hP
    refine x_if_eq 150 dX11_act_143 rfl (fun hc => ?_) (fun hc => ?_)
    · have F := F.1 hc
      refine x_aload_n dX11_act_150 rfl ?_
      refine x_aload_n dX11_act_151 rfl ?_
      refine x_geti (e := (w7 47 33)) 1 flX11_83 dX11_act_152 (sW47 hW) (gW47 hW) rfl rfl (Nat.le_of_ble_eq_true rfl) (tagn2 rfl) ?_
      obtain ⟨P9, hC, F⟩ := F
      refine x_inv dX11_act_155 mlX11_227 hC (sW47 hW) (Nat.le_of_ble_eq_true rfl) (gW47 hW) rfl rfl (by omega) (Nat.zero_le _) (Nat.zero_le _) (Nat.le_of_ble_eq_true rfl) (fun o1 Y12 w11 ht hP => ?_)
      obtain ⟨r10, rfl⟩ : ∃ i, o1 = some (0, i) := ht
      obtain ⟨rfl, hP⟩ := hP
      have F := F r10 w11 hP
      refine x_if_eq 165 dX11_act_158 rfl (fun hc => ?_) (fun hc => ?_)
      · have F := F.1 hc
        refine x_aload_n dX11_act_165 rfl ?_
        refine x_aload_n dX11_act_166 rfl ?_
        refine x_geti (e := (w11 47 34)) 1 flX11_87 dX11_act_167 (sW47 hW) (gW47 hW) rfl rfl (Nat.le_of_ble_eq_true rfl) (tagn2 rfl) ?_
        obtain ⟨P13, hC, F⟩ := F
        refine x_inv dX11_act_170 mlX11_227 hC (sW47 hW) (Nat.le_of_ble_eq_true rfl) (gW47 hW) rfl rfl (by omega) (Nat.zero_le _) (Nat.zero_le _) (Nat.le_of_ble_eq_true rfl) (fun o1 Y16 w15 ht hP => ?_)
        obtain ⟨r14, rfl⟩ : ∃ i, o1 = some (0, i) := ht
        obtain ⟨rfl, hP⟩ := hP
        have F := F r14 w15 hP
        refine x_if_eq 180 dX11_act_173 rfl (fun hc => ?_) (fun hc => ?_)
        · have F := F.1 hc
          refine x_iconst dX11_act_180 rfl (i32_of rfl) ?_
          obtain ⟨hi, F⟩ := F
          refine x_iast dX11_act_181 (sW50 hW) (gW50 hW) hi ?_
          refine x_aload_n dX11_act_182 rfl ?_
          refine x_getr (r' := 50) flX11_17 dX11_act_183 (sW47 hW) (gW47 hW) (rW47_3 hW) rfl (Nat.le_of_ble_eq_true rfl) ?_
          refine x_iload_n dX11_act_186 rfl ?_
          obtain ⟨hi, F⟩ := F
          refine x_iald (e := (-1)) dX11_act_187 (sW50 hW) (gW50 hW) hi (by simp [upd2]) ?_
          refine x_iconst dX11_act_188 rfl (i32_of rfl) ?_
          refine x_icmp_ne 204 dX11_act_189 rfl (fun hc => absurd hc (by decide)) (fun _ => ?_)
          refine x_aload_n dX11_act_192 rfl ?_
          refine x_iconst dX11_act_193 rfl (i32_of rfl) ?_
          refine x_aload_n dX11_act_194 rfl ?_
          refine x_geti (e := (w15 47 30)) 0 flX11_188 dX11_act_195 (sW47 hW) (gW47 hW) rfl rfl (Nat.le_of_ble_eq_true rfl) (tagn2 rfl) ?_
          obtain ⟨P17, hC, F⟩ := F
          refine x_inv dX11_act_198 mlX11_216 hC (sW47 hW) (Nat.le_of_ble_eq_true rfl) (gW47 hW) rfl rfl (by omega) (Nat.zero_le _) (Nat.zero_le _) (Nat.le_of_ble_eq_true rfl) (fun o1 Y20 w19 ht hP => ?_)
          obtain rfl : o1 = none := ht
          obtain ⟨rfl, hP⟩ := hP
          have F := F w19 hP
          refine x_goto 208 dX11_act_201 rfl ?_
          exact F
        · have F := F.2 hc
          refine x_iconst dX11_act_176 rfl (i32_of rfl) ?_
          refine x_goto 181 dX11_act_177 rfl ?_
          obtain ⟨hi, F⟩ := F
          refine x_iast dX11_act_181 (sW50 hW) (gW50 hW) hi ?_
          refine x_aload_n dX11_act_182 rfl ?_
          refine x_getr (r' := 50) flX11_17 dX11_act_183 (sW47 hW) (gW47 hW) (rW47_3 hW) rfl (Nat.le_of_ble_eq_true rfl) ?_
          refine x_iload_n dX11_act_186 rfl ?_
          obtain ⟨hi, F⟩ := F
          refine x_iald (e := 2) dX11_act_187 (sW50 hW) (gW50 hW) hi (by simp [upd2]) ?_
          refine x_iconst dX11_act_188 rfl (i32_of rfl) ?_
          refine x_icmp_ne 204 dX11_act_189 rfl (fun _ => ?_) (fun hc => absurd hc (by decide))
          refine x_aload_n dX11_act_204 rfl ?_
          obtain ⟨P21, hC, F⟩ := F
          refine x_inv dX11_act_205 mlX11_213 hC (sW47 hW) (Nat.le_of_ble_eq_true rfl) (gW47 hW) rfl rfl (by omega) (Nat.zero_le _) (Nat.zero_le _) (Nat.le_of_ble_eq_true rfl) (fun o1 Y24 w23 ht hP => ?_)
          obtain rfl : o1 = none := ht
          obtain ⟨rfl, hP⟩ := hP
          have F := F w23 hP
          exact F
      · have F := F.2 hc
        refine x_iconst dX11_act_161 rfl (i32_of rfl) ?_
        refine x_goto 181 dX11_act_162 rfl ?_
        obtain ⟨hi, F⟩ := F
        refine x_iast dX11_act_181 (sW50 hW) (gW50 hW) hi ?_
        refine x_aload_n dX11_act_182 rfl ?_
        refine x_getr (r' := 50) flX11_17 dX11_act_183 (sW47 hW) (gW47 hW) (rW47_3 hW) rfl (Nat.le_of_ble_eq_true rfl) ?_
        refine x_iload_n dX11_act_186 rfl ?_
        obtain ⟨hi, F⟩ := F
        refine x_iald (e := 1) dX11_act_187 (sW50 hW) (gW50 hW) hi (by simp [upd2]) ?_
        refine x_iconst dX11_act_188 rfl (i32_of rfl) ?_
        refine x_icmp_ne 204 dX11_act_189 rfl (fun _ => ?_) (fun hc => absurd hc (by decide))
        refine x_aload_n dX11_act_204 rfl ?_
        obtain ⟨P25, hC, F⟩ := F
        refine x_inv dX11_act_205 mlX11_213 hC (sW47 hW) (Nat.le_of_ble_eq_true rfl) (gW47 hW) rfl rfl (by omega) (Nat.zero_le _) (Nat.zero_le _) (Nat.le_of_ble_eq_true rfl) (fun o1 Y28 w27 ht hP => ?_)
        obtain rfl : o1 = none := ht
        obtain ⟨rfl, hP⟩ := hP
        have F := F w27 hP
        exact F
    · have F := F.2 hc
      refine x_iconst dX11_act_146 rfl (i32_of rfl) ?_
      refine x_goto 181 dX11_act_147 rfl ?_
      obtain ⟨hi, F⟩ := F
      refine x_iast dX11_act_181 (sW50 hW) (gW50 hW) hi ?_
      refine x_aload_n dX11_act_182 rfl ?_
      refine x_getr (r' := 50) flX11_17 dX11_act_183 (sW47 hW) (gW47 hW) (rW47_3 hW) rfl (Nat.le_of_ble_eq_true rfl) ?_
      refine x_iload_n dX11_act_186 rfl ?_
      obtain ⟨hi, F⟩ := F
      refine x_iald (e := 0) dX11_act_187 (sW50 hW) (gW50 hW) hi (by simp [upd2]) ?_
      refine x_iconst dX11_act_188 rfl (i32_of rfl) ?_
      refine x_icmp_ne 204 dX11_act_189 rfl (fun _ => ?_) (fun hc => absurd hc (by decide))
      refine x_aload_n dX11_act_204 rfl ?_
      obtain ⟨P29, hC, F⟩ := F
      refine x_inv dX11_act_205 mlX11_213 hC (sW47 hW) (Nat.le_of_ble_eq_true rfl) (gW47 hW) rfl rfl (by omega) (Nat.zero_le _) (Nat.zero_le _) (Nat.le_of_ble_eq_true rfl) (fun o1 Y32 w31 ht hP => ?_)
      obtain rfl : o1 = none := ht
      obtain ⟨rfl, hP⟩ := hP
      have F := F w31 hP
      exact F
  · have F := F.2 hc
    refine x_aload_n dX11_act_102 rfl ?_
    refine x_getr (r' := 64) flX11_60 dX11_act_103 (sW47 hW) (gW47 hW) (rW47_17 hW) rfl (Nat.le_of_ble_eq_true rfl) ?_
    refine x_sipush dX11_act_106 ks_400 (i32_of rfl) ?_
    refine x_iload_n dX11_act_109 rfl ?_
    obtain ⟨hz, F⟩ := F
    refine x_imul dX11_act_110 hz ?_
    refine x_iload_n dX11_act_111 rfl ?_
    refine x_si32 (i := 1) rfl (fun hk1 => ?_)
    obtain ⟨hz, F⟩ := F
    have hz := hz hk1
    refine x_iadd dX11_act_112 hz ?_
    refine x_aload_n dX11_act_113 rfl ?_
    refine x_getr (r' := 68) flX11_72 dX11_act_114 (sW47 hW) (gW47 hW) (rW47_21 hW) rfl (Nat.le_of_ble_eq_true rfl) ?_
    refine x_iload_n dX11_act_117 rfl ?_
    obtain ⟨hi, F⟩ := F
    refine x_iald (e := (v 68 x2)) dX11_act_118 (sW68 hW) (gW68 hW) hi rfl ?_
    obtain ⟨hi, F⟩ := F
    refine x_iast dX11_act_119 (sW64 hW) (gW64 hW) hi ?_
    obtain ⟨hz, F⟩ := F
    refine x_iinc [(2, 47), (0, x1), (0, (x2 + 1))] dX11_act_120 rfl rfl (Nat.le_of_ble_eq_true rfl) hz ?_
    refine x_goto 94 dX11_act_123 rfl ?_
    exact F

set_option maxRecDepth 100000 in
set_option maxHeartbeats 4000000 in
theorem bX11_act_208 {d mc ms : Nat} {X : XX} {v : VV} {Q : QQ} (x1 : Int) (x2 : Int) (hd : 7 ≤ d) (hW : SW X) (F : i32 x1 → i32 x2 → (0 ≤ x1 ∧ x1 < 17) ∧ (((¬ (v 47 25) = 0) → Ex mX11_act d 229 [(2, 47), (0, x1), (0, x2)] [] X (upd2 v 49 x1 (v 47 32)) mc ms Q) ∧ (((v 47 25) = 0) → ∃ P33 : Option AV → VV → Prop, Con mX11_name 3 0 0 [(2, 47)] X (upd2 v 49 x1 (v 47 32)) (fun o X1 v1 => X1 = X ∧ P33 o v1) ∧ ∀ (w35 : VV), P33 none w35 → Ex mX11_act d 229 [(2, 47), (0, x1), (0, x2)] [] X w35 mc ms Q))) : Ex mX11_act d 208 [(2, 47), (0, x1), (0, x2)] [] X v mc ms Q := by
  refine x_li32 (i := 1) rfl (fun hx1 => ?_)
  have F := F hx1
  refine x_li32 (i := 2) rfl (fun hx2 => ?_)
  have F := F hx2
  refine x_aload_n dX11_act_208 rfl ?_
  refine x_getr (r' := 49) flX11_13 dX11_act_209 (sW47 hW) (gW47 hW) (rW47_2 hW) rfl (Nat.le_of_ble_eq_true rfl) ?_
  refine x_iload_n dX11_act_212 rfl ?_
  refine x_aload_n dX11_act_213 rfl ?_
  refine x_geti (e := (v 47 32)) 1 flX11_194 dX11_act_214 (sW47 hW) (gW47 hW) rfl rfl (Nat.le_of_ble_eq_true rfl) (tagn2 rfl) ?_
  obtain ⟨hi, F⟩ := F
  refine x_last dX11_act_217 (sW49 hW) (gW49 hW) hi ?_
  refine x_aload_n dX11_act_218 rfl ?_
  refine x_geti (e := (v 47 25)) 0 flX11_169 dX11_act_219 (sW47 hW) (gW47 hW) rfl rfl (Nat.le_of_ble_eq_true rfl) (tagn2 rfl) ?_
  refine x_if_ne 229 dX11_act_222 rfl (fun hc => ?_) (fun hc => ?_)
  · have F := F.1 hc
    exact F
  · have F := F.2 hc
    refine x_aload_n dX11_act_225 rfl ?_
    obtain ⟨P33, hC, F⟩ := F
    refine x_inv dX11_act_226 mlX11_238 hC (sW47 hW) (Nat.le_of_ble_eq_true rfl) (gW47 hW) rfl rfl (by omega) (Nat.zero_le _) (Nat.zero_le _) (Nat.le_of_ble_eq_true rfl) (fun o1 Y36 w35 ht hP => ?_)
    obtain rfl : o1 = none := ht
    obtain ⟨rfl, hP⟩ := hP
    have F := F w35 hP
    exact F

set_option maxRecDepth 100000 in
set_option maxHeartbeats 4000000 in
theorem bX11_act_229 {d mc ms : Nat} {X : XX} {v : VV} {Q : QQ} (x1 : Int) (x2 : Int) (hd : 7 ≤ d) (hW : SW X) (F : i32 x1 → i32 x2 → (((¬ (v 47 25) = 0) → Ex mX11_act d 252 [(2, 47), (0, x1), (0, x2)] [] X v mc ms Q) ∧ (((v 47 25) = 0) → (0 ≤ x1 ∧ x1 < 17) ∧ (((¬ (v 50 x1) = 0) → Ex mX11_act d 252 [(2, 47), (0, x1), (0, x2)] [] X v mc ms Q) ∧ (((v 50 x1) = 0) → ∃ P37 : Option AV → VV → Prop, Con mX11_source 4 0 0 [(2, 47)] X v (fun o X1 v1 => X1 = X ∧ P37 o v1) ∧ ∀ (w39 : VV), P37 none w39 → Ex mX11_act d 263 [(2, 47), (0, x1), (0, x2)] [] X w39 mc ms Q))))) : Ex mX11_act d 229 [(2, 47), (0, x1), (0, x2)] [] X v mc ms Q := by
  refine x_li32 (i := 1) rfl (fun hx1 => ?_)
  have F := F hx1
  refine x_li32 (i := 2) rfl (fun hx2 => ?_)
  have F := F hx2
  refine x_aload_n dX11_act_229 rfl ?_
  refine x_geti (e := (v 47 25)) 0 flX11_169 dX11_act_230 (sW47 hW) (gW47 hW) rfl rfl (Nat.le_of_ble_eq_true rfl) (tagn2 rfl) ?_
  refine x_if_ne 252 dX11_act_233 rfl (fun hc => ?_) (fun hc => ?_)
  · have F := F.1 hc
    exact F
  · have F := F.2 hc
    refine x_aload_n dX11_act_236 rfl ?_
    refine x_getr (r' := 50) flX11_17 dX11_act_237 (sW47 hW) (gW47 hW) (rW47_3 hW) rfl (Nat.le_of_ble_eq_true rfl) ?_
    refine x_iload_n dX11_act_240 rfl ?_
    obtain ⟨hi, F⟩ := F
    refine x_iald (e := (v 50 x1)) dX11_act_241 (sW50 hW) (gW50 hW) hi rfl ?_
    refine x_if_ne 252 dX11_act_242 rfl (fun hc => ?_) (fun hc => ?_)
    · have F := F.1 hc
      exact F
    · have F := F.2 hc
      refine x_aload_n dX11_act_245 rfl ?_
      obtain ⟨P37, hC, F⟩ := F
      refine x_inv dX11_act_246 mlX11_298 hC (sW47 hW) (Nat.le_of_ble_eq_true rfl) (gW47 hW) rfl rfl (by omega) (Nat.zero_le _) (Nat.zero_le _) (Nat.le_of_ble_eq_true rfl) (fun o1 Y40 w39 ht hP => ?_)
      obtain rfl : o1 = none := ht
      obtain ⟨rfl, hP⟩ := hP
      have F := F w39 hP
      refine x_goto 263 dX11_act_249 rfl ?_
      exact F

set_option maxRecDepth 100000 in
set_option maxHeartbeats 4000000 in
theorem bX11_act_252 {d mc ms : Nat} {X : XX} {v : VV} {Q : QQ} (x1 : Int) (x2 : Int) (hd : 7 ≤ d) (hW : SW X) (F : i32 x1 → i32 x2 → (((¬ (v 47 25) = 0) → Ex mX11_act d 263 [(2, 47), (0, x1), (0, x2)] [] X v mc ms Q) ∧ (((v 47 25) = 0) → ∃ P41 : Option AV → VV → Prop, Con mX11_select 6 0 0 [(2, 47)] X v (fun o X1 v1 => X1 = X ∧ P41 o v1) ∧ ∀ (w43 : VV), P41 none w43 → Ex mX11_act d 263 [(2, 47), (0, x1), (0, x2)] [] X w43 mc ms Q))) : Ex mX11_act d 252 [(2, 47), (0, x1), (0, x2)] [] X v mc ms Q := by
  refine x_li32 (i := 1) rfl (fun hx1 => ?_)
  have F := F hx1
  refine x_li32 (i := 2) rfl (fun hx2 => ?_)
  have F := F hx2
  refine x_aload_n dX11_act_252 rfl ?_
  refine x_geti (e := (v 47 25)) 0 flX11_169 dX11_act_253 (sW47 hW) (gW47 hW) rfl rfl (Nat.le_of_ble_eq_true rfl) (tagn2 rfl) ?_
  refine x_if_ne 263 dX11_act_256 rfl (fun hc => ?_) (fun hc => ?_)
  · have F := F.1 hc
    exact F
  · have F := F.2 hc
    refine x_aload_n dX11_act_259 rfl ?_
    obtain ⟨P41, hC, F⟩ := F
    refine x_inv dX11_act_260 mlX11_301 hC (sW47 hW) (Nat.le_of_ble_eq_true rfl) (gW47 hW) rfl rfl (by omega) (Nat.zero_le _) (Nat.zero_le _) (Nat.le_of_ble_eq_true rfl) (fun o1 Y44 w43 ht hP => ?_)
    obtain rfl : o1 = none := ht
    obtain ⟨rfl, hP⟩ := hP
    have F := F w43 hP
    exact F

set_option maxRecDepth 100000 in
set_option maxHeartbeats 4000000 in
theorem bX11_act_263 {d mc ms : Nat} {X : XX} {v : VV} {Q : QQ} (x1 : Int) (x2 : Int) (hd : 7 ≤ d) (hW : SW X) (F : i32 x1 → i32 x2 → (((¬ (v 47 25) = 0) → Ex mX11_act d 276 [(2, 47), (0, x1), (0, x2)] [] X v mc ms Q) ∧ (((v 47 25) = 0) → ∃ P45 : Option AV → VV → Prop, Con mX11_sign 3 0 0 [(2, 47), (0, 59)] X v (fun o X1 v1 => X1 = X ∧ P45 o v1) ∧ ∀ (w47 : VV), P45 none w47 → Ex mX11_act d 276 [(2, 47), (0, x1), (0, x2)] [] X w47 mc ms Q))) : Ex mX11_act d 263 [(2, 47), (0, x1), (0, x2)] [] X v mc ms Q := by
  refine x_li32 (i := 1) rfl (fun hx1 => ?_)
  have F := F hx1
  refine x_li32 (i := 2) rfl (fun hx2 => ?_)
  have F := F hx2
  refine x_aload_n dX11_act_263 rfl ?_
  refine x_geti (e := (v 47 25)) 0 flX11_169 dX11_act_264 (sW47 hW) (gW47 hW) rfl rfl (Nat.le_of_ble_eq_true rfl) (tagn2 rfl) ?_
  refine x_if_ne 276 dX11_act_267 rfl (fun hc => ?_) (fun hc => ?_)
  · have F := F.1 hc
    exact F
  · have F := F.2 hc
    refine x_aload_n dX11_act_270 rfl ?_
    refine x_bipush dX11_act_271 kb_59 (i32_of rfl) ?_
    obtain ⟨P45, hC, F⟩ := F
    refine x_inv dX11_act_273 mlX11_231 hC (sW47 hW) (Nat.le_of_ble_eq_true rfl) (gW47 hW) rfl rfl (by omega) (Nat.zero_le _) (Nat.zero_le _) (Nat.le_of_ble_eq_true rfl) (fun o1 Y48 w47 ht hP => ?_)
    obtain rfl : o1 = none := ht
    obtain ⟨rfl, hP⟩ := hP
    have F := F w47 hP
    exact F

set_option maxRecDepth 100000 in
set_option maxHeartbeats 4000000 in
theorem bX11_act_276 {d mc ms : Nat} {X : XX} {v : VV} {Q : QQ} (x1 : Int) (x2 : Int) (hd : 7 ≤ d) (hW : SW X) (F : i32 x1 → i32 x2 → (((¬ (v 47 25) = 0) → Ex mX11_act d 299 [(2, 47), (0, x1), (0, x2)] [] X v mc ms Q) ∧ (((v 47 25) = 0) → ((((v 47 29) = 0) → Ex mX11_act d 299 [(2, 47), (0, x1), (0, x2)] [] X v mc ms Q) ∧ ((¬ (v 47 29) = 0) → ∃ P49 : Option AV → VV → Prop, Con mX11_fail 0 0 0 [(2, 47), (0, 1), (0, (v 47 30))] X v (fun o X1 v1 => X1 = X ∧ P49 o v1) ∧ ∀ (w51 : VV), P49 none w51 → Ex mX11_act d 299 [(2, 47), (0, x1), (0, x2)] [] X w51 mc ms Q))))) : Ex mX11_act d 276 [(2, 47), (0, x1), (0, x2)] [] X v mc ms Q := by
  refine x_li32 (i := 1) rfl (fun hx1 => ?_)
  have F := F hx1
  refine x_li32 (i := 2) rfl (fun hx2 => ?_)
  have F := F hx2
  refine x_aload_n dX11_act_276 rfl ?_
  refine x_geti (e := (v 47 25)) 0 flX11_169 dX11_act_277 (sW47 hW) (gW47 hW) rfl rfl (Nat.le_of_ble_eq_true rfl) (tagn2 rfl) ?_
  refine x_if_ne 299 dX11_act_280 rfl (fun hc => ?_) (fun hc => ?_)
  · have F := F.1 hc
    exact F
  · have F := F.2 hc
    refine x_aload_n dX11_act_283 rfl ?_
    refine x_geti (e := (v 47 29)) 0 flX11_197 dX11_act_284 (sW47 hW) (gW47 hW) rfl rfl (Nat.le_of_ble_eq_true rfl) (tagn2 rfl) ?_
    refine x_if_eq 299 dX11_act_287 rfl (fun hc => ?_) (fun hc => ?_)
    · have F := F.1 hc
      exact F
    · have F := F.2 hc
      refine x_aload_n dX11_act_290 rfl ?_
      refine x_iconst dX11_act_291 rfl (i32_of rfl) ?_
      refine x_aload_n dX11_act_292 rfl ?_
      refine x_geti (e := (v 47 30)) 0 flX11_188 dX11_act_293 (sW47 hW) (gW47 hW) rfl rfl (Nat.le_of_ble_eq_true rfl) (tagn2 rfl) ?_
      obtain ⟨P49, hC, F⟩ := F
      refine x_inv dX11_act_296 mlX11_216 hC (sW47 hW) (Nat.le_of_ble_eq_true rfl) (gW47 hW) rfl rfl (by omega) (Nat.zero_le _) (Nat.zero_le _) (Nat.le_of_ble_eq_true rfl) (fun o1 Y52 w51 ht hP => ?_)
      obtain rfl : o1 = none := ht
      obtain ⟨rfl, hP⟩ := hP
      have F := F w51 hP
      exact F

set_option maxRecDepth 100000 in
set_option maxHeartbeats 4000000 in
theorem bX11_act_299 {d mc ms : Nat} {X : XX} {v : VV} {Q : QQ} (x1 : Int) (x2 : Int) (hd : 7 ≤ d) (hW : SW X) (F : i32 x1 → i32 x2 → (((¬ (v 47 25) = 0) → Ex mX11_act d 310 [(2, 47), (0, x1), (0, x2)] [] X v mc ms Q) ∧ (((v 47 25) = 0) → ∃ P53 : Option AV → VV → Prop, Con mX11_meant 4 0 0 [(2, 47)] X v (fun o X1 v1 => X1 = X ∧ P53 o v1) ∧ ∀ (w55 : VV), P53 none w55 → Ex mX11_act d 310 [(2, 47), (0, x1), (0, x2)] [] X w55 mc ms Q))) : Ex mX11_act d 299 [(2, 47), (0, x1), (0, x2)] [] X v mc ms Q := by
  refine x_li32 (i := 1) rfl (fun hx1 => ?_)
  have F := F hx1
  refine x_li32 (i := 2) rfl (fun hx2 => ?_)
  have F := F hx2
  refine x_aload_n dX11_act_299 rfl ?_
  refine x_geti (e := (v 47 25)) 0 flX11_169 dX11_act_300 (sW47 hW) (gW47 hW) rfl rfl (Nat.le_of_ble_eq_true rfl) (tagn2 rfl) ?_
  refine x_if_ne 310 dX11_act_303 rfl (fun hc => ?_) (fun hc => ?_)
  · have F := F.1 hc
    exact F
  · have F := F.2 hc
    refine x_aload_n dX11_act_306 rfl ?_
    obtain ⟨P53, hC, F⟩ := F
    refine x_inv dX11_act_307 mlX11_304 hC (sW47 hW) (Nat.le_of_ble_eq_true rfl) (gW47 hW) rfl rfl (by omega) (Nat.zero_le _) (Nat.zero_le _) (Nat.le_of_ble_eq_true rfl) (fun o1 Y56 w55 ht hP => ?_)
    obtain rfl : o1 = none := ht
    obtain ⟨rfl, hP⟩ := hP
    have F := F w55 hP
    exact F

set_option maxRecDepth 100000 in
set_option maxHeartbeats 4000000 in
theorem bX11_act_310 {d mc ms : Nat} {X : XX} {v : VV} {Q : QQ} (x1 : Int) (x2 : Int) (hd : 7 ≤ d) (hW : SW X) (F : i32 x1 → i32 x2 → (((¬ (v 47 25) = 0) → Ex mX11_act d 332 [(2, 47), (0, x1), (0, x2)] [] X v mc ms Q) ∧ (((v 47 25) = 0) → (((¬ (v 47 0) = 16) → Ex mX11_act d 332 [(2, 47), (0, x1), (0, x2)] [] X v mc ms Q) ∧ (((v 47 0) = 16) → ∃ P57 : Option AV → VV → Prop, Con mX11_means 0 0 0 [(2, 47), (0, 5), (0, 0)] X v (fun o X1 v1 => X1 = X ∧ P57 o v1) ∧ ∀ (w59 : VV), P57 none w59 → Ex mX11_act d 332 [(2, 47), (0, x1), (0, x2)] [] X w59 mc ms Q))))) : Ex mX11_act d 310 [(2, 47), (0, x1), (0, x2)] [] X v mc ms Q := by
  refine x_li32 (i := 1) rfl (fun hx1 => ?_)
  have F := F hx1
  refine x_li32 (i := 2) rfl (fun hx2 => ?_)
  have F := F hx2
  refine x_aload_n dX11_act_310 rfl ?_
  refine x_geti (e := (v 47 25)) 0 flX11_169 dX11_act_311 (sW47 hW) (gW47 hW) rfl rfl (Nat.le_of_ble_eq_true rfl) (tagn2 rfl) ?_
  refine x_if_ne 332 dX11_act_314 rfl (fun hc => ?_) (fun hc => ?_)
  · have F := F.1 hc
    exact F
  · have F := F.2 hc
    refine x_aload_n dX11_act_317 rfl ?_
    refine x_geti (e := (v 47 0)) 0 flX11_159 dX11_act_318 (sW47 hW) (gW47 hW) rfl rfl (Nat.le_of_ble_eq_true rfl) (tagn2 rfl) ?_
    refine x_bipush dX11_act_321 kb_16 (i32_of rfl) ?_
    refine x_icmp_ne 332 dX11_act_323 rfl (fun hc => ?_) (fun hc => ?_)
    · have F := F.1 hc
      exact F
    · have F := F.2 hc
      refine x_aload_n dX11_act_326 rfl ?_
      refine x_iconst dX11_act_327 rfl (i32_of rfl) ?_
      refine x_iconst dX11_act_328 rfl (i32_of rfl) ?_
      obtain ⟨P57, hC, F⟩ := F
      refine x_inv dX11_act_329 mlX11_262 hC (sW47 hW) (Nat.le_of_ble_eq_true rfl) (gW47 hW) rfl rfl (by omega) (Nat.zero_le _) (Nat.zero_le _) (Nat.le_of_ble_eq_true rfl) (fun o1 Y60 w59 ht hP => ?_)
      obtain rfl : o1 = none := ht
      obtain ⟨rfl, hP⟩ := hP
      have F := F w59 hP
      exact F

set_option maxRecDepth 100000 in
set_option maxHeartbeats 4000000 in
theorem bX11_act_332 {d mc ms : Nat} {X : XX} {v : VV} {Q : QQ} (x1 : Int) (x2 : Int) (hd : 7 ≤ d) (hW : SW X) (F : i32 x1 → i32 x2 → ((((v 47 25) = 0) → (0 ≤ x1 ∧ x1 < 17) ∧ (0 ≤ x1 ∧ x1 < 17) ∧ (0 ≤ x1 ∧ x1 < 17) ∧ (0 ≤ x1 ∧ x1 < 17) ∧ (0 ≤ x1 ∧ x1 < 17) ∧ (i32 (v 47 0) → i32 ((v 47 0) + 1)) ∧ Q (some (0, x1)) X (upd2 (upd2 (upd2 (upd2 (upd2 (upd2 (upd2 (upd2 v 47 27 (v 47 25)) 47 28 (v 47 26)) 48 x1 1) 56 x1 (-1)) 57 x1 (-1)) 58 x1 (-1)) 59 x1 (-1)) 47 0 ((v 47 0) + 1))) ∧ ((¬ (v 47 25) = 0) → Q (some (0, (-1))) X (upd2 (upd2 v 47 27 (v 47 25)) 47 28 (v 47 26))))) : Ex mX11_act d 332 [(2, 47), (0, x1), (0, x2)] [] X v mc ms Q := by
  refine x_li32 (i := 1) rfl (fun hx1 => ?_)
  have F := F hx1
  refine x_li32 (i := 2) rfl (fun hx2 => ?_)
  have F := F hx2
  refine x_aload_n dX11_act_332 rfl ?_
  refine x_aload_n dX11_act_333 rfl ?_
  refine x_geti (e := (v 47 25)) 0 flX11_169 dX11_act_334 (sW47 hW) (gW47 hW) rfl rfl (Nat.le_of_ble_eq_true rfl) (tagn2 rfl) ?_
  refine x_puti 0 fwX11_307 dX11_act_337 (sW47 hW) (gW47 hW) (fun h => Bool.noConfusion h) (Nat.le_of_ble_eq_true rfl) rfl (Or.inl ⟨rfl, Or.inl rfl⟩) ?_
  refine x_aload_n dX11_act_340 rfl ?_
  refine x_aload_n dX11_act_341 rfl ?_
  refine x_geti (e := (v 47 26)) 0 flX11_172 dX11_act_342 (sW47 hW) (gW47 hW) rfl rfl (Nat.le_of_ble_eq_true rfl) (tagn2 rfl) ?_
  refine x_puti 0 fwX11_75 dX11_act_345 (sW47 hW) (gW47 hW) (fun h => Bool.noConfusion h) (Nat.le_of_ble_eq_true rfl) rfl (Or.inl ⟨rfl, Or.inl rfl⟩) ?_
  refine x_aload_n dX11_act_348 rfl ?_
  refine x_geti (e := (v 47 25)) 0 flX11_169 dX11_act_349 (sW47 hW) (gW47 hW) rfl rfl (Nat.le_of_ble_eq_true rfl) (tagn2 rfl) ?_
  refine x_if_eq 357 dX11_act_352 rfl (fun hc => ?_) (fun hc => ?_)
  · have F := F.1 hc
    refine x_aload_n dX11_act_357 rfl ?_
    refine x_getr (r' := 48) flX11_7 dX11_act_358 (sW47 hW) (gW47 hW) (rW47_1 hW) rfl (Nat.le_of_ble_eq_true rfl) ?_
    refine x_iload_n dX11_act_361 rfl ?_
    refine x_iconst dX11_act_362 rfl (i32_of rfl) ?_
    obtain ⟨hi, F⟩ := F
    refine x_zast dX11_act_363 (sW48 hW) (gW48 hW) hi (Or.inr rfl) ?_
    refine x_aload_n dX11_act_364 rfl ?_
    refine x_getr (r' := 56) flX11_36 dX11_act_365 (sW47 hW) (gW47 hW) (rW47_9 hW) rfl (Nat.le_of_ble_eq_true rfl) ?_
    refine x_iload_n dX11_act_368 rfl ?_
    refine x_iconst dX11_act_369 rfl (i32_of rfl) ?_
    obtain ⟨hi, F⟩ := F
    refine x_iast dX11_act_370 (sW56 hW) (gW56 hW) hi ?_
    refine x_aload_n dX11_act_371 rfl ?_
    refine x_getr (r' := 57) flX11_39 dX11_act_372 (sW47 hW) (gW47 hW) (rW47_10 hW) rfl (Nat.le_of_ble_eq_true rfl) ?_
    refine x_iload_n dX11_act_375 rfl ?_
    refine x_iconst dX11_act_376 rfl (i32_of rfl) ?_
    obtain ⟨hi, F⟩ := F
    refine x_iast dX11_act_377 (sW57 hW) (gW57 hW) hi ?_
    refine x_aload_n dX11_act_378 rfl ?_
    refine x_getr (r' := 58) flX11_42 dX11_act_379 (sW47 hW) (gW47 hW) (rW47_11 hW) rfl (Nat.le_of_ble_eq_true rfl) ?_
    refine x_iload_n dX11_act_382 rfl ?_
    refine x_iconst dX11_act_383 rfl (i32_of rfl) ?_
    obtain ⟨hi, F⟩ := F
    refine x_iast dX11_act_384 (sW58 hW) (gW58 hW) hi ?_
    refine x_aload_n dX11_act_385 rfl ?_
    refine x_getr (r' := 59) flX11_45 dX11_act_386 (sW47 hW) (gW47 hW) (rW47_12 hW) rfl (Nat.le_of_ble_eq_true rfl) ?_
    refine x_iload_n dX11_act_389 rfl ?_
    refine x_iconst dX11_act_390 rfl (i32_of rfl) ?_
    obtain ⟨hi, F⟩ := F
    refine x_iast dX11_act_391 (sW59 hW) (gW59 hW) hi ?_
    refine x_aload_n dX11_act_392 rfl ?_
    refine x_dup dX11_act_393 (tag1 rfl) ?_
    refine x_geti (e := (v 47 0)) 0 flX11_159 dX11_act_394 (sW47 hW) (gW47 hW) rfl rfl (Nat.le_of_ble_eq_true rfl) (tagn2 rfl) ?_
    refine x_iconst dX11_act_397 rfl (i32_of rfl) ?_
    refine x_si32 (i := 1) rfl (fun hk1 => ?_)
    obtain ⟨hz, F⟩ := F
    have hz := hz hk1
    refine x_iadd dX11_act_398 hz ?_
    refine x_puti 0 fwX11_159 dX11_act_399 (sW47 hW) (gW47 hW) (fun h => Bool.noConfusion h) (Nat.le_of_ble_eq_true rfl) rfl (Or.inl ⟨rfl, Or.inl rfl⟩) ?_
    refine x_iload_n dX11_act_402 rfl ?_
    exact x_ret (some (0, x1)) rfl ⟨dX11_act_403, Or.inl rfl⟩ F
  · have F := F.2 hc
    refine x_iconst dX11_act_355 rfl (i32_of rfl) ?_
    exact x_ret (some (0, (-1))) rfl ⟨dX11_act_356, Or.inl rfl⟩ F

set_option maxRecDepth 100000 in
set_option maxHeartbeats 4000000 in
theorem bX11_fault_0 {d mc ms : Nat} {X : XX} {v : VV} {Q : QQ} (a1 : Int) (hd : 0 ≤ d) (hW : SW X) (F : i32 a1 → (((¬ a1 = 0) → (((¬ a1 = 1) → Q (some (0, (-1))) X v) ∧ ((a1 = 1) → Q (some (0, (v 47 28))) X v))) ∧ ((a1 = 0) → Q (some (0, (v 47 27))) X v))) : Ex mX11_fault d 0 [(2, 47), (0, a1)] [] X v mc ms Q := by
  refine x_li32 (i := 1) rfl (fun ha1 => ?_)
  have F := F ha1
  refine x_iload_n dX11_fault_0 rfl ?_
  refine x_if_ne 11 dX11_fault_1 rfl (fun hc => ?_) (fun hc => ?_)
  · have F := F.1 hc
    refine x_iload_n dX11_fault_11 rfl ?_
    refine x_iconst dX11_fault_12 rfl (i32_of rfl) ?_
    refine x_icmp_ne 23 dX11_fault_13 rfl (fun hc => ?_) (fun hc => ?_)
    · have F := F.1 hc
      refine x_iconst dX11_fault_23 rfl (i32_of rfl) ?_
      exact x_ret (some (0, (-1))) rfl ⟨dX11_fault_24, Or.inl rfl⟩ F
    · have F := F.2 hc
      refine x_aload_n dX11_fault_16 rfl ?_
      refine x_geti (e := (v 47 28)) 0 flX11_75 dX11_fault_17 (sW47 hW) (gW47 hW) rfl rfl (Nat.le_of_ble_eq_true rfl) (tagn2 rfl) ?_
      refine x_goto 24 dX11_fault_20 rfl ?_
      exact x_ret (some (0, (v 47 28))) rfl ⟨dX11_fault_24, Or.inl rfl⟩ F
  · have F := F.2 hc
    refine x_aload_n dX11_fault_4 rfl ?_
    refine x_geti (e := (v 47 27)) 0 flX11_307 dX11_fault_5 (sW47 hW) (gW47 hW) rfl rfl (Nat.le_of_ble_eq_true rfl) (tagn2 rfl) ?_
    refine x_goto 24 dX11_fault_8 rfl ?_
    exact x_ret (some (0, (v 47 27))) rfl ⟨dX11_fault_24, Or.inl rfl⟩ F

set_option maxRecDepth 100000 in
set_option maxHeartbeats 4000000 in
theorem bX11_named__0 {d mc ms : Nat} {X : XX} {v : VV} {Q : QQ} (hd : 2 ≤ d) (hW : SW X) (F : ∃ P1 : Option AV → VV → Prop, Con mX11_next 1 0 0 [(2, 47)] X (upd2 (upd2 (upd2 v 47 23 0) 47 24 (v 47 22)) 47 22 0) (fun o X1 v1 => X1 = X ∧ P1 o v1) ∧ ∀ (w3 : VV), P1 none w3 → ∃ P5 : Option AV → VV → Prop, Con mX11_isName 0 0 0 [(2, 47)] X w3 (fun o X1 v1 => X1 = X ∧ P5 o v1) ∧ ∀ (r6 : Int) (w7 : VV), P5 (some (0, r6)) w7 → ∃ P9 : Option AV → VV → Prop, Con mX11_next 1 0 0 [(2, 47)] X w7 (fun o X1 v1 => X1 = X ∧ P9 o v1) ∧ ∀ (w11 : VV), P9 none w11 → (((r6 = 0) → Q (some (0, (-1))) X w11) ∧ ((¬ r6 = 0) → ((((w11 47 29) = 0) → ∃ P13 : Option AV → VV → Prop, Con mX11_tableNamed 0 0 0 [(2, 47), (1, (w7 47 32))] X w11 (fun o X1 v1 => X1 = X ∧ P13 o v1) ∧ ∀ (r14 : Int) (w15 : VV), P13 (some (0, r14)) w15 → (((¬ r14 = (-1)) → Q (some (0, r14)) X w15) ∧ ((r14 = (-1)) → Q (some (0, (-2))) X w15))) ∧ ((¬ (w11 47 29) = 0) → Q (some (0, (-1))) X w11))))) : Ex mX11_named_ d 0 [(2, 47), (3, 0), (3, 0), (3, 0), (3, 0)] [] X v mc ms Q := by
  refine x_aload_n dX11_named__0 rfl ?_
  refine x_iconst dX11_named__1 rfl (i32_of rfl) ?_
  refine x_puti 0 fwX11_179 dX11_named__2 (sW47 hW) (gW47 hW) (fun h => Bool.noConfusion h) (Nat.le_of_ble_eq_true rfl) rfl (Or.inl ⟨rfl, Or.inl rfl⟩) ?_
  refine x_aload_n dX11_named__5 rfl ?_
  refine x_aload_n dX11_named__6 rfl ?_
  refine x_geti (e := (v 47 22)) 0 flX11_166 dX11_named__7 (sW47 hW) (gW47 hW) rfl rfl (Nat.le_of_ble_eq_true rfl) (tagn2 rfl) ?_
  refine x_puti 0 fwX11_182 dX11_named__10 (sW47 hW) (gW47 hW) (fun h => Bool.noConfusion h) (Nat.le_of_ble_eq_true rfl) rfl (Or.inl ⟨rfl, Or.inl rfl⟩) ?_
  refine x_aload_n dX11_named__13 rfl ?_
  refine x_iconst dX11_named__14 rfl (i32_of rfl) ?_
  refine x_puti 0 fwX11_166 dX11_named__15 (sW47 hW) (gW47 hW) (fun h => Bool.noConfusion h) (Nat.le_of_ble_eq_true rfl) rfl (Or.inl ⟨rfl, Or.inl rfl⟩) ?_
  refine x_aload_n dX11_named__18 rfl ?_
  obtain ⟨P1, hC, F⟩ := F
  refine x_inv dX11_named__19 mlX11_210 hC (sW47 hW) (Nat.le_of_ble_eq_true rfl) (gW47 hW) rfl rfl (by omega) (Nat.zero_le _) (Nat.zero_le _) (Nat.le_of_ble_eq_true rfl) (fun o1 Y4 w3 ht hP => ?_)
  obtain rfl : o1 = none := ht
  obtain ⟨rfl, hP⟩ := hP
  have F := F w3 hP
  refine x_aload_n dX11_named__22 rfl ?_
  obtain ⟨P5, hC, F⟩ := F
  refine x_inv dX11_named__23 mlX11_220 hC (sW47 hW) (Nat.le_of_ble_eq_true rfl) (gW47 hW) rfl rfl (by omega) (Nat.zero_le _) (Nat.zero_le _) (Nat.le_of_ble_eq_true rfl) (fun o1 Y8 w7 ht hP => ?_)
  obtain ⟨r6, rfl⟩ : ∃ i, o1 = some (0, i) := ht
  obtain ⟨rfl, hP⟩ := hP
  have F := F r6 w7 hP
  refine x_istore_n [(2, 47), (0, r6), (3, 0), (3, 0), (3, 0)] dX11_named__26 rfl (Nat.le_of_ble_eq_true rfl) ?_
  refine x_aload_n dX11_named__27 rfl ?_
  refine x_geti (e := (w7 47 32)) 1 flX11_194 dX11_named__28 (sW47 hW) (gW47 hW) rfl rfl (Nat.le_of_ble_eq_true rfl) (tagn2 rfl) ?_
  refine x_lstore_n [(2, 47), (0, r6), (1, (w7 47 32)), (3, 0), (3, 0)] dX11_named__31 rfl (Nat.le_of_ble_eq_true rfl) ?_
  refine x_aload_n dX11_named__32 rfl ?_
  obtain ⟨P9, hC, F⟩ := F
  refine x_inv dX11_named__33 mlX11_210 hC (sW47 hW) (Nat.le_of_ble_eq_true rfl) (gW47 hW) rfl rfl (by omega) (Nat.zero_le _) (Nat.zero_le _) (Nat.le_of_ble_eq_true rfl) (fun o1 Y12 w11 ht hP => ?_)
  obtain rfl : o1 = none := ht
  obtain ⟨rfl, hP⟩ := hP
  have F := F w11 hP
  refine x_iload_n dX11_named__36 rfl ?_
  refine x_if_eq 47 dX11_named__37 rfl (fun hc => ?_) (fun hc => ?_)
  · have F := F.1 hc
    refine x_iconst dX11_named__47 rfl (i32_of rfl) ?_
    exact x_ret (some (0, (-1))) rfl ⟨dX11_named__48, Or.inl rfl⟩ F
  · have F := F.2 hc
    refine x_aload_n dX11_named__40 rfl ?_
    refine x_geti (e := (w11 47 29)) 0 flX11_197 dX11_named__41 (sW47 hW) (gW47 hW) rfl rfl (Nat.le_of_ble_eq_true rfl) (tagn2 rfl) ?_
    refine x_if_eq 49 dX11_named__44 rfl (fun hc => ?_) (fun hc => ?_)
    · have F := F.1 hc
      refine x_aload_n dX11_named__49 rfl ?_
      refine x_lload_n dX11_named__50 rfl ?_
      obtain ⟨P13, hC, F⟩ := F
      refine x_inv dX11_named__51 mlX11_288 hC (sW47 hW) (Nat.le_of_ble_eq_true rfl) (gW47 hW) rfl rfl (by omega) (Nat.zero_le _) (Nat.zero_le _) (Nat.le_of_ble_eq_true rfl) (fun o1 Y16 w15 ht hP => ?_)
      obtain ⟨r14, rfl⟩ : ∃ i, o1 = some (0, i) := ht
      obtain ⟨rfl, hP⟩ := hP
      have F := F r14 w15 hP
      refine x_istore [(2, 47), (0, r6), (1, (w7 47 32)), (3, 0), (0, r14)] dX11_named__54 rfl (Nat.le_of_ble_eq_true rfl) ?_
      refine x_iload dX11_named__56 rfl ?_
      refine x_iconst dX11_named__58 rfl (i32_of rfl) ?_
      refine x_icmp_ne 67 dX11_named__59 rfl (fun hc => ?_) (fun hc => ?_)
      · have F := F.1 hc
        refine x_iload dX11_named__67 rfl ?_
        exact x_ret (some (0, r14)) rfl ⟨dX11_named__69, Or.inl rfl⟩ F
      · have F := F.2 hc
        refine x_bipush dX11_named__62 kb_m2 (i32_of rfl) ?_
        refine x_goto 69 dX11_named__64 rfl ?_
        exact x_ret (some (0, (-2))) rfl ⟨dX11_named__69, Or.inl rfl⟩ F
    · have F := F.2 hc
      refine x_iconst dX11_named__47 rfl (i32_of rfl) ?_
      exact x_ret (some (0, (-1))) rfl ⟨dX11_named__48, Or.inl rfl⟩ F

set_option maxRecDepth 100000 in
set_option maxHeartbeats 4000000 in
theorem bX11_ages_0 {d mc ms : Nat} {X : XX} {v : VV} {Q : QQ} (hd : 1 ≤ d) (hW : SW X) (F : Ex mX11_ages d 2 [(2, 47), (0, 0)] [] X v mc ms Q) : Ex mX11_ages d 0 [(2, 47), (3, 0)] [] X v mc ms Q := by
  refine x_iconst dX11_ages_0 rfl (i32_of rfl) ?_
  refine x_istore_n [(2, 47), (0, 0)] dX11_ages_1 rfl (Nat.le_of_ble_eq_true rfl) ?_
  exact F

set_option maxRecDepth 100000 in
set_option maxHeartbeats 4000000 in
theorem bX11_ages_2 {d mc ms : Nat} {X : XX} {v : VV} {Q : QQ} (x1 : Int) (hd : 1 ≤ d) (hW : SW X) (F : i32 x1 → ((((v 47 0) ≤ x1) → Q none X v) ∧ ((x1 < (v 47 0)) → (0 ≤ x1 ∧ x1 < 17) ∧ (0 ≤ x1 ∧ x1 < 17) ∧ (0 ≤ x1 ∧ x1 < 17) ∧ (0 ≤ x1 ∧ x1 < 17) ∧ (0 ≤ x1 ∧ x1 < 17) ∧ (((¬ (v 50 x1) = 1) → i32 (x1 + 1) ∧ Ex mX11_ages d 2 [(2, 47), (0, (x1 + 1))] [] X (upd2 (upd2 v 78 x1 (v 58 x1)) 79 x1 (v 59 x1)) mc ms Q) ∧ (((v 50 x1) = 1) → ∃ P1 : Option AV → VV → Prop, Con mX11_agesBehind 0 0 0 [(2, 47), (0, x1)] X (upd2 (upd2 v 78 x1 (v 58 x1)) 79 x1 (v 59 x1)) (fun o X1 v1 => X1 = X ∧ P1 o v1) ∧ ∀ (w3 : VV), P1 none w3 → i32 (x1 + 1) ∧ Ex mX11_ages d 2 [(2, 47), (0, (x1 + 1))] [] X w3 mc ms Q))))) : Ex mX11_ages d 2 [(2, 47), (0, x1)] [] X v mc ms Q := by
  refine x_li32 (i := 1) rfl (fun hx1 => ?_)
  have F := F hx1
  refine x_iload_n dX11_ages_2 rfl ?_
  refine x_aload_n dX11_ages_3 rfl ?_
  refine x_geti (e := (v 47 0)) 0 flX11_159 dX11_ages_4 (sW47 hW) (gW47 hW) rfl rfl (Nat.le_of_ble_eq_true rfl) (tagn2 rfl) ?_
  refine x_icmp_ge 55 dX11_ages_7 rfl (fun hc => ?_) (fun hc => ?_)
  · have F := F.1 hc
    exact x_ret none rfl ⟨dX11_ages_55, rfl⟩ F
  · have F := F.2 hc
    refine x_aload_n dX11_ages_10 rfl ?_
    refine x_getr (r' := 78) flX11_132 dX11_ages_11 (sW47 hW) (gW47 hW) (rW47_54 hW) rfl (Nat.le_of_ble_eq_true rfl) ?_
    refine x_iload_n dX11_ages_14 rfl ?_
    refine x_aload_n dX11_ages_15 rfl ?_
    refine x_getr (r' := 58) flX11_42 dX11_ages_16 (sW47 hW) (gW47 hW) (rW47_11 hW) rfl (Nat.le_of_ble_eq_true rfl) ?_
    refine x_iload_n dX11_ages_19 rfl ?_
    obtain ⟨hi, F⟩ := F
    refine x_iald (e := (v 58 x1)) dX11_ages_20 (sW58 hW) (gW58 hW) hi rfl ?_
    obtain ⟨hi, F⟩ := F
    refine x_iast dX11_ages_21 (sW78 hW) (gW78 hW) hi ?_
    refine x_aload_n dX11_ages_22 rfl ?_
    refine x_getr (r' := 79) flX11_135 dX11_ages_23 (sW47 hW) (gW47 hW) (rW47_55 hW) rfl (Nat.le_of_ble_eq_true rfl) ?_
    refine x_iload_n dX11_ages_26 rfl ?_
    refine x_aload_n dX11_ages_27 rfl ?_
    refine x_getr (r' := 59) flX11_45 dX11_ages_28 (sW47 hW) (gW47 hW) (rW47_12 hW) rfl (Nat.le_of_ble_eq_true rfl) ?_
    refine x_iload_n dX11_ages_31 rfl ?_
    obtain ⟨hi, F⟩ := F
    refine x_iald (e := (v 59 x1)) dX11_ages_32 (sW59 hW) (gW59 hW) hi rfl ?_
    obtain ⟨hi, F⟩ := F
    refine x_iast dX11_ages_33 (sW79 hW) (gW79 hW) hi ?_
    refine x_aload_n dX11_ages_34 rfl ?_
    refine x_getr (r' := 50) flX11_17 dX11_ages_35 (sW47 hW) (gW47 hW) (rW47_3 hW) rfl (Nat.le_of_ble_eq_true rfl) ?_
    refine x_iload_n dX11_ages_38 rfl ?_
    obtain ⟨hi, F⟩ := F
    refine x_iald (e := (v 50 x1)) dX11_ages_39 (sW50 hW) (gW50 hW) hi rfl ?_
    refine x_iconst dX11_ages_40 rfl (i32_of rfl) ?_
    refine x_icmp_ne 49 dX11_ages_41 rfl (fun hc => ?_) (fun hc => ?_)
    · have F := F.1 hc
      obtain ⟨hz, F⟩ := F
      refine x_iinc [(2, 47), (0, (x1 + 1))] dX11_ages_49 rfl rfl (Nat.le_of_ble_eq_true rfl) hz ?_
      refine x_goto 2 dX11_ages_52 rfl ?_
      exact F
    · have F := F.2 hc
      refine x_aload_n dX11_ages_44 rfl ?_
      refine x_iload_n dX11_ages_45 rfl ?_
      obtain ⟨P1, hC, F⟩ := F
      refine x_inv dX11_ages_46 mlX11_310 hC (sW47 hW) (Nat.le_of_ble_eq_true rfl) (gW47 hW) rfl rfl (by omega) (Nat.zero_le _) (Nat.zero_le _) (Nat.le_of_ble_eq_true rfl) (fun o1 Y4 w3 ht hP => ?_)
      obtain rfl : o1 = none := ht
      obtain ⟨rfl, hP⟩ := hP
      have F := F w3 hP
      obtain ⟨hz, F⟩ := F
      refine x_iinc [(2, 47), (0, (x1 + 1))] dX11_ages_49 rfl rfl (Nat.le_of_ble_eq_true rfl) hz ?_
      refine x_goto 2 dX11_ages_52 rfl ?_
      exact F

set_option maxRecDepth 100000 in
set_option maxHeartbeats 4000000 in
theorem bX11_agesBehind_0 {d mc ms : Nat} {X : XX} {v : VV} {Q : QQ} (a1 : Int) (hd : 0 ≤ d) (hW : SW X) (F : i32 a1 → (0 ≤ a1 ∧ a1 < 17) ∧ (0 ≤ a1 ∧ a1 < 17) ∧ Ex mX11_agesBehind d 16 [(2, 47), (0, a1), (0, 0), (3, 0)] [] X (upd2 (upd2 v 78 a1 (-1)) 79 a1 (-1)) mc ms Q) : Ex mX11_agesBehind d 0 [(2, 47), (0, a1), (3, 0), (3, 0)] [] X v mc ms Q := by
  refine x_li32 (i := 1) rfl (fun ha1 => ?_)
  have F := F ha1
  refine x_aload_n dX11_agesBehind_0 rfl ?_
  refine x_getr (r' := 78) flX11_132 dX11_agesBehind_1 (sW47 hW) (gW47 hW) (rW47_54 hW) rfl (Nat.le_of_ble_eq_true rfl) ?_
  refine x_iload_n dX11_agesBehind_4 rfl ?_
  refine x_iconst dX11_agesBehind_5 rfl (i32_of rfl) ?_
  obtain ⟨hi, F⟩ := F
  refine x_iast dX11_agesBehind_6 (sW78 hW) (gW78 hW) hi ?_
  refine x_aload_n dX11_agesBehind_7 rfl ?_
  refine x_getr (r' := 79) flX11_135 dX11_agesBehind_8 (sW47 hW) (gW47 hW) (rW47_55 hW) rfl (Nat.le_of_ble_eq_true rfl) ?_
  refine x_iload_n dX11_agesBehind_11 rfl ?_
  refine x_iconst dX11_agesBehind_12 rfl (i32_of rfl) ?_
  obtain ⟨hi, F⟩ := F
  refine x_iast dX11_agesBehind_13 (sW79 hW) (gW79 hW) hi ?_
  refine x_iconst dX11_agesBehind_14 rfl (i32_of rfl) ?_
  refine x_istore_n [(2, 47), (0, a1), (0, 0), (3, 0)] dX11_agesBehind_15 rfl (Nat.le_of_ble_eq_true rfl) ?_
  exact F

set_option maxRecDepth 100000 in
set_option maxHeartbeats 4000000 in
theorem bX11_agesBehind_16 {d mc ms : Nat} {X : XX} {v : VV} {Q : QQ} (a1 : Int) (x2 : Int) (hd : 0 ≤ d) (hW : SW X) (F : i32 a1 → i32 x2 → (0 ≤ a1 ∧ a1 < 17) ∧ ((((v 54 a1) ≤ x2) → Q none X v) ∧ ((x2 < (v 54 a1)) → i32 (3 * a1) ∧ (i32 (3 * a1) → i32 ((3 * a1) + x2)) ∧ (0 ≤ ((3 * a1) + x2) ∧ ((3 * a1) + x2) < 51) ∧ (0 ≤ (v 55 ((3 * a1) + x2)) ∧ (v 55 ((3 * a1) + x2)) < 17) ∧ (((¬ (v 79 (v 55 ((3 * a1) + x2))) = (-1)) → (0 ≤ a1 ∧ a1 < 17) ∧ ((((v 78 a1) = (-1)) → Ex mX11_agesBehind d 87 [(2, 47), (0, a1), (0, x2), (0, (v 55 ((3 * a1) + x2)))] [] X v mc ms Q) ∧ ((¬ (v 78 a1) = (-1)) → (0 ≤ (v 55 ((3 * a1) + x2)) ∧ (v 55 ((3 * a1) + x2)) < 17) ∧ (0 ≤ a1 ∧ a1 < 17) ∧ ((((v 78 a1) ≤ (v 78 (v 55 ((3 * a1) + x2)))) → Ex mX11_agesBehind d 99 [(2, 47), (0, a1), (0, x2), (0, (v 55 ((3 * a1) + x2)))] [] X v mc ms Q) ∧ (((v 78 (v 55 ((3 * a1) + x2))) < (v 78 a1)) → Ex mX11_agesBehind d 87 [(2, 47), (0, a1), (0, x2), (0, (v 55 ((3 * a1) + x2)))] [] X v mc ms Q))))) ∧ (((v 79 (v 55 ((3 * a1) + x2))) = (-1)) → (0 ≤ a1 ∧ a1 < 17) ∧ (0 ≤ a1 ∧ a1 < 17) ∧ Q none X (upd2 (upd2 v 78 a1 (-1)) 79 a1 (-1))))))) : Ex mX11_agesBehind d 16 [(2, 47), (0, a1), (0, x2), (3, 0)] [] X v mc ms Q := by
  refine x_li32 (i := 1) rfl (fun ha1 => ?_)
  have F := F ha1
  refine x_li32 (i := 2) rfl (fun hx2 => ?_)
  have F := F hx2
  refine x_iload_n dX11_agesBehind_16 rfl ?_
  refine x_aload_n dX11_agesBehind_17 rfl ?_
  refine x_getr (r' := 54) flX11_30 dX11_agesBehind_18 (sW47 hW) (gW47 hW) (rW47_7 hW) rfl (Nat.le_of_ble_eq_true rfl) ?_
  refine x_iload_n dX11_agesBehind_21 rfl ?_
  obtain ⟨hi, F⟩ := F
  refine x_iald (e := (v 54 a1)) dX11_agesBehind_22 (sW54 hW) (gW54 hW) hi rfl ?_
  refine x_icmp_ge 132 dX11_agesBehind_23 rfl (fun hc => ?_) (fun hc => ?_)
  · have F := F.1 hc
    exact x_ret none rfl ⟨dX11_agesBehind_132, rfl⟩ F
  · have F := F.2 hc
    refine x_aload_n dX11_agesBehind_26 rfl ?_
    refine x_getr (r' := 55) flX11_33 dX11_agesBehind_27 (sW47 hW) (gW47 hW) (rW47_8 hW) rfl (Nat.le_of_ble_eq_true rfl) ?_
    refine x_iconst dX11_agesBehind_30 rfl (i32_of rfl) ?_
    refine x_iload_n dX11_agesBehind_31 rfl ?_
    obtain ⟨hz, F⟩ := F
    refine x_imul dX11_agesBehind_32 hz ?_
    refine x_iload_n dX11_agesBehind_33 rfl ?_
    refine x_si32 (i := 1) rfl (fun hk1 => ?_)
    obtain ⟨hz, F⟩ := F
    have hz := hz hk1
    refine x_iadd dX11_agesBehind_34 hz ?_
    obtain ⟨hi, F⟩ := F
    refine x_iald (e := (v 55 ((3 * a1) + x2))) dX11_agesBehind_35 (sW55 hW) (gW55 hW) hi rfl ?_
    refine x_istore_n [(2, 47), (0, a1), (0, x2), (0, (v 55 ((3 * a1) + x2)))] dX11_agesBehind_36 rfl (Nat.le_of_ble_eq_true rfl) ?_
    refine x_aload_n dX11_agesBehind_37 rfl ?_
    refine x_getr (r' := 79) flX11_135 dX11_agesBehind_38 (sW47 hW) (gW47 hW) (rW47_55 hW) rfl (Nat.le_of_ble_eq_true rfl) ?_
    refine x_iload_n dX11_agesBehind_41 rfl ?_
    obtain ⟨hi, F⟩ := F
    refine x_iald (e := (v 79 (v 55 ((3 * a1) + x2)))) dX11_agesBehind_42 (sW79 hW) (gW79 hW) hi rfl ?_
    refine x_iconst dX11_agesBehind_43 rfl (i32_of rfl) ?_
    refine x_icmp_ne 62 dX11_agesBehind_44 rfl (fun hc => ?_) (fun hc => ?_)
    · have F := F.1 hc
      refine x_aload_n dX11_agesBehind_62 rfl ?_
      refine x_getr (r' := 78) flX11_132 dX11_agesBehind_63 (sW47 hW) (gW47 hW) (rW47_54 hW) rfl (Nat.le_of_ble_eq_true rfl) ?_
      refine x_iload_n dX11_agesBehind_66 rfl ?_
      obtain ⟨hi, F⟩ := F
      refine x_iald (e := (v 78 a1)) dX11_agesBehind_67 (sW78 hW) (gW78 hW) hi rfl ?_
      refine x_iconst dX11_agesBehind_68 rfl (i32_of rfl) ?_
      refine x_icmp_eq 87 dX11_agesBehind_69 rfl (fun hc => ?_) (fun hc => ?_)
      · have F := F.1 hc
        exact F
      · have F := F.2 hc
        refine x_aload_n dX11_agesBehind_72 rfl ?_
        refine x_getr (r' := 78) flX11_132 dX11_agesBehind_73 (sW47 hW) (gW47 hW) (rW47_54 hW) rfl (Nat.le_of_ble_eq_true rfl) ?_
        refine x_iload_n dX11_agesBehind_76 rfl ?_
        obtain ⟨hi, F⟩ := F
        refine x_iald (e := (v 78 (v 55 ((3 * a1) + x2)))) dX11_agesBehind_77 (sW78 hW) (gW78 hW) hi rfl ?_
        refine x_aload_n dX11_agesBehind_78 rfl ?_
        refine x_getr (r' := 78) flX11_132 dX11_agesBehind_79 (sW47 hW) (gW47 hW) (rW47_54 hW) rfl (Nat.le_of_ble_eq_true rfl) ?_
        refine x_iload_n dX11_agesBehind_82 rfl ?_
        obtain ⟨hi, F⟩ := F
        refine x_iald (e := (v 78 a1)) dX11_agesBehind_83 (sW78 hW) (gW78 hW) hi rfl ?_
        refine x_icmp_ge 99 dX11_agesBehind_84 rfl (fun hc => ?_) (fun hc => ?_)
        · have F := F.1 hc
          exact F
        · have F := F.2 hc
          exact F
    · have F := F.2 hc
      refine x_aload_n dX11_agesBehind_47 rfl ?_
      refine x_getr (r' := 78) flX11_132 dX11_agesBehind_48 (sW47 hW) (gW47 hW) (rW47_54 hW) rfl (Nat.le_of_ble_eq_true rfl) ?_
      refine x_iload_n dX11_agesBehind_51 rfl ?_
      refine x_iconst dX11_agesBehind_52 rfl (i32_of rfl) ?_
      obtain ⟨hi, F⟩ := F
      refine x_iast dX11_agesBehind_53 (sW78 hW) (gW78 hW) hi ?_
      refine x_aload_n dX11_agesBehind_54 rfl ?_
      refine x_getr (r' := 79) flX11_135 dX11_agesBehind_55 (sW47 hW) (gW47 hW) (rW47_55 hW) rfl (Nat.le_of_ble_eq_true rfl) ?_
      refine x_iload_n dX11_agesBehind_58 rfl ?_
      refine x_iconst dX11_agesBehind_59 rfl (i32_of rfl) ?_
      obtain ⟨hi, F⟩ := F
      refine x_iast dX11_agesBehind_60 (sW79 hW) (gW79 hW) hi ?_
      exact x_ret none rfl ⟨dX11_agesBehind_61, rfl⟩ F

set_option maxRecDepth 100000 in
set_option maxHeartbeats 4000000 in
theorem bX11_agesBehind_87 {d mc ms : Nat} {X : XX} {v : VV} {Q : QQ} (a1 : Int) (x2 : Int) (x3 : Int) (hd : 0 ≤ d) (hW : SW X) (F : i32 a1 → i32 x2 → i32 x3 → (0 ≤ x3 ∧ x3 < 17) ∧ (0 ≤ a1 ∧ a1 < 17) ∧ Ex mX11_agesBehind d 99 [(2, 47), (0, a1), (0, x2), (0, x3)] [] X (upd2 v 78 a1 (v 78 x3)) mc ms Q) : Ex mX11_agesBehind d 87 [(2, 47), (0, a1), (0, x2), (0, x3)] [] X v mc ms Q := by
  refine x_li32 (i := 1) rfl (fun ha1 => ?_)
  have F := F ha1
  refine x_li32 (i := 2) rfl (fun hx2 => ?_)
  have F := F hx2
  refine x_li32 (i := 3) rfl (fun hx3 => ?_)
  have F := F hx3
  refine x_aload_n dX11_agesBehind_87 rfl ?_
  refine x_getr (r' := 78) flX11_132 dX11_agesBehind_88 (sW47 hW) (gW47 hW) (rW47_54 hW) rfl (Nat.le_of_ble_eq_true rfl) ?_
  refine x_iload_n dX11_agesBehind_91 rfl ?_
  refine x_aload_n dX11_agesBehind_92 rfl ?_
  refine x_getr (r' := 78) flX11_132 dX11_agesBehind_93 (sW47 hW) (gW47 hW) (rW47_54 hW) rfl (Nat.le_of_ble_eq_true rfl) ?_
  refine x_iload_n dX11_agesBehind_96 rfl ?_
  obtain ⟨hi, F⟩ := F
  refine x_iald (e := (v 78 x3)) dX11_agesBehind_97 (sW78 hW) (gW78 hW) hi rfl ?_
  obtain ⟨hi, F⟩ := F
  refine x_iast dX11_agesBehind_98 (sW78 hW) (gW78 hW) hi ?_
  exact F

set_option maxRecDepth 100000 in
set_option maxHeartbeats 4000000 in
theorem bX11_agesBehind_99 {d mc ms : Nat} {X : XX} {v : VV} {Q : QQ} (a1 : Int) (x2 : Int) (x3 : Int) (hd : 0 ≤ d) (hW : SW X) (F : i32 a1 → i32 x2 → i32 x3 → (0 ≤ x3 ∧ x3 < 17) ∧ (0 ≤ a1 ∧ a1 < 17) ∧ ((((v 79 x3) ≤ (v 79 a1)) → i32 (x2 + 1) ∧ Ex mX11_agesBehind d 16 [(2, 47), (0, a1), (0, (x2 + 1)), (3, 0)] [] X v mc ms Q) ∧ (((v 79 a1) < (v 79 x3)) → (0 ≤ x3 ∧ x3 < 17) ∧ (0 ≤ a1 ∧ a1 < 17) ∧ i32 (x2 + 1) ∧ Ex mX11_agesBehind d 16 [(2, 47), (0, a1), (0, (x2 + 1)), (3, 0)] [] X (upd2 v 79 a1 (v 79 x3)) mc ms Q))) : Ex mX11_agesBehind d 99 [(2, 47), (0, a1), (0, x2), (0, x3)] [] X v mc ms Q := by
  refine x_li32 (i := 1) rfl (fun ha1 => ?_)
  have F := F ha1
  refine x_li32 (i := 2) rfl (fun hx2 => ?_)
  have F := F hx2
  refine x_li32 (i := 3) rfl (fun hx3 => ?_)
  have F := F hx3
  refine x_aload_n dX11_agesBehind_99 rfl ?_
  refine x_getr (r' := 79) flX11_135 dX11_agesBehind_100 (sW47 hW) (gW47 hW) (rW47_55 hW) rfl (Nat.le_of_ble_eq_true rfl) ?_
  refine x_iload_n dX11_agesBehind_103 rfl ?_
  obtain ⟨hi, F⟩ := F
  refine x_iald (e := (v 79 x3)) dX11_agesBehind_104 (sW79 hW) (gW79 hW) hi rfl ?_
  refine x_aload_n dX11_agesBehind_105 rfl ?_
  refine x_getr (r' := 79) flX11_135 dX11_agesBehind_106 (sW47 hW) (gW47 hW) (rW47_55 hW) rfl (Nat.le_of_ble_eq_true rfl) ?_
  refine x_iload_n dX11_agesBehind_109 rfl ?_
  obtain ⟨hi, F⟩ := F
  refine x_iald (e := (v 79 a1)) dX11_agesBehind_110 (sW79 hW) (gW79 hW) hi rfl ?_
  refine x_icmp_le 126 dX11_agesBehind_111 rfl (fun hc => ?_) (fun hc => ?_)
  · have F := F.1 hc
    obtain ⟨hz, F⟩ := F
    refine x_iinc [(2, 47), (0, a1), (0, (x2 + 1)), (0, x3)] dX11_agesBehind_126 rfl rfl (Nat.le_of_ble_eq_true rfl) hz ?_
    refine x_goto 16 dX11_agesBehind_129 rfl ?_
    exact x_less [(2, 47), (0, a1), (0, (x2 + 1)), (3, 0)] ⟨Or.inr rfl, ⟨Or.inr rfl, ⟨Or.inr rfl, ⟨Or.inl rfl, trivial⟩⟩⟩⟩ F
  · have F := F.2 hc
    refine x_aload_n dX11_agesBehind_114 rfl ?_
    refine x_getr (r' := 79) flX11_135 dX11_agesBehind_115 (sW47 hW) (gW47 hW) (rW47_55 hW) rfl (Nat.le_of_ble_eq_true rfl) ?_
    refine x_iload_n dX11_agesBehind_118 rfl ?_
    refine x_aload_n dX11_agesBehind_119 rfl ?_
    refine x_getr (r' := 79) flX11_135 dX11_agesBehind_120 (sW47 hW) (gW47 hW) (rW47_55 hW) rfl (Nat.le_of_ble_eq_true rfl) ?_
    refine x_iload_n dX11_agesBehind_123 rfl ?_
    obtain ⟨hi, F⟩ := F
    refine x_iald (e := (v 79 x3)) dX11_agesBehind_124 (sW79 hW) (gW79 hW) hi rfl ?_
    obtain ⟨hi, F⟩ := F
    refine x_iast dX11_agesBehind_125 (sW79 hW) (gW79 hW) hi ?_
    obtain ⟨hz, F⟩ := F
    refine x_iinc [(2, 47), (0, a1), (0, (x2 + 1)), (0, x3)] dX11_agesBehind_126 rfl rfl (Nat.le_of_ble_eq_true rfl) hz ?_
    refine x_goto 16 dX11_agesBehind_129 rfl ?_
    exact x_less [(2, 47), (0, a1), (0, (x2 + 1)), (3, 0)] ⟨Or.inr rfl, ⟨Or.inr rfl, ⟨Or.inr rfl, ⟨Or.inl rfl, trivial⟩⟩⟩⟩ F

set_option maxRecDepth 100000 in
set_option maxHeartbeats 4000000 in
theorem bX11_ownerOf_0 {d mc ms : Nat} {X : XX} {v : VV} {Q : QQ} (a1 : Int) (hd : 0 ≤ d) (hW : SW X) (F : i32 a1 → Ex mX11_ownerOf d 2 [(2, 47), (0, a1), (0, a1)] [] X v mc ms Q) : Ex mX11_ownerOf d 0 [(2, 47), (0, a1), (3, 0)] [] X v mc ms Q := by
  refine x_li32 (i := 1) rfl (fun ha1 => ?_)
  have F := F ha1
  refine x_iload_n dX11_ownerOf_0 rfl ?_
  refine x_istore_n [(2, 47), (0, a1), (0, a1)] dX11_ownerOf_1 rfl (Nat.le_of_ble_eq_true rfl) ?_
  exact F

set_option maxRecDepth 100000 in
set_option maxHeartbeats 4000000 in
theorem bX11_ownerOf_2 {d mc ms : Nat} {X : XX} {v : VV} {Q : QQ} (a1 : Int) (x2 : Int) (hd : 0 ≤ d) (hW : SW X) (F : i32 a1 → i32 x2 → (0 ≤ x2 ∧ x2 < 17) ∧ (((¬ (v 56 x2) = (-1)) → (0 ≤ x2 ∧ x2 < 17) ∧ Q (some (0, (v 56 x2))) X v) ∧ (((v 56 x2) = (-1)) → (0 ≤ x2 ∧ x2 < 17) ∧ ((((v 54 x2) ≤ 0) → (0 ≤ x2 ∧ x2 < 17) ∧ Q (some (0, (v 56 x2))) X v) ∧ ((0 < (v 54 x2)) → i32 (3 * x2) ∧ (0 ≤ (3 * x2) ∧ (3 * x2) < 51) ∧ Ex mX11_ownerOf d 2 [(2, 47), (0, a1), (0, (v 55 (3 * x2)))] [] X v mc ms Q))))) : Ex mX11_ownerOf d 2 [(2, 47), (0, a1), (0, x2)] [] X v mc ms Q := by
  refine x_li32 (i := 1) rfl (fun ha1 => ?_)
  have F := F ha1
  refine x_li32 (i := 2) rfl (fun hx2 => ?_)
  have F := F hx2
  refine x_aload_n dX11_ownerOf_2 rfl ?_
  refine x_getr (r' := 56) flX11_36 dX11_ownerOf_3 (sW47 hW) (gW47 hW) (rW47_9 hW) rfl (Nat.le_of_ble_eq_true rfl) ?_
  refine x_iload_n dX11_ownerOf_6 rfl ?_
  obtain ⟨hi, F⟩ := F
  refine x_iald (e := (v 56 x2)) dX11_ownerOf_7 (sW56 hW) (gW56 hW) hi rfl ?_
  refine x_iconst dX11_ownerOf_8 rfl (i32_of rfl) ?_
  refine x_icmp_ne 33 dX11_ownerOf_9 rfl (fun hc => ?_) (fun hc => ?_)
  · have F := F.1 hc
    refine x_aload_n dX11_ownerOf_33 rfl ?_
    refine x_getr (r' := 56) flX11_36 dX11_ownerOf_34 (sW47 hW) (gW47 hW) (rW47_9 hW) rfl (Nat.le_of_ble_eq_true rfl) ?_
    refine x_iload_n dX11_ownerOf_37 rfl ?_
    obtain ⟨hi, F⟩ := F
    refine x_iald (e := (v 56 x2)) dX11_ownerOf_38 (sW56 hW) (gW56 hW) hi rfl ?_
    exact x_ret (some (0, (v 56 x2))) rfl ⟨dX11_ownerOf_39, Or.inl rfl⟩ F
  · have F := F.2 hc
    refine x_aload_n dX11_ownerOf_12 rfl ?_
    refine x_getr (r' := 54) flX11_30 dX11_ownerOf_13 (sW47 hW) (gW47 hW) (rW47_7 hW) rfl (Nat.le_of_ble_eq_true rfl) ?_
    refine x_iload_n dX11_ownerOf_16 rfl ?_
    obtain ⟨hi, F⟩ := F
    refine x_iald (e := (v 54 x2)) dX11_ownerOf_17 (sW54 hW) (gW54 hW) hi rfl ?_
    refine x_if_le 33 dX11_ownerOf_18 rfl (fun hc => ?_) (fun hc => ?_)
    · have F := F.1 hc
      refine x_aload_n dX11_ownerOf_33 rfl ?_
      refine x_getr (r' := 56) flX11_36 dX11_ownerOf_34 (sW47 hW) (gW47 hW) (rW47_9 hW) rfl (Nat.le_of_ble_eq_true rfl) ?_
      refine x_iload_n dX11_ownerOf_37 rfl ?_
      obtain ⟨hi, F⟩ := F
      refine x_iald (e := (v 56 x2)) dX11_ownerOf_38 (sW56 hW) (gW56 hW) hi rfl ?_
      exact x_ret (some (0, (v 56 x2))) rfl ⟨dX11_ownerOf_39, Or.inl rfl⟩ F
    · have F := F.2 hc
      refine x_aload_n dX11_ownerOf_21 rfl ?_
      refine x_getr (r' := 55) flX11_33 dX11_ownerOf_22 (sW47 hW) (gW47 hW) (rW47_8 hW) rfl (Nat.le_of_ble_eq_true rfl) ?_
      refine x_iconst dX11_ownerOf_25 rfl (i32_of rfl) ?_
      refine x_iload_n dX11_ownerOf_26 rfl ?_
      obtain ⟨hz, F⟩ := F
      refine x_imul dX11_ownerOf_27 hz ?_
      obtain ⟨hi, F⟩ := F
      refine x_iald (e := (v 55 (3 * x2))) dX11_ownerOf_28 (sW55 hW) (gW55 hW) hi rfl ?_
      refine x_istore_n [(2, 47), (0, a1), (0, (v 55 (3 * x2)))] dX11_ownerOf_29 rfl (Nat.le_of_ble_eq_true rfl) ?_
      refine x_goto 2 dX11_ownerOf_30 rfl ?_
      exact F

set_option maxRecDepth 100000 in
set_option maxHeartbeats 4000000 in
theorem bX11_table_0 {d mc ms : Nat} {X : XX} {v : VV} {Q : QQ} (a1 : Int) (a2 : Int) (hd : 2 ≤ d) (hW : SW X) (F : i32 a1 → i32 a2 → ∃ P1 : Option AV → VV → Prop, Con mX11_isTable 0 0 0 [(2, 47), (0, a1)] X v (fun o X1 v1 => X1 = X ∧ P1 o v1) ∧ ∀ (r2 : Int) (w3 : VV), P1 (some (0, r2)) w3 → (((r2 = 0) → Q (some (0, (-1))) X w3) ∧ ((¬ r2 = 0) → (((a2 < 0) → Q (some (0, (-1))) X w3) ∧ ((0 ≤ a2) → (((a2 ≤ 9) → ∃ P5 : Option AV → VV → Prop, Con mX11_ages 1 0 0 [(2, 47)] X w3 (fun o X1 v1 => X1 = X ∧ P5 o v1) ∧ ∀ (w7 : VV), P5 none w7 → (((a2 = 0) → (0 ≤ a1 ∧ a1 < 17) ∧ Q (some (0, (w7 50 a1))) X w7) ∧ ((a2 = 1) → (0 ≤ a1 ∧ a1 < 17) ∧ Q (some (0, (w7 51 a1))) X w7) ∧ ((a2 = 2) → (0 ≤ a1 ∧ a1 < 17) ∧ Q (some (0, (w7 54 a1))) X w7) ∧ ((a2 = 3) → Ex mX11_table d 97 [(2, 47), (0, a1), (0, a2)] [] X w7 mc ms Q) ∧ ((a2 = 4) → Ex mX11_table d 97 [(2, 47), (0, a1), (0, a2)] [] X w7 mc ms Q) ∧ ((a2 = 5) → Ex mX11_table d 97 [(2, 47), (0, a1), (0, a2)] [] X w7 mc ms Q) ∧ ((a2 = 6) → (0 ≤ a1 ∧ a1 < 17) ∧ Q (some (0, (w7 78 a1))) X w7) ∧ ((a2 = 7) → (0 ≤ a1 ∧ a1 < 17) ∧ Q (some (0, (w7 79 a1))) X w7) ∧ ((a2 = 8) → ∃ P9 : Option AV → VV → Prop, Con mX11_ownerOf 0 0 0 [(2, 47), (0, a1)] X w7 (fun o X1 v1 => X1 = X ∧ P9 o v1) ∧ ∀ (r10 : Int) (w11 : VV), P9 (some (0, r10)) w11 → Q (some (0, r10)) X w11) ∧ ((a2 < 0 ∨ 8 < a2) → (0 ≤ a1 ∧ a1 < 17) ∧ Q (some (0, (w7 57 a1))) X w7))) ∧ ((9 < a2) → Q (some (0, (-1))) X w3))))))) : Ex mX11_table d 0 [(2, 47), (0, a1), (0, a2)] [] X v mc ms Q := by
  refine x_li32 (i := 1) rfl (fun ha1 => ?_)
  have F := F ha1
  refine x_li32 (i := 2) rfl (fun ha2 => ?_)
  have F := F ha2
  refine x_aload_n dX11_table_0 rfl ?_
  refine x_iload_n dX11_table_1 rfl ?_
  obtain ⟨P1, hC, F⟩ := F
  refine x_inv dX11_table_2 mlX11_162 hC (sW47 hW) (Nat.le_of_ble_eq_true rfl) (gW47 hW) rfl rfl (by omega) (Nat.zero_le _) (Nat.zero_le _) (Nat.le_of_ble_eq_true rfl) (fun o1 Y4 w3 ht hP => ?_)
  obtain ⟨r2, rfl⟩ : ∃ i, o1 = some (0, i) := ht
  obtain ⟨rfl, hP⟩ := hP
  have F := F r2 w3 hP
  refine x_if_eq 18 dX11_table_5 rfl (fun hc => ?_) (fun hc => ?_)
  · have F := F.1 hc
    refine x_iconst dX11_table_18 rfl (i32_of rfl) ?_
    exact x_ret (some (0, (-1))) rfl ⟨dX11_table_19, Or.inl rfl⟩ F
  · have F := F.2 hc
    refine x_iload_n dX11_table_8 rfl ?_
    refine x_if_lt 18 dX11_table_9 rfl (fun hc => ?_) (fun hc => ?_)
    · have F := F.1 hc
      refine x_iconst dX11_table_18 rfl (i32_of rfl) ?_
      exact x_ret (some (0, (-1))) rfl ⟨dX11_table_19, Or.inl rfl⟩ F
    · have F := F.2 hc
      refine x_iload_n dX11_table_12 rfl ?_
      refine x_bipush dX11_table_13 kb_9 (i32_of rfl) ?_
      refine x_icmp_le 20 dX11_table_15 rfl (fun hc => ?_) (fun hc => ?_)
      · have F := F.1 hc
        refine x_aload_n dX11_table_20 rfl ?_
        obtain ⟨P5, hC, F⟩ := F
        refine x_inv dX11_table_21 mlX11_313 hC (sW47 hW) (Nat.le_of_ble_eq_true rfl) (gW47 hW) rfl rfl (by omega) (Nat.zero_le _) (Nat.zero_le _) (Nat.le_of_ble_eq_true rfl) (fun o1 Y8 w7 ht hP => ?_)
        obtain rfl : o1 = none := ht
        obtain ⟨rfl, hP⟩ := hP
        have F := F w7 hP
        refine x_iload_n dX11_table_24 rfl ?_
        rcases (show a2 = 0 ∨ a2 = 1 ∨ a2 = 2 ∨ a2 = 3 ∨ a2 = 4 ∨ a2 = 5 ∨ a2 = 6 ∨ a2 = 7 ∨ a2 = 8 ∨ (a2 < 0 ∨ 8 < a2) by omega) with hc | hc | hc | hc | hc | hc | hc | hc | hc | hc
        · have F := F.1 hc
          refine x_tableAt 76 dX11_table_25 (by omega) (by omega) (off := 51) (by rw [hc]; rfl) rfl ?_
          refine x_aload_n dX11_table_76 rfl ?_
          refine x_getr (r' := 50) flX11_17 dX11_table_77 (sW47 hW) (gW47 hW) (rW47_3 hW) rfl (Nat.le_of_ble_eq_true rfl) ?_
          refine x_iload_n dX11_table_80 rfl ?_
          obtain ⟨hi, F⟩ := F
          refine x_iald (e := (w7 50 a1)) dX11_table_81 (sW50 hW) (gW50 hW) hi rfl ?_
          exact x_ret (some (0, (w7 50 a1))) rfl ⟨dX11_table_82, Or.inl rfl⟩ F
        · have F := F.2.1 hc
          refine x_tableAt 83 dX11_table_25 (by omega) (by omega) (off := 58) (by rw [hc]; rfl) rfl ?_
          refine x_aload_n dX11_table_83 rfl ?_
          refine x_getr (r' := 51) flX11_21 dX11_table_84 (sW47 hW) (gW47 hW) (rW47_4 hW) rfl (Nat.le_of_ble_eq_true rfl) ?_
          refine x_iload_n dX11_table_87 rfl ?_
          obtain ⟨hi, F⟩ := F
          refine x_iald (e := (w7 51 a1)) dX11_table_88 (sW51 hW) (gW51 hW) hi rfl ?_
          exact x_ret (some (0, (w7 51 a1))) rfl ⟨dX11_table_89, Or.inl rfl⟩ F
        · have F := F.2.2.1 hc
          refine x_tableAt 90 dX11_table_25 (by omega) (by omega) (off := 65) (by rw [hc]; rfl) rfl ?_
          refine x_aload_n dX11_table_90 rfl ?_
          refine x_getr (r' := 54) flX11_30 dX11_table_91 (sW47 hW) (gW47 hW) (rW47_7 hW) rfl (Nat.le_of_ble_eq_true rfl) ?_
          refine x_iload_n dX11_table_94 rfl ?_
          obtain ⟨hi, F⟩ := F
          refine x_iald (e := (w7 54 a1)) dX11_table_95 (sW54 hW) (gW54 hW) hi rfl ?_
          exact x_ret (some (0, (w7 54 a1))) rfl ⟨dX11_table_96, Or.inl rfl⟩ F
        · have F := F.2.2.2.1 hc
          refine x_tableAt 97 dX11_table_25 (by omega) (by omega) (off := 72) (by rw [hc]; rfl) rfl ?_
          exact F
        · have F := F.2.2.2.2.1 hc
          refine x_tableAt 97 dX11_table_25 (by omega) (by omega) (off := 72) (by rw [hc]; rfl) rfl ?_
          exact F
        · have F := F.2.2.2.2.2.1 hc
          refine x_tableAt 97 dX11_table_25 (by omega) (by omega) (off := 72) (by rw [hc]; rfl) rfl ?_
          exact F
        · have F := F.2.2.2.2.2.2.1 hc
          refine x_tableAt 126 dX11_table_25 (by omega) (by omega) (off := 101) (by rw [hc]; rfl) rfl ?_
          refine x_aload_n dX11_table_126 rfl ?_
          refine x_getr (r' := 78) flX11_132 dX11_table_127 (sW47 hW) (gW47 hW) (rW47_54 hW) rfl (Nat.le_of_ble_eq_true rfl) ?_
          refine x_iload_n dX11_table_130 rfl ?_
          obtain ⟨hi, F⟩ := F
          refine x_iald (e := (w7 78 a1)) dX11_table_131 (sW78 hW) (gW78 hW) hi rfl ?_
          exact x_ret (some (0, (w7 78 a1))) rfl ⟨dX11_table_132, Or.inl rfl⟩ F
        · have F := F.2.2.2.2.2.2.2.1 hc
          refine x_tableAt 133 dX11_table_25 (by omega) (by omega) (off := 108) (by rw [hc]; rfl) rfl ?_
          refine x_aload_n dX11_table_133 rfl ?_
          refine x_getr (r' := 79) flX11_135 dX11_table_134 (sW47 hW) (gW47 hW) (rW47_55 hW) rfl (Nat.le_of_ble_eq_true rfl) ?_
          refine x_iload_n dX11_table_137 rfl ?_
          obtain ⟨hi, F⟩ := F
          refine x_iald (e := (w7 79 a1)) dX11_table_138 (sW79 hW) (gW79 hW) hi rfl ?_
          exact x_ret (some (0, (w7 79 a1))) rfl ⟨dX11_table_139, Or.inl rfl⟩ F
        · have F := F.2.2.2.2.2.2.2.2.1 hc
          refine x_tableAt 140 dX11_table_25 (by omega) (by omega) (off := 115) (by rw [hc]; rfl) rfl ?_
          refine x_aload_n dX11_table_140 rfl ?_
          refine x_iload_n dX11_table_141 rfl ?_
          obtain ⟨P9, hC, F⟩ := F
          refine x_inv dX11_table_142 mlX11_316 hC (sW47 hW) (Nat.le_of_ble_eq_true rfl) (gW47 hW) rfl rfl (by omega) (Nat.zero_le _) (Nat.zero_le _) (Nat.le_of_ble_eq_true rfl) (fun o1 Y12 w11 ht hP => ?_)
          obtain ⟨r10, rfl⟩ : ∃ i, o1 = some (0, i) := ht
          obtain ⟨rfl, hP⟩ := hP
          have F := F r10 w11 hP
          exact x_ret (some (0, r10)) rfl ⟨dX11_table_145, Or.inl rfl⟩ F
        · have F := F.2.2.2.2.2.2.2.2.2 hc
          refine x_tableOut 146 dX11_table_25 hc rfl ?_
          refine x_aload_n dX11_table_146 rfl ?_
          refine x_getr (r' := 57) flX11_39 dX11_table_147 (sW47 hW) (gW47 hW) (rW47_10 hW) rfl (Nat.le_of_ble_eq_true rfl) ?_
          refine x_iload_n dX11_table_150 rfl ?_
          obtain ⟨hi, F⟩ := F
          refine x_iald (e := (w7 57 a1)) dX11_table_151 (sW57 hW) (gW57 hW) hi rfl ?_
          exact x_ret (some (0, (w7 57 a1))) rfl ⟨dX11_table_152, Or.inl rfl⟩ F
      · have F := F.2 hc
        refine x_iconst dX11_table_18 rfl (i32_of rfl) ?_
        exact x_ret (some (0, (-1))) rfl ⟨dX11_table_19, Or.inl rfl⟩ F

set_option maxRecDepth 100000 in
set_option maxHeartbeats 4000000 in
theorem bX11_table_97 {d mc ms : Nat} {X : XX} {v : VV} {Q : QQ} (a1 : Int) (a2 : Int) (hd : 2 ≤ d) (hW : SW X) (F : i32 a1 → i32 a2 → i32 (a2 - 3) ∧ (0 ≤ a1 ∧ a1 < 17) ∧ ((((v 54 a1) ≤ (a2 - 3)) → Q (some (0, (-1))) X v) ∧ (((a2 - 3) < (v 54 a1)) → i32 (3 * a1) ∧ (i32 (3 * a1) → i32 ((3 * a1) + a2)) ∧ (i32 ((3 * a1) + a2) → i32 (((3 * a1) + a2) - 3)) ∧ (0 ≤ (((3 * a1) + a2) - 3) ∧ (((3 * a1) + a2) - 3) < 51) ∧ Q (some (0, (v 55 (((3 * a1) + a2) - 3)))) X v))) : Ex mX11_table d 97 [(2, 47), (0, a1), (0, a2)] [] X v mc ms Q := by
  refine x_li32 (i := 1) rfl (fun ha1 => ?_)
  have F := F ha1
  refine x_li32 (i := 2) rfl (fun ha2 => ?_)
  have F := F ha2
  refine x_iload_n dX11_table_97 rfl ?_
  refine x_iconst dX11_table_98 rfl (i32_of rfl) ?_
  obtain ⟨hz, F⟩ := F
  refine x_isub dX11_table_99 hz ?_
  refine x_aload_n dX11_table_100 rfl ?_
  refine x_getr (r' := 54) flX11_30 dX11_table_101 (sW47 hW) (gW47 hW) (rW47_7 hW) rfl (Nat.le_of_ble_eq_true rfl) ?_
  refine x_iload_n dX11_table_104 rfl ?_
  obtain ⟨hi, F⟩ := F
  refine x_iald (e := (v 54 a1)) dX11_table_105 (sW54 hW) (gW54 hW) hi rfl ?_
  refine x_icmp_ge 124 dX11_table_106 rfl (fun hc => ?_) (fun hc => ?_)
  · have F := F.1 hc
    refine x_iconst dX11_table_124 rfl (i32_of rfl) ?_
    exact x_ret (some (0, (-1))) rfl ⟨dX11_table_125, Or.inl rfl⟩ F
  · have F := F.2 hc
    refine x_aload_n dX11_table_109 rfl ?_
    refine x_getr (r' := 55) flX11_33 dX11_table_110 (sW47 hW) (gW47 hW) (rW47_8 hW) rfl (Nat.le_of_ble_eq_true rfl) ?_
    refine x_iconst dX11_table_113 rfl (i32_of rfl) ?_
    refine x_iload_n dX11_table_114 rfl ?_
    obtain ⟨hz, F⟩ := F
    refine x_imul dX11_table_115 hz ?_
    refine x_iload_n dX11_table_116 rfl ?_
    refine x_si32 (i := 1) rfl (fun hk1 => ?_)
    obtain ⟨hz, F⟩ := F
    have hz := hz hk1
    refine x_iadd dX11_table_117 hz ?_
    refine x_iconst dX11_table_118 rfl (i32_of rfl) ?_
    refine x_si32 (i := 1) rfl (fun hk1 => ?_)
    obtain ⟨hz, F⟩ := F
    have hz := hz hk1
    refine x_isub dX11_table_119 hz ?_
    obtain ⟨hi, F⟩ := F
    refine x_iald (e := (v 55 (((3 * a1) + a2) - 3))) dX11_table_120 (sW55 hW) (gW55 hW) hi rfl ?_
    refine x_goto 125 dX11_table_121 rfl ?_
    exact x_ret (some (0, (v 55 (((3 * a1) + a2) - 3)))) rfl ⟨dX11_table_125, Or.inl rfl⟩ F

set_option maxRecDepth 100000 in
set_option maxHeartbeats 4000000 in
theorem bX11_type_0 {d mc ms : Nat} {X : XX} {v : VV} {Q : QQ} (a1 : Int) (a2 : Int) (hd : 2 ≤ d) (hW : SW X) (F : i32 a1 → i32 a2 → ∃ P1 : Option AV → VV → Prop, Con mX11_isColumn 1 0 0 [(2, 47), (0, a1), (0, a2)] X v (fun o X1 v1 => X1 = X ∧ P1 o v1) ∧ ∀ (r2 : Int) (w3 : VV), P1 (some (0, r2)) w3 → (((r2 = 0) → Q (some (0, (-1))) X w3) ∧ ((¬ r2 = 0) → i32 (8 * a1) ∧ (i32 (8 * a1) → i32 ((8 * a1) + a2)) ∧ (0 ≤ ((8 * a1) + a2) ∧ ((8 * a1) + a2) < 136) ∧ Q (some (0, (w3 53 ((8 * a1) + a2)))) X w3))) : Ex mX11_type d 0 [(2, 47), (0, a1), (0, a2)] [] X v mc ms Q := by
  refine x_li32 (i := 1) rfl (fun ha1 => ?_)
  have F := F ha1
  refine x_li32 (i := 2) rfl (fun ha2 => ?_)
  have F := F ha2
  refine x_aload_n dX11_type_0 rfl ?_
  refine x_iload_n dX11_type_1 rfl ?_
  refine x_iload_n dX11_type_2 rfl ?_
  obtain ⟨P1, hC, F⟩ := F
  refine x_inv dX11_type_3 mlX11_320 hC (sW47 hW) (Nat.le_of_ble_eq_true rfl) (gW47 hW) rfl rfl (by omega) (Nat.zero_le _) (Nat.zero_le _) (Nat.le_of_ble_eq_true rfl) (fun o1 Y4 w3 ht hP => ?_)
  obtain ⟨r2, rfl⟩ : ∃ i, o1 = some (0, i) := ht
  obtain ⟨rfl, hP⟩ := hP
  have F := F r2 w3 hP
  refine x_if_eq 23 dX11_type_6 rfl (fun hc => ?_) (fun hc => ?_)
  · have F := F.1 hc
    refine x_iconst dX11_type_23 rfl (i32_of rfl) ?_
    exact x_ret (some (0, (-1))) rfl ⟨dX11_type_24, Or.inl rfl⟩ F
  · have F := F.2 hc
    refine x_aload_n dX11_type_9 rfl ?_
    refine x_getr (r' := 53) flX11_27 dX11_type_10 (sW47 hW) (gW47 hW) (rW47_6 hW) rfl (Nat.le_of_ble_eq_true rfl) ?_
    refine x_bipush dX11_type_13 kb_8 (i32_of rfl) ?_
    refine x_iload_n dX11_type_15 rfl ?_
    obtain ⟨hz, F⟩ := F
    refine x_imul dX11_type_16 hz ?_
    refine x_iload_n dX11_type_17 rfl ?_
    refine x_si32 (i := 1) rfl (fun hk1 => ?_)
    obtain ⟨hz, F⟩ := F
    have hz := hz hk1
    refine x_iadd dX11_type_18 hz ?_
    obtain ⟨hi, F⟩ := F
    refine x_iald (e := (w3 53 ((8 * a1) + a2))) dX11_type_19 (sW53 hW) (gW53 hW) hi rfl ?_
    refine x_goto 24 dX11_type_20 rfl ?_
    exact x_ret (some (0, (w3 53 ((8 * a1) + a2)))) rfl ⟨dX11_type_24, Or.inl rfl⟩ F

set_option maxRecDepth 100000 in
set_option maxHeartbeats 4000000 in
theorem bX11_found_0 {d mc ms : Nat} {X : XX} {v : VV} {Q : QQ} (a1 : Int) (hd : 0 ≤ d) (hW : SW X) (F : i32 a1 → (((a1 < 0) → Q (some (0, (-1))) X v) ∧ ((0 ≤ a1) → ((((v 47 57) ≤ a1) → Q (some (0, (-1))) X v) ∧ ((a1 < (v 47 57)) → (0 ≤ a1 ∧ a1 < 140) ∧ Q (some (0, (v 81 a1))) X v))))) : Ex mX11_found d 0 [(2, 47), (0, a1)] [] X v mc ms Q := by
  refine x_li32 (i := 1) rfl (fun ha1 => ?_)
  have F := F ha1
  refine x_iload_n dX11_found_0 rfl ?_
  refine x_if_lt 21 dX11_found_1 rfl (fun hc => ?_) (fun hc => ?_)
  · have F := F.1 hc
    refine x_iconst dX11_found_21 rfl (i32_of rfl) ?_
    exact x_ret (some (0, (-1))) rfl ⟨dX11_found_22, Or.inl rfl⟩ F
  · have F := F.2 hc
    refine x_iload_n dX11_found_4 rfl ?_
    refine x_aload_n dX11_found_5 rfl ?_
    refine x_geti (e := (v 47 57)) 0 flX11_324 dX11_found_6 (sW47 hW) (gW47 hW) rfl rfl (Nat.le_of_ble_eq_true rfl) (tagn2 rfl) ?_
    refine x_icmp_ge 21 dX11_found_9 rfl (fun hc => ?_) (fun hc => ?_)
    · have F := F.1 hc
      refine x_iconst dX11_found_21 rfl (i32_of rfl) ?_
      exact x_ret (some (0, (-1))) rfl ⟨dX11_found_22, Or.inl rfl⟩ F
    · have F := F.2 hc
      refine x_aload_n dX11_found_12 rfl ?_
      refine x_getr (r' := 81) flX11_141 dX11_found_13 (sW47 hW) (gW47 hW) (rW47_58 hW) rfl (Nat.le_of_ble_eq_true rfl) ?_
      refine x_iload_n dX11_found_16 rfl ?_
      obtain ⟨hi, F⟩ := F
      refine x_iald (e := (v 81 a1)) dX11_found_17 (sW81 hW) (gW81 hW) hi rfl ?_
      refine x_goto 22 dX11_found_18 rfl ?_
      exact x_ret (some (0, (v 81 a1))) rfl ⟨dX11_found_22, Or.inl rfl⟩ F

set_option maxRecDepth 100000 in
set_option maxHeartbeats 4000000 in
theorem bX11_finds_0 {d mc ms : Nat} {X : XX} {v : VV} {Q : QQ} (a1 : Int) (hd : 0 ≤ d) (hW : SW X) (F : i32 a1 → (0 ≤ (v 47 57) ∧ (v 47 57) < 140) ∧ (i32 (v 47 57) → i32 ((v 47 57) + 1)) ∧ Q none X (upd2 (upd2 v 81 (v 47 57) a1) 47 57 ((v 47 57) + 1))) : Ex mX11_finds d 0 [(2, 47), (0, a1)] [] X v mc ms Q := by
  refine x_li32 (i := 1) rfl (fun ha1 => ?_)
  have F := F ha1
  refine x_aload_n dX11_finds_0 rfl ?_
  refine x_getr (r' := 81) flX11_141 dX11_finds_1 (sW47 hW) (gW47 hW) (rW47_58 hW) rfl (Nat.le_of_ble_eq_true rfl) ?_
  refine x_aload_n dX11_finds_4 rfl ?_
  refine x_geti (e := (v 47 57)) 0 flX11_324 dX11_finds_5 (sW47 hW) (gW47 hW) rfl rfl (Nat.le_of_ble_eq_true rfl) (tagn2 rfl) ?_
  refine x_iload_n dX11_finds_8 rfl ?_
  obtain ⟨hi, F⟩ := F
  refine x_iast dX11_finds_9 (sW81 hW) (gW81 hW) hi ?_
  refine x_aload_n dX11_finds_10 rfl ?_
  refine x_dup dX11_finds_11 (tag1 rfl) ?_
  refine x_geti (e := (v 47 57)) 0 flX11_324 dX11_finds_12 (sW47 hW) (gW47 hW) rfl rfl (Nat.le_of_ble_eq_true rfl) (tagn2 rfl) ?_
  refine x_iconst dX11_finds_15 rfl (i32_of rfl) ?_
  refine x_si32 (i := 1) rfl (fun hk1 => ?_)
  obtain ⟨hz, F⟩ := F
  have hz := hz hk1
  refine x_iadd dX11_finds_16 hz ?_
  refine x_puti 0 fwX11_324 dX11_finds_17 (sW47 hW) (gW47 hW) (fun h => Bool.noConfusion h) (Nat.le_of_ble_eq_true rfl) rfl (Or.inl ⟨rfl, Or.inl rfl⟩) ?_
  exact x_ret none rfl ⟨dX11_finds_20, rfl⟩ F

set_option maxRecDepth 100000 in
set_option maxHeartbeats 4000000 in
theorem bX11_usedAt_0 {d mc ms : Nat} {X : XX} {v : VV} {Q : QQ} (a1 : Int) (a2 : Int) (hd : 1 ≤ d) (hW : SW X) (F : i32 a1 → i32 a2 → ∃ P1 : Option AV → VV → Prop, Con mX11_wordOf 0 0 0 [(2, 47), (0, a1), (0, a2)] X v (fun o X1 v1 => X1 = X ∧ P1 o v1) ∧ ∀ (r2 : Int) (w3 : VV), P1 (some (1, r2)) w3 → ∃ P5 : Option AV → VV → Prop, Con mX11_behindNamed 0 0 0 [(2, 47), (0, a1), (1, r2)] X w3 (fun o X1 v1 => X1 = X ∧ P5 o v1) ∧ ∀ (r6 : Int) (w7 : VV), P5 (some (0, r6)) w7 → (i32 r6 → i32 (8 * r6)) ∧ i32 (a2 + 2) ∧ ∃ P9 : Option AV → VV → Prop, Con mX11_wordOf 0 0 0 [(2, 47), (0, a1), (0, (a2 + 2))] X w7 (fun o X1 v1 => X1 = X ∧ P9 o v1) ∧ ∀ (r10 : Int) (w11 : VV), P9 (some (1, r10)) w11 → ∃ P13 : Option AV → VV → Prop, Con mX11_columnNamed 0 0 0 [(2, 47), (0, r6), (1, r10)] X w11 (fun o X1 v1 => X1 = X ∧ P13 o v1) ∧ ∀ (r14 : Int) (w15 : VV), P13 (some (0, r14)) w15 → (i32 r14 → i32 (8 * r6) → i32 ((8 * r6) + r14)) ∧ Q (some (0, ((8 * r6) + r14))) X w15) : Ex mX11_usedAt d 0 [(2, 47), (0, a1), (0, a2), (3, 0)] [] X v mc ms Q := by
  refine x_li32 (i := 1) rfl (fun ha1 => ?_)
  have F := F ha1
  refine x_li32 (i := 2) rfl (fun ha2 => ?_)
  have F := F ha2
  refine x_aload_n dX11_usedAt_0 rfl ?_
  refine x_iload_n dX11_usedAt_1 rfl ?_
  refine x_aload_n dX11_usedAt_2 rfl ?_
  refine x_iload_n dX11_usedAt_3 rfl ?_
  refine x_iload_n dX11_usedAt_4 rfl ?_
  obtain ⟨P1, hC, F⟩ := F
  refine x_inv dX11_usedAt_5 mlX11_274 hC (sW47 hW) (Nat.le_of_ble_eq_true rfl) (gW47 hW) rfl rfl (by omega) (Nat.zero_le _) (Nat.zero_le _) (Nat.le_of_ble_eq_true rfl) (fun o1 Y4 w3 ht hP => ?_)
  obtain ⟨r2, rfl⟩ : ∃ i, o1 = some (1, i) := ht
  obtain ⟨rfl, hP⟩ := hP
  have F := F r2 w3 hP
  obtain ⟨P5, hC, F⟩ := F
  refine x_inv dX11_usedAt_8 mlX11_281 hC (sW47 hW) (Nat.le_of_ble_eq_true rfl) (gW47 hW) rfl rfl (by omega) (Nat.zero_le _) (Nat.zero_le _) (Nat.le_of_ble_eq_true rfl) (fun o1 Y8 w7 ht hP => ?_)
  obtain ⟨r6, rfl⟩ : ∃ i, o1 = some (0, i) := ht
  obtain ⟨rfl, hP⟩ := hP
  have F := F r6 w7 hP
  refine x_istore_n [(2, 47), (0, a1), (0, a2), (0, r6)] dX11_usedAt_11 rfl (Nat.le_of_ble_eq_true rfl) ?_
  refine x_bipush dX11_usedAt_12 kb_8 (i32_of rfl) ?_
  refine x_iload_n dX11_usedAt_14 rfl ?_
  refine x_si32 (i := 0) rfl (fun hk0 => ?_)
  obtain ⟨hz, F⟩ := F
  have hz := hz hk0
  refine x_imul dX11_usedAt_15 hz ?_
  refine x_aload_n dX11_usedAt_16 rfl ?_
  refine x_iload_n dX11_usedAt_17 rfl ?_
  refine x_aload_n dX11_usedAt_18 rfl ?_
  refine x_iload_n dX11_usedAt_19 rfl ?_
  refine x_iload_n dX11_usedAt_20 rfl ?_
  refine x_iconst dX11_usedAt_21 rfl (i32_of rfl) ?_
  obtain ⟨hz, F⟩ := F
  refine x_iadd dX11_usedAt_22 hz ?_
  obtain ⟨P9, hC, F⟩ := F
  refine x_inv dX11_usedAt_23 mlX11_274 hC (sW47 hW) (Nat.le_of_ble_eq_true rfl) (gW47 hW) rfl rfl (by omega) (Nat.zero_le _) (Nat.zero_le _) (Nat.le_of_ble_eq_true rfl) (fun o1 Y12 w11 ht hP => ?_)
  obtain ⟨r10, rfl⟩ : ∃ i, o1 = some (1, i) := ht
  obtain ⟨rfl, hP⟩ := hP
  have F := F r10 w11 hP
  obtain ⟨P13, hC, F⟩ := F
  refine x_inv dX11_usedAt_26 mlX11_285 hC (sW47 hW) (Nat.le_of_ble_eq_true rfl) (gW47 hW) rfl rfl (by omega) (Nat.zero_le _) (Nat.zero_le _) (Nat.le_of_ble_eq_true rfl) (fun o1 Y16 w15 ht hP => ?_)
  obtain ⟨r14, rfl⟩ : ∃ i, o1 = some (0, i) := ht
  obtain ⟨rfl, hP⟩ := hP
  have F := F r14 w15 hP
  refine x_si32 (i := 0) rfl (fun hk0 => ?_)
  refine x_si32 (i := 1) rfl (fun hk1 => ?_)
  obtain ⟨hz, F⟩ := F
  have hz := hz hk0 hk1
  refine x_iadd dX11_usedAt_29 hz ?_
  exact x_ret (some (0, ((8 * r6) + r14))) rfl ⟨dX11_usedAt_30, Or.inl rfl⟩ F
