/-! ===== the reference is made ===== -/
set_option maxRecDepth 100000 in
set_option maxHeartbeats 4000000 in
theorem bN_named_0 {d mc ms : Nat} {X : XX} {v : VV} {Q : QQ} (a1 : Int) (a2 : Int) (a3 : Int) (a4 : Int) (a5 : Int) (hd : 0 ≤ d) (F : i32 a1 → i32 a2 → i32 a3 → i32 a4 → i32 a5 → Ex mX11_named d 6 [(0, a1), (0, a2), (0, a3), (0, a4), (0, a5), (1, 0), (3, 0), (0, 0), (3, 0)] [] X v mc ms Q) : Ex mX11_named d 0 [(0, a1), (0, a2), (0, a3), (0, a4), (0, a5), (3, 0), (3, 0), (3, 0), (3, 0)] [] X v mc ms Q := by
  refine x_li32 (i := 0) rfl (fun ha1 => ?_)
  have F := F ha1
  refine x_li32 (i := 1) rfl (fun ha2 => ?_)
  have F := F ha2
  refine x_li32 (i := 2) rfl (fun ha3 => ?_)
  have F := F ha3
  refine x_li32 (i := 3) rfl (fun ha4 => ?_)
  have F := F ha4
  refine x_li32 (i := 4) rfl (fun ha5 => ?_)
  have F := F ha5
  refine x_lconst (i := 0) dX11_named_0 rfl (i64_of rfl) ?_
  refine x_lstore [(0, a1), (0, a2), (0, a3), (0, a4), (0, a5), (1, 0), (3, 0), (3, 0), (3, 0)] dX11_named_1 rfl (Nat.le_of_ble_eq_true rfl) ?_
  refine x_iconst dX11_named_3 rfl (i32_of rfl) ?_
  refine x_istore [(0, a1), (0, a2), (0, a3), (0, a4), (0, a5), (1, 0), (3, 0), (0, 0), (3, 0)] dX11_named_4 rfl (Nat.le_of_ble_eq_true rfl) ?_
  exact F

set_option maxRecDepth 100000 in
set_option maxHeartbeats 4000000 in
theorem bN_named_6 {d mc ms : Nat} {X : XX} {v : VV} {Q : QQ} (a1 : Int) (a2 : Int) (a3 : Int) (a4 : Int) (a5 : Int) (x5 : Int) (x7 : Int) (hd : 0 ≤ d) (F : i32 a1 → i32 a2 → i32 a3 → i32 a4 → i32 a5 → i32 x7 → (((5 ≤ x7) → Q (some (1, x5)) X v) ∧ ((x7 < 5) → (((¬ x7 = 0) → (((¬ x7 = 1) → (((¬ x7 = 2) → (((¬ x7 = 3) → (((a5 = 32) → i32 (x7 + 1) ∧ Ex mX11_named d 6 [(0, a1), (0, a2), (0, a3), (0, a4), (0, a5), (1, x5), (3, 0), (0, (x7 + 1)), (3, 0)] [] X v mc ms Q) ∧ ((¬ a5 = 32) → i64 (27 * x5) ∧ i64 ((27 * x5) + a5) ∧ i64 (((27 * x5) + a5) - 97) ∧ i64 ((((27 * x5) + a5) - 97) + 1) ∧ i32 (x7 + 1) ∧ Ex mX11_named d 6 [(0, a1), (0, a2), (0, a3), (0, a4), (0, a5), (1, ((((27 * x5) + a5) - 97) + 1)), (3, 0), (0, (x7 + 1)), (3, 0)] [] X v mc ms Q))) ∧ ((x7 = 3) → (((a4 = 32) → i32 (x7 + 1) ∧ Ex mX11_named d 6 [(0, a1), (0, a2), (0, a3), (0, a4), (0, a5), (1, x5), (3, 0), (0, (x7 + 1)), (3, 0)] [] X v mc ms Q) ∧ ((¬ a4 = 32) → i64 (27 * x5) ∧ i64 ((27 * x5) + a4) ∧ i64 (((27 * x5) + a4) - 97) ∧ i64 ((((27 * x5) + a4) - 97) + 1) ∧ i32 (x7 + 1) ∧ Ex mX11_named d 6 [(0, a1), (0, a2), (0, a3), (0, a4), (0, a5), (1, ((((27 * x5) + a4) - 97) + 1)), (3, 0), (0, (x7 + 1)), (3, 0)] [] X v mc ms Q))))) ∧ ((x7 = 2) → (((a3 = 32) → i32 (x7 + 1) ∧ Ex mX11_named d 6 [(0, a1), (0, a2), (0, a3), (0, a4), (0, a5), (1, x5), (3, 0), (0, (x7 + 1)), (3, 0)] [] X v mc ms Q) ∧ ((¬ a3 = 32) → i64 (27 * x5) ∧ i64 ((27 * x5) + a3) ∧ i64 (((27 * x5) + a3) - 97) ∧ i64 ((((27 * x5) + a3) - 97) + 1) ∧ i32 (x7 + 1) ∧ Ex mX11_named d 6 [(0, a1), (0, a2), (0, a3), (0, a4), (0, a5), (1, ((((27 * x5) + a3) - 97) + 1)), (3, 0), (0, (x7 + 1)), (3, 0)] [] X v mc ms Q))))) ∧ ((x7 = 1) → (((a2 = 32) → i32 (x7 + 1) ∧ Ex mX11_named d 6 [(0, a1), (0, a2), (0, a3), (0, a4), (0, a5), (1, x5), (3, 0), (0, (x7 + 1)), (3, 0)] [] X v mc ms Q) ∧ ((¬ a2 = 32) → i64 (27 * x5) ∧ i64 ((27 * x5) + a2) ∧ i64 (((27 * x5) + a2) - 97) ∧ i64 ((((27 * x5) + a2) - 97) + 1) ∧ i32 (x7 + 1) ∧ Ex mX11_named d 6 [(0, a1), (0, a2), (0, a3), (0, a4), (0, a5), (1, ((((27 * x5) + a2) - 97) + 1)), (3, 0), (0, (x7 + 1)), (3, 0)] [] X v mc ms Q))))) ∧ ((x7 = 0) → (((a1 = 32) → i32 (x7 + 1) ∧ Ex mX11_named d 6 [(0, a1), (0, a2), (0, a3), (0, a4), (0, a5), (1, x5), (3, 0), (0, (x7 + 1)), (3, 0)] [] X v mc ms Q) ∧ ((¬ a1 = 32) → i64 (27 * x5) ∧ i64 ((27 * x5) + a1) ∧ i64 (((27 * x5) + a1) - 97) ∧ i64 ((((27 * x5) + a1) - 97) + 1) ∧ i32 (x7 + 1) ∧ Ex mX11_named d 6 [(0, a1), (0, a2), (0, a3), (0, a4), (0, a5), (1, ((((27 * x5) + a1) - 97) + 1)), (3, 0), (0, (x7 + 1)), (3, 0)] [] X v mc ms Q))))))) : Ex mX11_named d 6 [(0, a1), (0, a2), (0, a3), (0, a4), (0, a5), (1, x5), (3, 0), (0, x7), (3, 0)] [] X v mc ms Q := by
  refine x_li32 (i := 0) rfl (fun ha1 => ?_)
  have F := F ha1
  refine x_li32 (i := 1) rfl (fun ha2 => ?_)
  have F := F ha2
  refine x_li32 (i := 2) rfl (fun ha3 => ?_)
  have F := F ha3
  refine x_li32 (i := 3) rfl (fun ha4 => ?_)
  have F := F ha4
  refine x_li32 (i := 4) rfl (fun ha5 => ?_)
  have F := F ha5
  refine x_li32 (i := 7) rfl (fun hx7 => ?_)
  have F := F hx7
  refine x_iload dX11_named_6 rfl ?_
  refine x_iconst dX11_named_8 rfl (i32_of rfl) ?_
  refine x_icmp_ge 86 dX11_named_9 rfl (fun hc => ?_) (fun hc => ?_)
  · have F := F.1 hc
    refine x_lload dX11_named_86 rfl ?_
    exact x_ret (some (1, x5)) rfl ⟨dX11_named_88, rfl⟩ F
  · have F := F.2 hc
    refine x_iload dX11_named_12 rfl ?_
    refine x_if_ne 21 dX11_named_14 rfl (fun hc => ?_) (fun hc => ?_)
    · have F := F.1 hc
      refine x_iload dX11_named_21 rfl ?_
      refine x_iconst dX11_named_23 rfl (i32_of rfl) ?_
      refine x_icmp_ne 31 dX11_named_24 rfl (fun hc => ?_) (fun hc => ?_)
      · have F := F.1 hc
        refine x_iload dX11_named_31 rfl ?_
        refine x_iconst dX11_named_33 rfl (i32_of rfl) ?_
        refine x_icmp_ne 41 dX11_named_34 rfl (fun hc => ?_) (fun hc => ?_)
        · have F := F.1 hc
          refine x_iload dX11_named_41 rfl ?_
          refine x_iconst dX11_named_43 rfl (i32_of rfl) ?_
          refine x_icmp_ne 51 dX11_named_44 rfl (fun hc => ?_) (fun hc => ?_)
          · have F := F.1 hc
            refine x_iload dX11_named_51 rfl ?_
            refine x_istore [(0, a1), (0, a2), (0, a3), (0, a4), (0, a5), (1, x5), (3, 0), (0, x7), (0, a5)] dX11_named_53 rfl (Nat.le_of_ble_eq_true rfl) ?_
            refine x_iload dX11_named_55 rfl ?_
            refine x_bipush dX11_named_57 kb_32 (i32_of rfl) ?_
            refine x_icmp_eq 80 dX11_named_59 rfl (fun hc => ?_) (fun hc => ?_)
            · have F := F.1 hc
              obtain ⟨hz, F⟩ := F
              refine x_iinc [(0, a1), (0, a2), (0, a3), (0, a4), (0, a5), (1, x5), (3, 0), (0, (x7 + 1)), (0, a5)] dX11_named_80 rfl rfl (Nat.le_of_ble_eq_true rfl) hz ?_
              refine x_goto 6 dX11_named_83 rfl ?_
              exact x_less [(0, a1), (0, a2), (0, a3), (0, a4), (0, a5), (1, x5), (3, 0), (0, (x7 + 1)), (3, 0)] ⟨Or.inr rfl, ⟨Or.inr rfl, ⟨Or.inr rfl, ⟨Or.inr rfl, ⟨Or.inr rfl, ⟨Or.inr rfl, ⟨Or.inr rfl, ⟨Or.inr rfl, ⟨Or.inl rfl, trivial⟩⟩⟩⟩⟩⟩⟩⟩⟩ F
            · have F := F.2 hc
              refine x_ldc2 (i := 27) 27 dX11_named_62 lcX11_175 rfl (i64_of rfl) ?_
              refine x_lload dX11_named_65 rfl ?_
              obtain ⟨hz, F⟩ := F
              refine x_lmul dX11_named_67 hz ?_
              refine x_iload dX11_named_68 rfl ?_
              refine x_i2l dX11_named_70 ?_
              obtain ⟨hz, F⟩ := F
              refine x_ladd dX11_named_71 hz ?_
              refine x_ldc2 (i := 97) 97 dX11_named_72 lcX11_177 rfl (i64_of rfl) ?_
              obtain ⟨hz, F⟩ := F
              refine x_lsub dX11_named_75 hz ?_
              refine x_lconst (i := 1) dX11_named_76 rfl (i64_of rfl) ?_
              obtain ⟨hz, F⟩ := F
              refine x_ladd dX11_named_77 hz ?_
              refine x_lstore [(0, a1), (0, a2), (0, a3), (0, a4), (0, a5), (1, ((((27 * x5) + a5) - 97) + 1)), (3, 0), (0, x7), (0, a5)] dX11_named_78 rfl (Nat.le_of_ble_eq_true rfl) ?_
              obtain ⟨hz, F⟩ := F
              refine x_iinc [(0, a1), (0, a2), (0, a3), (0, a4), (0, a5), (1, ((((27 * x5) + a5) - 97) + 1)), (3, 0), (0, (x7 + 1)), (0, a5)] dX11_named_80 rfl rfl (Nat.le_of_ble_eq_true rfl) hz ?_
              refine x_goto 6 dX11_named_83 rfl ?_
              exact x_less [(0, a1), (0, a2), (0, a3), (0, a4), (0, a5), (1, ((((27 * x5) + a5) - 97) + 1)), (3, 0), (0, (x7 + 1)), (3, 0)] ⟨Or.inr rfl, ⟨Or.inr rfl, ⟨Or.inr rfl, ⟨Or.inr rfl, ⟨Or.inr rfl, ⟨Or.inr rfl, ⟨Or.inr rfl, ⟨Or.inr rfl, ⟨Or.inl rfl, trivial⟩⟩⟩⟩⟩⟩⟩⟩⟩ F
          · have F := F.2 hc
            refine x_iload_n dX11_named_47 rfl ?_
            refine x_goto 53 dX11_named_48 rfl ?_
            refine x_istore [(0, a1), (0, a2), (0, a3), (0, a4), (0, a5), (1, x5), (3, 0), (0, x7), (0, a4)] dX11_named_53 rfl (Nat.le_of_ble_eq_true rfl) ?_
            refine x_iload dX11_named_55 rfl ?_
            refine x_bipush dX11_named_57 kb_32 (i32_of rfl) ?_
            refine x_icmp_eq 80 dX11_named_59 rfl (fun hc => ?_) (fun hc => ?_)
            · have F := F.1 hc
              obtain ⟨hz, F⟩ := F
              refine x_iinc [(0, a1), (0, a2), (0, a3), (0, a4), (0, a5), (1, x5), (3, 0), (0, (x7 + 1)), (0, a4)] dX11_named_80 rfl rfl (Nat.le_of_ble_eq_true rfl) hz ?_
              refine x_goto 6 dX11_named_83 rfl ?_
              exact x_less [(0, a1), (0, a2), (0, a3), (0, a4), (0, a5), (1, x5), (3, 0), (0, (x7 + 1)), (3, 0)] ⟨Or.inr rfl, ⟨Or.inr rfl, ⟨Or.inr rfl, ⟨Or.inr rfl, ⟨Or.inr rfl, ⟨Or.inr rfl, ⟨Or.inr rfl, ⟨Or.inr rfl, ⟨Or.inl rfl, trivial⟩⟩⟩⟩⟩⟩⟩⟩⟩ F
            · have F := F.2 hc
              refine x_ldc2 (i := 27) 27 dX11_named_62 lcX11_175 rfl (i64_of rfl) ?_
              refine x_lload dX11_named_65 rfl ?_
              obtain ⟨hz, F⟩ := F
              refine x_lmul dX11_named_67 hz ?_
              refine x_iload dX11_named_68 rfl ?_
              refine x_i2l dX11_named_70 ?_
              obtain ⟨hz, F⟩ := F
              refine x_ladd dX11_named_71 hz ?_
              refine x_ldc2 (i := 97) 97 dX11_named_72 lcX11_177 rfl (i64_of rfl) ?_
              obtain ⟨hz, F⟩ := F
              refine x_lsub dX11_named_75 hz ?_
              refine x_lconst (i := 1) dX11_named_76 rfl (i64_of rfl) ?_
              obtain ⟨hz, F⟩ := F
              refine x_ladd dX11_named_77 hz ?_
              refine x_lstore [(0, a1), (0, a2), (0, a3), (0, a4), (0, a5), (1, ((((27 * x5) + a4) - 97) + 1)), (3, 0), (0, x7), (0, a4)] dX11_named_78 rfl (Nat.le_of_ble_eq_true rfl) ?_
              obtain ⟨hz, F⟩ := F
              refine x_iinc [(0, a1), (0, a2), (0, a3), (0, a4), (0, a5), (1, ((((27 * x5) + a4) - 97) + 1)), (3, 0), (0, (x7 + 1)), (0, a4)] dX11_named_80 rfl rfl (Nat.le_of_ble_eq_true rfl) hz ?_
              refine x_goto 6 dX11_named_83 rfl ?_
              exact x_less [(0, a1), (0, a2), (0, a3), (0, a4), (0, a5), (1, ((((27 * x5) + a4) - 97) + 1)), (3, 0), (0, (x7 + 1)), (3, 0)] ⟨Or.inr rfl, ⟨Or.inr rfl, ⟨Or.inr rfl, ⟨Or.inr rfl, ⟨Or.inr rfl, ⟨Or.inr rfl, ⟨Or.inr rfl, ⟨Or.inr rfl, ⟨Or.inl rfl, trivial⟩⟩⟩⟩⟩⟩⟩⟩⟩ F
        · have F := F.2 hc
          refine x_iload_n dX11_named_37 rfl ?_
          refine x_goto 53 dX11_named_38 rfl ?_
          refine x_istore [(0, a1), (0, a2), (0, a3), (0, a4), (0, a5), (1, x5), (3, 0), (0, x7), (0, a3)] dX11_named_53 rfl (Nat.le_of_ble_eq_true rfl) ?_
          refine x_iload dX11_named_55 rfl ?_
          refine x_bipush dX11_named_57 kb_32 (i32_of rfl) ?_
          refine x_icmp_eq 80 dX11_named_59 rfl (fun hc => ?_) (fun hc => ?_)
          · have F := F.1 hc
            obtain ⟨hz, F⟩ := F
            refine x_iinc [(0, a1), (0, a2), (0, a3), (0, a4), (0, a5), (1, x5), (3, 0), (0, (x7 + 1)), (0, a3)] dX11_named_80 rfl rfl (Nat.le_of_ble_eq_true rfl) hz ?_
            refine x_goto 6 dX11_named_83 rfl ?_
            exact x_less [(0, a1), (0, a2), (0, a3), (0, a4), (0, a5), (1, x5), (3, 0), (0, (x7 + 1)), (3, 0)] ⟨Or.inr rfl, ⟨Or.inr rfl, ⟨Or.inr rfl, ⟨Or.inr rfl, ⟨Or.inr rfl, ⟨Or.inr rfl, ⟨Or.inr rfl, ⟨Or.inr rfl, ⟨Or.inl rfl, trivial⟩⟩⟩⟩⟩⟩⟩⟩⟩ F
          · have F := F.2 hc
            refine x_ldc2 (i := 27) 27 dX11_named_62 lcX11_175 rfl (i64_of rfl) ?_
            refine x_lload dX11_named_65 rfl ?_
            obtain ⟨hz, F⟩ := F
            refine x_lmul dX11_named_67 hz ?_
            refine x_iload dX11_named_68 rfl ?_
            refine x_i2l dX11_named_70 ?_
            obtain ⟨hz, F⟩ := F
            refine x_ladd dX11_named_71 hz ?_
            refine x_ldc2 (i := 97) 97 dX11_named_72 lcX11_177 rfl (i64_of rfl) ?_
            obtain ⟨hz, F⟩ := F
            refine x_lsub dX11_named_75 hz ?_
            refine x_lconst (i := 1) dX11_named_76 rfl (i64_of rfl) ?_
            obtain ⟨hz, F⟩ := F
            refine x_ladd dX11_named_77 hz ?_
            refine x_lstore [(0, a1), (0, a2), (0, a3), (0, a4), (0, a5), (1, ((((27 * x5) + a3) - 97) + 1)), (3, 0), (0, x7), (0, a3)] dX11_named_78 rfl (Nat.le_of_ble_eq_true rfl) ?_
            obtain ⟨hz, F⟩ := F
            refine x_iinc [(0, a1), (0, a2), (0, a3), (0, a4), (0, a5), (1, ((((27 * x5) + a3) - 97) + 1)), (3, 0), (0, (x7 + 1)), (0, a3)] dX11_named_80 rfl rfl (Nat.le_of_ble_eq_true rfl) hz ?_
            refine x_goto 6 dX11_named_83 rfl ?_
            exact x_less [(0, a1), (0, a2), (0, a3), (0, a4), (0, a5), (1, ((((27 * x5) + a3) - 97) + 1)), (3, 0), (0, (x7 + 1)), (3, 0)] ⟨Or.inr rfl, ⟨Or.inr rfl, ⟨Or.inr rfl, ⟨Or.inr rfl, ⟨Or.inr rfl, ⟨Or.inr rfl, ⟨Or.inr rfl, ⟨Or.inr rfl, ⟨Or.inl rfl, trivial⟩⟩⟩⟩⟩⟩⟩⟩⟩ F
      · have F := F.2 hc
        refine x_iload_n dX11_named_27 rfl ?_
        refine x_goto 53 dX11_named_28 rfl ?_
        refine x_istore [(0, a1), (0, a2), (0, a3), (0, a4), (0, a5), (1, x5), (3, 0), (0, x7), (0, a2)] dX11_named_53 rfl (Nat.le_of_ble_eq_true rfl) ?_
        refine x_iload dX11_named_55 rfl ?_
        refine x_bipush dX11_named_57 kb_32 (i32_of rfl) ?_
        refine x_icmp_eq 80 dX11_named_59 rfl (fun hc => ?_) (fun hc => ?_)
        · have F := F.1 hc
          obtain ⟨hz, F⟩ := F
          refine x_iinc [(0, a1), (0, a2), (0, a3), (0, a4), (0, a5), (1, x5), (3, 0), (0, (x7 + 1)), (0, a2)] dX11_named_80 rfl rfl (Nat.le_of_ble_eq_true rfl) hz ?_
          refine x_goto 6 dX11_named_83 rfl ?_
          exact x_less [(0, a1), (0, a2), (0, a3), (0, a4), (0, a5), (1, x5), (3, 0), (0, (x7 + 1)), (3, 0)] ⟨Or.inr rfl, ⟨Or.inr rfl, ⟨Or.inr rfl, ⟨Or.inr rfl, ⟨Or.inr rfl, ⟨Or.inr rfl, ⟨Or.inr rfl, ⟨Or.inr rfl, ⟨Or.inl rfl, trivial⟩⟩⟩⟩⟩⟩⟩⟩⟩ F
        · have F := F.2 hc
          refine x_ldc2 (i := 27) 27 dX11_named_62 lcX11_175 rfl (i64_of rfl) ?_
          refine x_lload dX11_named_65 rfl ?_
          obtain ⟨hz, F⟩ := F
          refine x_lmul dX11_named_67 hz ?_
          refine x_iload dX11_named_68 rfl ?_
          refine x_i2l dX11_named_70 ?_
          obtain ⟨hz, F⟩ := F
          refine x_ladd dX11_named_71 hz ?_
          refine x_ldc2 (i := 97) 97 dX11_named_72 lcX11_177 rfl (i64_of rfl) ?_
          obtain ⟨hz, F⟩ := F
          refine x_lsub dX11_named_75 hz ?_
          refine x_lconst (i := 1) dX11_named_76 rfl (i64_of rfl) ?_
          obtain ⟨hz, F⟩ := F
          refine x_ladd dX11_named_77 hz ?_
          refine x_lstore [(0, a1), (0, a2), (0, a3), (0, a4), (0, a5), (1, ((((27 * x5) + a2) - 97) + 1)), (3, 0), (0, x7), (0, a2)] dX11_named_78 rfl (Nat.le_of_ble_eq_true rfl) ?_
          obtain ⟨hz, F⟩ := F
          refine x_iinc [(0, a1), (0, a2), (0, a3), (0, a4), (0, a5), (1, ((((27 * x5) + a2) - 97) + 1)), (3, 0), (0, (x7 + 1)), (0, a2)] dX11_named_80 rfl rfl (Nat.le_of_ble_eq_true rfl) hz ?_
          refine x_goto 6 dX11_named_83 rfl ?_
          exact x_less [(0, a1), (0, a2), (0, a3), (0, a4), (0, a5), (1, ((((27 * x5) + a2) - 97) + 1)), (3, 0), (0, (x7 + 1)), (3, 0)] ⟨Or.inr rfl, ⟨Or.inr rfl, ⟨Or.inr rfl, ⟨Or.inr rfl, ⟨Or.inr rfl, ⟨Or.inr rfl, ⟨Or.inr rfl, ⟨Or.inr rfl, ⟨Or.inl rfl, trivial⟩⟩⟩⟩⟩⟩⟩⟩⟩ F
    · have F := F.2 hc
      refine x_iload_n dX11_named_17 rfl ?_
      refine x_goto 53 dX11_named_18 rfl ?_
      refine x_istore [(0, a1), (0, a2), (0, a3), (0, a4), (0, a5), (1, x5), (3, 0), (0, x7), (0, a1)] dX11_named_53 rfl (Nat.le_of_ble_eq_true rfl) ?_
      refine x_iload dX11_named_55 rfl ?_
      refine x_bipush dX11_named_57 kb_32 (i32_of rfl) ?_
      refine x_icmp_eq 80 dX11_named_59 rfl (fun hc => ?_) (fun hc => ?_)
      · have F := F.1 hc
        obtain ⟨hz, F⟩ := F
        refine x_iinc [(0, a1), (0, a2), (0, a3), (0, a4), (0, a5), (1, x5), (3, 0), (0, (x7 + 1)), (0, a1)] dX11_named_80 rfl rfl (Nat.le_of_ble_eq_true rfl) hz ?_
        refine x_goto 6 dX11_named_83 rfl ?_
        exact x_less [(0, a1), (0, a2), (0, a3), (0, a4), (0, a5), (1, x5), (3, 0), (0, (x7 + 1)), (3, 0)] ⟨Or.inr rfl, ⟨Or.inr rfl, ⟨Or.inr rfl, ⟨Or.inr rfl, ⟨Or.inr rfl, ⟨Or.inr rfl, ⟨Or.inr rfl, ⟨Or.inr rfl, ⟨Or.inl rfl, trivial⟩⟩⟩⟩⟩⟩⟩⟩⟩ F
      · have F := F.2 hc
        refine x_ldc2 (i := 27) 27 dX11_named_62 lcX11_175 rfl (i64_of rfl) ?_
        refine x_lload dX11_named_65 rfl ?_
        obtain ⟨hz, F⟩ := F
        refine x_lmul dX11_named_67 hz ?_
        refine x_iload dX11_named_68 rfl ?_
        refine x_i2l dX11_named_70 ?_
        obtain ⟨hz, F⟩ := F
        refine x_ladd dX11_named_71 hz ?_
        refine x_ldc2 (i := 97) 97 dX11_named_72 lcX11_177 rfl (i64_of rfl) ?_
        obtain ⟨hz, F⟩ := F
        refine x_lsub dX11_named_75 hz ?_
        refine x_lconst (i := 1) dX11_named_76 rfl (i64_of rfl) ?_
        obtain ⟨hz, F⟩ := F
        refine x_ladd dX11_named_77 hz ?_
        refine x_lstore [(0, a1), (0, a2), (0, a3), (0, a4), (0, a5), (1, ((((27 * x5) + a1) - 97) + 1)), (3, 0), (0, x7), (0, a1)] dX11_named_78 rfl (Nat.le_of_ble_eq_true rfl) ?_
        obtain ⟨hz, F⟩ := F
        refine x_iinc [(0, a1), (0, a2), (0, a3), (0, a4), (0, a5), (1, ((((27 * x5) + a1) - 97) + 1)), (3, 0), (0, (x7 + 1)), (0, a1)] dX11_named_80 rfl rfl (Nat.le_of_ble_eq_true rfl) hz ?_
        refine x_goto 6 dX11_named_83 rfl ?_
        exact x_less [(0, a1), (0, a2), (0, a3), (0, a4), (0, a5), (1, ((((27 * x5) + a1) - 97) + 1)), (3, 0), (0, (x7 + 1)), (3, 0)] ⟨Or.inr rfl, ⟨Or.inr rfl, ⟨Or.inr rfl, ⟨Or.inr rfl, ⟨Or.inr rfl, ⟨Or.inr rfl, ⟨Or.inr rfl, ⟨Or.inr rfl, ⟨Or.inl rfl, trivial⟩⟩⟩⟩⟩⟩⟩⟩⟩ F

def nmS (x a : Int) : Int := if a = 32 then x else 27 * x + a - 97 + 1
theorem nmS_bd {x a B : Int} (ha : a = 32 ∨ (97 ≤ a ∧ a ≤ 122)) (hx : 0 ≤ x ∧ x ≤ B) : 0 ≤ nmS x a ∧ nmS x a ≤ 27 * B + 26 := by
  unfold nmS
  split <;> omega
theorem nmS_y {x a : Int} (h : a = 32) : nmS x a = x := if_pos h
theorem nmS_n {x a : Int} (h : ¬ a = 32) : nmS x a = 27 * x + a - 97 + 1 := if_neg h
set_option maxRecDepth 100000 in
set_option maxHeartbeats 4000000 in
theorem c_nmc {X : XX} {v : VV} (a1 a2 a3 a4 a5 W : Int) (ha1 : a1 = 32 ∨ (97 ≤ a1 ∧ a1 ≤ 122)) (ha2 : a2 = 32 ∨ (97 ≤ a2 ∧ a2 ≤ 122)) (ha3 : a3 = 32 ∨ (97 ≤ a3 ∧ a3 ≤ 122)) (ha4 : a4 = 32 ∨ (97 ≤ a4 ∧ a4 ≤ 122)) (ha5 : a5 = 32 ∨ (97 ≤ a5 ∧ a5 ≤ 122)) (hW : (nmS (nmS (nmS (nmS (nmS 0 a1) a2) a3) a4) a5) = W) : Con mX11_named 0 0 0 [(0, a1), (0, a2), (0, a3), (0, a4), (0, a5)] X v (fun o X1 v1 => X1 = X ∧ v1 = v ∧ o = some (1, W)) := by
  have s5 : ∀ x : Int, x = W → Ex mX11_named 0 6 [(0, a1), (0, a2), (0, a3), (0, a4), (0, a5), (1, x), (3, 0), (0, 5), (3, 0)] [] X v 0 0 (fun o X1 v1 => X1 = X ∧ v1 = v ∧ o = some (1, W)) := fun x hx => bN_named_6 a1 a2 a3 a4 a5 x 5 (Nat.le_refl _) (fun _ _ _ _ _ _ => ⟨fun _ => ⟨rfl, rfl, by rw [hx]⟩, fun g => absurd g (by decide)⟩)
  have s4 : ∀ x : Int, (0 ≤ x ∧ x ≤ 531440) → (nmS x a5) = W → Ex mX11_named 0 6 [(0, a1), (0, a2), (0, a3), (0, a4), (0, a5), (1, x), (3, 0), (0, 4), (3, 0)] [] X v 0 0 (fun o X1 v1 => X1 = X ∧ v1 = v ∧ o = some (1, W)) := fun x hx hq => by
    have hb := nmS_bd ha5 hx
    exact bN_named_6 a1 a2 a3 a4 a5 x 4 (Nat.le_refl _) (fun _ _ _ _ _ _ => ⟨fun g => absurd g (by decide), fun _ => ⟨fun _ => ⟨fun _ => ⟨fun _ => ⟨fun _ => ⟨fun e => ⟨⟨by decide, by decide⟩, s5 x (by rw [nmS_y e] at hq; exact hq)⟩, fun e => ⟨⟨by omega, by omega⟩, ⟨by omega, by omega⟩, ⟨by omega, by omega⟩, ⟨by omega, by omega⟩, ⟨by decide, by decide⟩, s5 _ (by rw [nmS_n e] at hq; exact hq)⟩⟩, fun g => absurd g (by decide)⟩, fun g => absurd g (by decide)⟩, fun g => absurd g (by decide)⟩, fun g => absurd g (by decide)⟩⟩)
  have s3 : ∀ x : Int, (0 ≤ x ∧ x ≤ 19682) → (nmS (nmS x a4) a5) = W → Ex mX11_named 0 6 [(0, a1), (0, a2), (0, a3), (0, a4), (0, a5), (1, x), (3, 0), (0, 3), (3, 0)] [] X v 0 0 (fun o X1 v1 => X1 = X ∧ v1 = v ∧ o = some (1, W)) := fun x hx hq => by
    have hb := nmS_bd ha4 hx
    exact bN_named_6 a1 a2 a3 a4 a5 x 3 (Nat.le_refl _) (fun _ _ _ _ _ _ => ⟨fun g => absurd g (by decide), fun _ => ⟨fun _ => ⟨fun _ => ⟨fun _ => ⟨fun g => absurd rfl g, fun _ => ⟨fun e => ⟨⟨by decide, by decide⟩, s4 x ⟨by omega, by omega⟩ (by rw [nmS_y e] at hq; exact hq)⟩, fun e => ⟨⟨by omega, by omega⟩, ⟨by omega, by omega⟩, ⟨by omega, by omega⟩, ⟨by omega, by omega⟩, ⟨by decide, by decide⟩, s4 _ (by rw [nmS_n e] at hb; exact ⟨by omega, by omega⟩) (by rw [nmS_n e] at hq; exact hq)⟩⟩⟩, fun g => absurd g (by decide)⟩, fun g => absurd g (by decide)⟩, fun g => absurd g (by decide)⟩⟩)
  have s2 : ∀ x : Int, (0 ≤ x ∧ x ≤ 728) → (nmS (nmS (nmS x a3) a4) a5) = W → Ex mX11_named 0 6 [(0, a1), (0, a2), (0, a3), (0, a4), (0, a5), (1, x), (3, 0), (0, 2), (3, 0)] [] X v 0 0 (fun o X1 v1 => X1 = X ∧ v1 = v ∧ o = some (1, W)) := fun x hx hq => by
    have hb := nmS_bd ha3 hx
    exact bN_named_6 a1 a2 a3 a4 a5 x 2 (Nat.le_refl _) (fun _ _ _ _ _ _ => ⟨fun g => absurd g (by decide), fun _ => ⟨fun _ => ⟨fun _ => ⟨fun g => absurd rfl g, fun _ => ⟨fun e => ⟨⟨by decide, by decide⟩, s3 x ⟨by omega, by omega⟩ (by rw [nmS_y e] at hq; exact hq)⟩, fun e => ⟨⟨by omega, by omega⟩, ⟨by omega, by omega⟩, ⟨by omega, by omega⟩, ⟨by omega, by omega⟩, ⟨by decide, by decide⟩, s3 _ (by rw [nmS_n e] at hb; exact ⟨by omega, by omega⟩) (by rw [nmS_n e] at hq; exact hq)⟩⟩⟩, fun g => absurd g (by decide)⟩, fun g => absurd g (by decide)⟩⟩)
  have s1 : ∀ x : Int, (0 ≤ x ∧ x ≤ 26) → (nmS (nmS (nmS (nmS x a2) a3) a4) a5) = W → Ex mX11_named 0 6 [(0, a1), (0, a2), (0, a3), (0, a4), (0, a5), (1, x), (3, 0), (0, 1), (3, 0)] [] X v 0 0 (fun o X1 v1 => X1 = X ∧ v1 = v ∧ o = some (1, W)) := fun x hx hq => by
    have hb := nmS_bd ha2 hx
    exact bN_named_6 a1 a2 a3 a4 a5 x 1 (Nat.le_refl _) (fun _ _ _ _ _ _ => ⟨fun g => absurd g (by decide), fun _ => ⟨fun _ => ⟨fun g => absurd rfl g, fun _ => ⟨fun e => ⟨⟨by decide, by decide⟩, s2 x ⟨by omega, by omega⟩ (by rw [nmS_y e] at hq; exact hq)⟩, fun e => ⟨⟨by omega, by omega⟩, ⟨by omega, by omega⟩, ⟨by omega, by omega⟩, ⟨by omega, by omega⟩, ⟨by decide, by decide⟩, s2 _ (by rw [nmS_n e] at hb; exact ⟨by omega, by omega⟩) (by rw [nmS_n e] at hq; exact hq)⟩⟩⟩, fun g => absurd g (by decide)⟩⟩)
  have s0 : ∀ x : Int, (0 ≤ x ∧ x ≤ 0) → (nmS (nmS (nmS (nmS (nmS x a1) a2) a3) a4) a5) = W → Ex mX11_named 0 6 [(0, a1), (0, a2), (0, a3), (0, a4), (0, a5), (1, x), (3, 0), (0, 0), (3, 0)] [] X v 0 0 (fun o X1 v1 => X1 = X ∧ v1 = v ∧ o = some (1, W)) := fun x hx hq => by
    have hb := nmS_bd ha1 hx
    exact bN_named_6 a1 a2 a3 a4 a5 x 0 (Nat.le_refl _) (fun _ _ _ _ _ _ => ⟨fun g => absurd g (by decide), fun _ => ⟨fun g => absurd rfl g, fun _ => ⟨fun e => ⟨⟨by decide, by decide⟩, s1 x ⟨by omega, by omega⟩ (by rw [nmS_y e] at hq; exact hq)⟩, fun e => ⟨⟨by omega, by omega⟩, ⟨by omega, by omega⟩, ⟨by omega, by omega⟩, ⟨by omega, by omega⟩, ⟨by decide, by decide⟩, s1 _ (by rw [nmS_n e] at hb; exact ⟨by omega, by omega⟩) (by rw [nmS_n e] at hq; exact hq)⟩⟩⟩⟩)
  refine Con.of (by decide +kernel) (fun a ha => ?_) (Nat.le_of_ble_eq_true rfl) ?_
  · simp only [List.mem_cons, List.mem_nil_iff, or_false] at ha
    rcases ha with rfl | rfl | rfl | rfl | rfl <;> exact Nat.le_of_ble_eq_true rfl
  exact bN_named_0 a1 a2 a3 a4 a5 (Nat.le_refl _) (fun _ _ _ _ _ => s0 0 ⟨Int.le_refl _, Int.le_refl _⟩ hW)
theorem kb_101 : (Int8.ofInt (101)).toInt32 = Int32.ofInt (101) := by decide +kernel
theorem kb_102 : (Int8.ofInt (102)).toInt32 = Int32.ofInt (102) := by decide +kernel
theorem kb_104 : (Int8.ofInt (104)).toInt32 = Int32.ofInt (104) := by decide +kernel
theorem kb_105 : (Int8.ofInt (105)).toInt32 = Int32.ofInt (105) := by decide +kernel
theorem kb_108 : (Int8.ofInt (108)).toInt32 = Int32.ofInt (108) := by decide +kernel
theorem kb_109 : (Int8.ofInt (109)).toInt32 = Int32.ofInt (109) := by decide +kernel
theorem kb_111 : (Int8.ofInt (111)).toInt32 = Int32.ofInt (111) := by decide +kernel
theorem kb_112 : (Int8.ofInt (112)).toInt32 = Int32.ofInt (112) := by decide +kernel
theorem kb_114 : (Int8.ofInt (114)).toInt32 = Int32.ofInt (114) := by decide +kernel
theorem kb_115 : (Int8.ofInt (115)).toInt32 = Int32.ofInt (115) := by decide +kernel
theorem kb_118 : (Int8.ofInt (118)).toInt32 = Int32.ofInt (118) := by decide +kernel
theorem kb_119 : (Int8.ofInt (119)).toInt32 = Int32.ofInt (119) := by decide +kernel
theorem kb_121 : (Int8.ofInt (121)).toInt32 = Int32.ofInt (121) := by decide +kernel
theorem kb_17 : (Int8.ofInt (17)).toInt32 = Int32.ofInt (17) := by decide +kernel
theorem kb_51 : (Int8.ofInt (51)).toInt32 = Int32.ofInt (51) := by decide +kernel
theorem kb_98 : (Int8.ofInt (98)).toInt32 = Int32.ofInt (98) := by decide +kernel
theorem kb_99 : (Int8.ofInt (99)).toInt32 = Int32.ofInt (99) := by decide +kernel
theorem ks_140 : (Int16.ofInt (140)).toInt32 = Int32.ofInt (140) := by decide +kernel
theorem ks_6800 : (Int16.ofInt (6800)).toInt32 = Int32.ofInt (6800) := by decide +kernel
set_option maxRecDepth 100000 in
set_option maxHeartbeats 4000000 in
theorem iX11_47 {X : XX} {v : VV} {R : List (Int × Int × Int)} (h : St X 48 R) (hz : ∀ r j : Int, 48 ≤ r → v r j = 0) : Con mX11_init 1 39 29154 [(2, 47)] X v (fun _ Y w => St Y 87 (putR 47 66 86 (putR 47 63 85 (putR 47 62 84 (putR 47 61 83 (putR 47 60 82 (putR 47 58 81 (putR 47 56 80 (putR 47 55 79 (putR 47 54 78 (putR 47 53 77 (putR 47 49 76 (putR 47 48 75 (putR 47 47 74 (putR 47 46 73 (putR 47 45 72 (putR 47 44 71 (putR 47 43 70 (putR 47 40 69 (putR 47 21 68 (putR 47 20 67 (putR 47 19 66 (putR 47 18 65 (putR 47 17 64 (putR 47 16 63 (putR 47 15 62 (putR 47 14 61 (putR 47 13 60 (putR 47 12 59 (putR 47 11 58 (putR 47 10 57 (putR 47 9 56 (putR 47 8 55 (putR 47 7 54 (putR 47 6 53 (putR 47 5 52 (putR 47 4 51 (putR 47 3 50 (putR 47 2 49 (putR 47 1 48 R))))))))))))))))))))))))))))))))))))))) ∧ w = (upd2 (upd2 (upd2 (upd2 (upd2 (upd2 (upd2 (upd2 v 47 28 (-1)) 47 33 439745) 47 34 70441) 47 35 10650290) 47 36 131638) 47 37 12384743) 47 38 8897) 47 39 14409)) := by
  refine Con.of (by decide +kernel) (fun a ha => ?_) (Nat.le_of_ble_eq_true rfl) ?_
  · rw [List.mem_singleton.mp ha]; exact Nat.le_of_ble_eq_true rfl
  show Ex mX11_init 1 0 [(2, 47)] [] X v 39 29154 _
  refine x_aload_n dX11_init_0 rfl ?_
  refine x_objInit dX11_init_1 mlX11_1 (by decide) (by decide) (Nat.le_of_ble_eq_true rfl) ?_
  refine i_arr (pc := 4) (L := 2) (nn := 17) (ki := 102) (n := 48) 47 h (fun r j hr => hz r j (by omega)) (by decide) dX11_init_4 dX11_init_7 dX11_init_9 rfl (fun _ _ _ _ q => x_bipush dX11_init_5 kb_17 (i32_of rfl) q) (Or.inr (Or.inr ⟨rfl, rfl⟩)) ac_boolean fwX11_7 (ln := 0) rfl rfl (Nat.le_of_ble_eq_true rfl) rfl (Or.inr ⟨_, rfl⟩) (by decide) rfl (by decide) (by omega) (by omega) (fun X1 h1 => ?_)
  refine i_arr (pc := 12) (L := 2) (nn := 17) (ki := 101) (n := 49) 47 h1 (fun r j hr => hz r j (by omega)) (by decide) dX11_init_12 dX11_init_15 dX11_init_17 rfl (fun _ _ _ _ q => x_bipush dX11_init_13 kb_17 (i32_of rfl) q) (Or.inr (Or.inl ⟨rfl, rfl⟩)) ac_long fwX11_13 (ln := 0) rfl rfl (Nat.le_of_ble_eq_true rfl) rfl (Or.inr ⟨_, rfl⟩) (by decide) rfl (by decide) (by omega) (by omega) (fun X2 h2 => ?_)
  refine i_arr (pc := 20) (L := 2) (nn := 17) (ki := 100) (n := 50) 47 h2 (fun r j hr => hz r j (by omega)) (by decide) dX11_init_20 dX11_init_23 dX11_init_25 rfl (fun _ _ _ _ q => x_bipush dX11_init_21 kb_17 (i32_of rfl) q) (Or.inl ⟨rfl, rfl⟩) ac_int fwX11_17 (ln := 0) rfl rfl (Nat.le_of_ble_eq_true rfl) rfl (Or.inr ⟨_, rfl⟩) (by decide) rfl (by decide) (by omega) (by omega) (fun X3 h3 => ?_)
  refine i_arr (pc := 28) (L := 2) (nn := 17) (ki := 100) (n := 51) 47 h3 (fun r j hr => hz r j (by omega)) (by decide) dX11_init_28 dX11_init_31 dX11_init_33 rfl (fun _ _ _ _ q => x_bipush dX11_init_29 kb_17 (i32_of rfl) q) (Or.inl ⟨rfl, rfl⟩) ac_int fwX11_21 (ln := 0) rfl rfl (Nat.le_of_ble_eq_true rfl) rfl (Or.inr ⟨_, rfl⟩) (by decide) rfl (by decide) (by omega) (by omega) (fun X4 h4 => ?_)
  refine i_arr (pc := 36) (L := 3) (nn := 136) (ki := 101) (n := 52) 47 h4 (fun r j hr => hz r j (by omega)) (by decide) dX11_init_36 dX11_init_40 dX11_init_42 rfl (fun _ _ _ _ q => x_sipush dX11_init_37 ks_136 (i32_of rfl) q) (Or.inr (Or.inl ⟨rfl, rfl⟩)) ac_long fwX11_24 (ln := 0) rfl rfl (Nat.le_of_ble_eq_true rfl) rfl (Or.inr ⟨_, rfl⟩) (by decide) rfl (by decide) (by omega) (by omega) (fun X5 h5 => ?_)
  refine i_arr (pc := 45) (L := 3) (nn := 136) (ki := 100) (n := 53) 47 h5 (fun r j hr => hz r j (by omega)) (by decide) dX11_init_45 dX11_init_49 dX11_init_51 rfl (fun _ _ _ _ q => x_sipush dX11_init_46 ks_136 (i32_of rfl) q) (Or.inl ⟨rfl, rfl⟩) ac_int fwX11_27 (ln := 0) rfl rfl (Nat.le_of_ble_eq_true rfl) rfl (Or.inr ⟨_, rfl⟩) (by decide) rfl (by decide) (by omega) (by omega) (fun X6 h6 => ?_)
  refine i_arr (pc := 54) (L := 2) (nn := 17) (ki := 100) (n := 54) 47 h6 (fun r j hr => hz r j (by omega)) (by decide) dX11_init_54 dX11_init_57 dX11_init_59 rfl (fun _ _ _ _ q => x_bipush dX11_init_55 kb_17 (i32_of rfl) q) (Or.inl ⟨rfl, rfl⟩) ac_int fwX11_30 (ln := 0) rfl rfl (Nat.le_of_ble_eq_true rfl) rfl (Or.inr ⟨_, rfl⟩) (by decide) rfl (by decide) (by omega) (by omega) (fun X7 h7 => ?_)
  refine i_arr (pc := 62) (L := 2) (nn := 51) (ki := 100) (n := 55) 47 h7 (fun r j hr => hz r j (by omega)) (by decide) dX11_init_62 dX11_init_65 dX11_init_67 rfl (fun _ _ _ _ q => x_bipush dX11_init_63 kb_51 (i32_of rfl) q) (Or.inl ⟨rfl, rfl⟩) ac_int fwX11_33 (ln := 0) rfl rfl (Nat.le_of_ble_eq_true rfl) rfl (Or.inr ⟨_, rfl⟩) (by decide) rfl (by decide) (by omega) (by omega) (fun X8 h8 => ?_)
  refine i_arr (pc := 70) (L := 2) (nn := 17) (ki := 100) (n := 56) 47 h8 (fun r j hr => hz r j (by omega)) (by decide) dX11_init_70 dX11_init_73 dX11_init_75 rfl (fun _ _ _ _ q => x_bipush dX11_init_71 kb_17 (i32_of rfl) q) (Or.inl ⟨rfl, rfl⟩) ac_int fwX11_36 (ln := 0) rfl rfl (Nat.le_of_ble_eq_true rfl) rfl (Or.inr ⟨_, rfl⟩) (by decide) rfl (by decide) (by omega) (by omega) (fun X9 h9 => ?_)
  refine i_arr (pc := 78) (L := 2) (nn := 17) (ki := 100) (n := 57) 47 h9 (fun r j hr => hz r j (by omega)) (by decide) dX11_init_78 dX11_init_81 dX11_init_83 rfl (fun _ _ _ _ q => x_bipush dX11_init_79 kb_17 (i32_of rfl) q) (Or.inl ⟨rfl, rfl⟩) ac_int fwX11_39 (ln := 0) rfl rfl (Nat.le_of_ble_eq_true rfl) rfl (Or.inr ⟨_, rfl⟩) (by decide) rfl (by decide) (by omega) (by omega) (fun X10 h10 => ?_)
  refine i_arr (pc := 86) (L := 2) (nn := 17) (ki := 100) (n := 58) 47 h10 (fun r j hr => hz r j (by omega)) (by decide) dX11_init_86 dX11_init_89 dX11_init_91 rfl (fun _ _ _ _ q => x_bipush dX11_init_87 kb_17 (i32_of rfl) q) (Or.inl ⟨rfl, rfl⟩) ac_int fwX11_42 (ln := 0) rfl rfl (Nat.le_of_ble_eq_true rfl) rfl (Or.inr ⟨_, rfl⟩) (by decide) rfl (by decide) (by omega) (by omega) (fun X11 h11 => ?_)
  refine i_arr (pc := 94) (L := 2) (nn := 17) (ki := 100) (n := 59) 47 h11 (fun r j hr => hz r j (by omega)) (by decide) dX11_init_94 dX11_init_97 dX11_init_99 rfl (fun _ _ _ _ q => x_bipush dX11_init_95 kb_17 (i32_of rfl) q) (Or.inl ⟨rfl, rfl⟩) ac_int fwX11_45 (ln := 0) rfl rfl (Nat.le_of_ble_eq_true rfl) rfl (Or.inr ⟨_, rfl⟩) (by decide) rfl (by decide) (by omega) (by omega) (fun X12 h12 => ?_)
  refine i_arr (pc := 102) (L := 2) (nn := 17) (ki := 100) (n := 60) 47 h12 (fun r j hr => hz r j (by omega)) (by decide) dX11_init_102 dX11_init_105 dX11_init_107 rfl (fun _ _ _ _ q => x_bipush dX11_init_103 kb_17 (i32_of rfl) q) (Or.inl ⟨rfl, rfl⟩) ac_int fwX11_48 (ln := 0) rfl rfl (Nat.le_of_ble_eq_true rfl) rfl (Or.inr ⟨_, rfl⟩) (by decide) rfl (by decide) (by omega) (by omega) (fun X13 h13 => ?_)
  refine i_arr (pc := 110) (L := 3) (nn := 6800) (ki := 100) (n := 61) 47 h13 (fun r j hr => hz r j (by omega)) (by decide) dX11_init_110 dX11_init_114 dX11_init_116 rfl (fun _ _ _ _ q => x_sipush dX11_init_111 ks_6800 (i32_of rfl) q) (Or.inl ⟨rfl, rfl⟩) ac_int fwX11_51 (ln := 0) rfl rfl (Nat.le_of_ble_eq_true rfl) rfl (Or.inr ⟨_, rfl⟩) (by decide) rfl (by decide) (by omega) (by omega) (fun X14 h14 => ?_)
  refine i_arr (pc := 119) (L := 3) (nn := 6800) (ki := 100) (n := 62) 47 h14 (fun r j hr => hz r j (by omega)) (by decide) dX11_init_119 dX11_init_123 dX11_init_125 rfl (fun _ _ _ _ q => x_sipush dX11_init_120 ks_6800 (i32_of rfl) q) (Or.inl ⟨rfl, rfl⟩) ac_int fwX11_54 (ln := 0) rfl rfl (Nat.le_of_ble_eq_true rfl) rfl (Or.inr ⟨_, rfl⟩) (by decide) rfl (by decide) (by omega) (by omega) (fun X15 h15 => ?_)
  refine i_arr (pc := 128) (L := 3) (nn := 6800) (ki := 100) (n := 63) 47 h15 (fun r j hr => hz r j (by omega)) (by decide) dX11_init_128 dX11_init_132 dX11_init_134 rfl (fun _ _ _ _ q => x_sipush dX11_init_129 ks_6800 (i32_of rfl) q) (Or.inl ⟨rfl, rfl⟩) ac_int fwX11_57 (ln := 0) rfl rfl (Nat.le_of_ble_eq_true rfl) rfl (Or.inr ⟨_, rfl⟩) (by decide) rfl (by decide) (by omega) (by omega) (fun X16 h16 => ?_)
  refine i_arr (pc := 137) (L := 3) (nn := 6800) (ki := 100) (n := 64) 47 h16 (fun r j hr => hz r j (by omega)) (by decide) dX11_init_137 dX11_init_141 dX11_init_143 rfl (fun _ _ _ _ q => x_sipush dX11_init_138 ks_6800 (i32_of rfl) q) (Or.inl ⟨rfl, rfl⟩) ac_int fwX11_60 (ln := 0) rfl rfl (Nat.le_of_ble_eq_true rfl) rfl (Or.inr ⟨_, rfl⟩) (by decide) rfl (by decide) (by omega) (by omega) (fun X17 h17 => ?_)
  refine i_arr (pc := 146) (L := 3) (nn := 136) (ki := 100) (n := 65) 47 h17 (fun r j hr => hz r j (by omega)) (by decide) dX11_init_146 dX11_init_150 dX11_init_152 rfl (fun _ _ _ _ q => x_sipush dX11_init_147 ks_136 (i32_of rfl) q) (Or.inl ⟨rfl, rfl⟩) ac_int fwX11_63 (ln := 0) rfl rfl (Nat.le_of_ble_eq_true rfl) rfl (Or.inr ⟨_, rfl⟩) (by decide) rfl (by decide) (by omega) (by omega) (fun X18 h18 => ?_)
  refine i_arr (pc := 155) (L := 3) (nn := 136) (ki := 100) (n := 66) 47 h18 (fun r j hr => hz r j (by omega)) (by decide) dX11_init_155 dX11_init_159 dX11_init_161 rfl (fun _ _ _ _ q => x_sipush dX11_init_156 ks_136 (i32_of rfl) q) (Or.inl ⟨rfl, rfl⟩) ac_int fwX11_66 (ln := 0) rfl rfl (Nat.le_of_ble_eq_true rfl) rfl (Or.inr ⟨_, rfl⟩) (by decide) rfl (by decide) (by omega) (by omega) (fun X19 h19 => ?_)
  refine i_arr (pc := 164) (L := 2) (nn := 17) (ki := 100) (n := 67) 47 h19 (fun r j hr => hz r j (by omega)) (by decide) dX11_init_164 dX11_init_167 dX11_init_169 rfl (fun _ _ _ _ q => x_bipush dX11_init_165 kb_17 (i32_of rfl) q) (Or.inl ⟨rfl, rfl⟩) ac_int fwX11_69 (ln := 0) rfl rfl (Nat.le_of_ble_eq_true rfl) rfl (Or.inr ⟨_, rfl⟩) (by decide) rfl (by decide) (by omega) (by omega) (fun X20 h20 => ?_)
  refine i_arr (pc := 172) (L := 3) (nn := 400) (ki := 100) (n := 68) 47 h20 (fun r j hr => hz r j (by omega)) (by decide) dX11_init_172 dX11_init_176 dX11_init_178 rfl (fun _ _ _ _ q => x_sipush dX11_init_173 ks_400 (i32_of rfl) q) (Or.inl ⟨rfl, rfl⟩) ac_int fwX11_72 (ln := 0) rfl rfl (Nat.le_of_ble_eq_true rfl) rfl (Or.inr ⟨_, rfl⟩) (by decide) rfl (by decide) (by omega) (by omega) (fun X21 h21 => ?_)
  refine x_aload_n dX11_init_181 rfl ?_
  refine x_iconst dX11_init_182 rfl (i32_of rfl) ?_
  refine x_puti 0 fwX11_75 dX11_init_183 (len := 0) (h21.2.1 47 _ (by decide) rfl) ⟨by decide, by rw [h21.1]; decide⟩ (fun h => Bool.noConfusion h) (Nat.le_of_ble_eq_true rfl) rfl (Or.inl ⟨rfl, Or.inl rfl⟩) ?_
  have hz22 : ∀ r j : Int, 48 ≤ r → (upd2 v 47 28 (-1)) r j = 0 := fun r j hr => (upd2_n _ (by omega)).trans (hz r j hr)
  refine x_aload_n dX11_init_186 rfl ?_
  refine x_bipush dX11_init_187 kb_118 (i32_of rfl) ?_
  refine x_bipush dX11_init_189 kb_105 (i32_of rfl) ?_
  refine x_bipush dX11_init_191 kb_101 (i32_of rfl) ?_
  refine x_bipush dX11_init_193 kb_119 (i32_of rfl) ?_
  refine x_bipush dX11_init_195 kb_32 (i32_of rfl) ?_
  refine x_static dX11_init_197 mlX11_79 (c_nmc (X := _) (v := _) 118 105 101 119 32 439745 (by omega) (by omega) (by omega) (by omega) (by omega) (by decide +kernel)) (st := _) rfl rfl (by decide) (Nat.zero_le _) (Nat.zero_le _) (Nat.le_of_ble_eq_true rfl) (fun o23 Y23 w23 ht23 hP23 => ?_)
  obtain ⟨e1_23, e2_23, e3_23⟩ := hP23
  rw [e1_23, e2_23, e3_23]
  refine x_puti 1 fwX11_83 dX11_init_200 (len := 0) (h21.2.1 47 _ (by decide) rfl) ⟨by decide, by rw [h21.1]; decide⟩ (fun _ => rfl) (Nat.le_of_ble_eq_true rfl) rfl (Or.inr ⟨rfl, rfl⟩) ?_
  have hz23 : ∀ r j : Int, 48 ≤ r → (upd2 (upd2 v 47 28 (-1)) 47 33 439745) r j = 0 := fun r j hr => (upd2_n _ (by omega)).trans (hz22 r j hr)
  refine x_aload_n dX11_init_203 rfl ?_
  refine x_bipush dX11_init_204 kb_99 (i32_of rfl) ?_
  refine x_bipush dX11_init_206 kb_111 (i32_of rfl) ?_
  refine x_bipush dX11_init_208 kb_112 (i32_of rfl) ?_
  refine x_bipush dX11_init_210 kb_121 (i32_of rfl) ?_
  refine x_bipush dX11_init_212 kb_32 (i32_of rfl) ?_
  refine x_static dX11_init_214 mlX11_79 (c_nmc (X := _) (v := _) 99 111 112 121 32 70441 (by omega) (by omega) (by omega) (by omega) (by omega) (by decide +kernel)) (st := _) rfl rfl (by decide) (Nat.zero_le _) (Nat.zero_le _) (Nat.le_of_ble_eq_true rfl) (fun o24 Y24 w24 ht24 hP24 => ?_)
  obtain ⟨e1_24, e2_24, e3_24⟩ := hP24
  rw [e1_24, e2_24, e3_24]
  refine x_puti 1 fwX11_87 dX11_init_217 (len := 0) (h21.2.1 47 _ (by decide) rfl) ⟨by decide, by rw [h21.1]; decide⟩ (fun _ => rfl) (Nat.le_of_ble_eq_true rfl) rfl (Or.inr ⟨rfl, rfl⟩) ?_
  have hz24 : ∀ r j : Int, 48 ≤ r → (upd2 (upd2 (upd2 v 47 28 (-1)) 47 33 439745) 47 34 70441) r j = 0 := fun r j hr => (upd2_n _ (by omega)).trans (hz23 r j hr)
  refine x_aload_n dX11_init_220 rfl ?_
  refine x_bipush dX11_init_221 kb_116 (i32_of rfl) ?_
  refine x_bipush dX11_init_223 kb_97 (i32_of rfl) ?_
  refine x_bipush dX11_init_225 kb_98 (i32_of rfl) ?_
  refine x_bipush dX11_init_227 kb_108 (i32_of rfl) ?_
  refine x_bipush dX11_init_229 kb_101 (i32_of rfl) ?_
  refine x_static dX11_init_231 mlX11_79 (c_nmc (X := _) (v := _) 116 97 98 108 101 10650290 (by omega) (by omega) (by omega) (by omega) (by omega) (by decide +kernel)) (st := _) rfl rfl (by decide) (Nat.zero_le _) (Nat.zero_le _) (Nat.le_of_ble_eq_true rfl) (fun o25 Y25 w25 ht25 hP25 => ?_)
  obtain ⟨e1_25, e2_25, e3_25⟩ := hP25
  rw [e1_25, e2_25, e3_25]
  refine x_puti 1 fwX11_90 dX11_init_234 (len := 0) (h21.2.1 47 _ (by decide) rfl) ⟨by decide, by rw [h21.1]; decide⟩ (fun _ => rfl) (Nat.le_of_ble_eq_true rfl) rfl (Or.inr ⟨rfl, rfl⟩) ?_
  have hz25 : ∀ r j : Int, 48 ≤ r → (upd2 (upd2 (upd2 (upd2 v 47 28 (-1)) 47 33 439745) 47 34 70441) 47 35 10650290) r j = 0 := fun r j hr => (upd2_n _ (by omega)).trans (hz24 r j hr)
  refine x_aload_n dX11_init_237 rfl ?_
  refine x_bipush dX11_init_238 kb_102 (i32_of rfl) ?_
  refine x_bipush dX11_init_240 kb_114 (i32_of rfl) ?_
  refine x_bipush dX11_init_242 kb_111 (i32_of rfl) ?_
  refine x_bipush dX11_init_244 kb_109 (i32_of rfl) ?_
  refine x_bipush dX11_init_246 kb_32 (i32_of rfl) ?_
  refine x_static dX11_init_248 mlX11_79 (c_nmc (X := _) (v := _) 102 114 111 109 32 131638 (by omega) (by omega) (by omega) (by omega) (by omega) (by decide +kernel)) (st := _) rfl rfl (by decide) (Nat.zero_le _) (Nat.zero_le _) (Nat.le_of_ble_eq_true rfl) (fun o26 Y26 w26 ht26 hP26 => ?_)
  obtain ⟨e1_26, e2_26, e3_26⟩ := hP26
  rw [e1_26, e2_26, e3_26]
  refine x_puti 1 fwX11_93 dX11_init_251 (len := 0) (h21.2.1 47 _ (by decide) rfl) ⟨by decide, by rw [h21.1]; decide⟩ (fun _ => rfl) (Nat.le_of_ble_eq_true rfl) rfl (Or.inr ⟨rfl, rfl⟩) ?_
  have hz26 : ∀ r j : Int, 48 ≤ r → (upd2 (upd2 (upd2 (upd2 (upd2 v 47 28 (-1)) 47 33 439745) 47 34 70441) 47 35 10650290) 47 36 131638) r j = 0 := fun r j hr => (upd2_n _ (by omega)).trans (hz25 r j hr)
  refine x_aload_n dX11_init_254 rfl ?_
  refine x_bipush dX11_init_255 kb_119 (i32_of rfl) ?_
  refine x_bipush dX11_init_257 kb_104 (i32_of rfl) ?_
  refine x_bipush dX11_init_259 kb_101 (i32_of rfl) ?_
  refine x_bipush dX11_init_261 kb_114 (i32_of rfl) ?_
  refine x_bipush dX11_init_263 kb_101 (i32_of rfl) ?_
  refine x_static dX11_init_265 mlX11_79 (c_nmc (X := _) (v := _) 119 104 101 114 101 12384743 (by omega) (by omega) (by omega) (by omega) (by omega) (by decide +kernel)) (st := _) rfl rfl (by decide) (Nat.zero_le _) (Nat.zero_le _) (Nat.le_of_ble_eq_true rfl) (fun o27 Y27 w27 ht27 hP27 => ?_)
  obtain ⟨e1_27, e2_27, e3_27⟩ := hP27
  rw [e1_27, e2_27, e3_27]
  refine x_puti 1 fwX11_96 dX11_init_268 (len := 0) (h21.2.1 47 _ (by decide) rfl) ⟨by decide, by rw [h21.1]; decide⟩ (fun _ => rfl) (Nat.le_of_ble_eq_true rfl) rfl (Or.inr ⟨rfl, rfl⟩) ?_
  have hz27 : ∀ r j : Int, 48 ≤ r → (upd2 (upd2 (upd2 (upd2 (upd2 (upd2 v 47 28 (-1)) 47 33 439745) 47 34 70441) 47 35 10650290) 47 36 131638) 47 37 12384743) r j = 0 := fun r j hr => (upd2_n _ (by omega)).trans (hz26 r j hr)
  refine x_aload_n dX11_init_271 rfl ?_
  refine x_bipush dX11_init_272 kb_108 (i32_of rfl) ?_
  refine x_bipush dX11_init_274 kb_101 (i32_of rfl) ?_
  refine x_bipush dX11_init_276 kb_110 (i32_of rfl) ?_
  refine x_bipush dX11_init_278 kb_32 (i32_of rfl) ?_
  refine x_bipush dX11_init_280 kb_32 (i32_of rfl) ?_
  refine x_static dX11_init_282 mlX11_79 (c_nmc (X := _) (v := _) 108 101 110 32 32 8897 (by omega) (by omega) (by omega) (by omega) (by omega) (by decide +kernel)) (st := _) rfl rfl (by decide) (Nat.zero_le _) (Nat.zero_le _) (Nat.le_of_ble_eq_true rfl) (fun o28 Y28 w28 ht28 hP28 => ?_)
  obtain ⟨e1_28, e2_28, e3_28⟩ := hP28
  rw [e1_28, e2_28, e3_28]
  refine x_puti 1 fwX11_99 dX11_init_285 (len := 0) (h21.2.1 47 _ (by decide) rfl) ⟨by decide, by rw [h21.1]; decide⟩ (fun _ => rfl) (Nat.le_of_ble_eq_true rfl) rfl (Or.inr ⟨rfl, rfl⟩) ?_
  have hz28 : ∀ r j : Int, 48 ≤ r → (upd2 (upd2 (upd2 (upd2 (upd2 (upd2 (upd2 v 47 28 (-1)) 47 33 439745) 47 34 70441) 47 35 10650290) 47 36 131638) 47 37 12384743) 47 38 8897) r j = 0 := fun r j hr => (upd2_n _ (by omega)).trans (hz27 r j hr)
  refine x_aload_n dX11_init_288 rfl ?_
  refine x_bipush dX11_init_289 kb_115 (i32_of rfl) ?_
  refine x_bipush dX11_init_291 kb_116 (i32_of rfl) ?_
  refine x_bipush dX11_init_293 kb_114 (i32_of rfl) ?_
  refine x_bipush dX11_init_295 kb_32 (i32_of rfl) ?_
  refine x_bipush dX11_init_297 kb_32 (i32_of rfl) ?_
  refine x_static dX11_init_299 mlX11_79 (c_nmc (X := _) (v := _) 115 116 114 32 32 14409 (by omega) (by omega) (by omega) (by omega) (by omega) (by decide +kernel)) (st := _) rfl rfl (by decide) (Nat.zero_le _) (Nat.zero_le _) (Nat.le_of_ble_eq_true rfl) (fun o29 Y29 w29 ht29 hP29 => ?_)
  obtain ⟨e1_29, e2_29, e3_29⟩ := hP29
  rw [e1_29, e2_29, e3_29]
  refine x_puti 1 fwX11_102 dX11_init_302 (len := 0) (h21.2.1 47 _ (by decide) rfl) ⟨by decide, by rw [h21.1]; decide⟩ (fun _ => rfl) (Nat.le_of_ble_eq_true rfl) rfl (Or.inr ⟨rfl, rfl⟩) ?_
  have hz29 : ∀ r j : Int, 48 ≤ r → (upd2 (upd2 (upd2 (upd2 (upd2 (upd2 (upd2 (upd2 v 47 28 (-1)) 47 33 439745) 47 34 70441) 47 35 10650290) 47 36 131638) 47 37 12384743) 47 38 8897) 47 39 14409) r j = 0 := fun r j hr => (upd2_n _ (by omega)).trans (hz28 r j hr)
  refine i_arr (pc := 305) (L := 1) (nn := 4) (ki := 100) (n := 69) 47 h21 (fun r j hr => hz29 r j (by omega)) (by decide) dX11_init_305 dX11_init_307 dX11_init_309 rfl (fun _ _ _ _ q => x_iconst dX11_init_306 rfl (i32_of rfl) q) (Or.inl ⟨rfl, rfl⟩) ac_int fwX11_105 (ln := 0) rfl rfl (Nat.le_of_ble_eq_true rfl) rfl (Or.inr ⟨_, rfl⟩) (by decide) rfl (by decide) (by omega) (by omega) (fun X30 h30 => ?_)
  refine i_arr (pc := 312) (L := 1) (nn := 3) (ki := 101) (n := 70) 47 h30 (fun r j hr => hz29 r j (by omega)) (by decide) dX11_init_312 dX11_init_314 dX11_init_316 rfl (fun _ _ _ _ q => x_iconst dX11_init_313 rfl (i32_of rfl) q) (Or.inr (Or.inl ⟨rfl, rfl⟩)) ac_long fwX11_108 (ln := 0) rfl rfl (Nat.le_of_ble_eq_true rfl) rfl (Or.inr ⟨_, rfl⟩) (by decide) rfl (by decide) (by omega) (by omega) (fun X31 h31 => ?_)
  refine i_arr (pc := 319) (L := 1) (nn := 3) (ki := 100) (n := 71) 47 h31 (fun r j hr => hz29 r j (by omega)) (by decide) dX11_init_319 dX11_init_321 dX11_init_323 rfl (fun _ _ _ _ q => x_iconst dX11_init_320 rfl (i32_of rfl) q) (Or.inl ⟨rfl, rfl⟩) ac_int fwX11_111 (ln := 0) rfl rfl (Nat.le_of_ble_eq_true rfl) rfl (Or.inr ⟨_, rfl⟩) (by decide) rfl (by decide) (by omega) (by omega) (fun X32 h32 => ?_)
  refine i_arr (pc := 326) (L := 1) (nn := 4) (ki := 100) (n := 72) 47 h32 (fun r j hr => hz29 r j (by omega)) (by decide) dX11_init_326 dX11_init_328 dX11_init_330 rfl (fun _ _ _ _ q => x_iconst dX11_init_327 rfl (i32_of rfl) q) (Or.inl ⟨rfl, rfl⟩) ac_int fwX11_114 (ln := 0) rfl rfl (Nat.le_of_ble_eq_true rfl) rfl (Or.inr ⟨_, rfl⟩) (by decide) rfl (by decide) (by omega) (by omega) (fun X33 h33 => ?_)
  refine i_arr (pc := 333) (L := 1) (nn := 4) (ki := 100) (n := 73) 47 h33 (fun r j hr => hz29 r j (by omega)) (by decide) dX11_init_333 dX11_init_335 dX11_init_337 rfl (fun _ _ _ _ q => x_iconst dX11_init_334 rfl (i32_of rfl) q) (Or.inl ⟨rfl, rfl⟩) ac_int fwX11_117 (ln := 0) rfl rfl (Nat.le_of_ble_eq_true rfl) rfl (Or.inr ⟨_, rfl⟩) (by decide) rfl (by decide) (by omega) (by omega) (fun X34 h34 => ?_)
  refine i_arr (pc := 340) (L := 1) (nn := 4) (ki := 100) (n := 74) 47 h34 (fun r j hr => hz29 r j (by omega)) (by decide) dX11_init_340 dX11_init_342 dX11_init_344 rfl (fun _ _ _ _ q => x_iconst dX11_init_341 rfl (i32_of rfl) q) (Or.inl ⟨rfl, rfl⟩) ac_int fwX11_120 (ln := 0) rfl rfl (Nat.le_of_ble_eq_true rfl) rfl (Or.inr ⟨_, rfl⟩) (by decide) rfl (by decide) (by omega) (by omega) (fun X35 h35 => ?_)
  refine i_arr (pc := 347) (L := 1) (nn := 4) (ki := 100) (n := 75) 47 h35 (fun r j hr => hz29 r j (by omega)) (by decide) dX11_init_347 dX11_init_349 dX11_init_351 rfl (fun _ _ _ _ q => x_iconst dX11_init_348 rfl (i32_of rfl) q) (Or.inl ⟨rfl, rfl⟩) ac_int fwX11_123 (ln := 0) rfl rfl (Nat.le_of_ble_eq_true rfl) rfl (Or.inr ⟨_, rfl⟩) (by decide) rfl (by decide) (by omega) (by omega) (fun X36 h36 => ?_)
  refine i_arr (pc := 354) (L := 1) (nn := 4) (ki := 100) (n := 76) 47 h36 (fun r j hr => hz29 r j (by omega)) (by decide) dX11_init_354 dX11_init_356 dX11_init_358 rfl (fun _ _ _ _ q => x_iconst dX11_init_355 rfl (i32_of rfl) q) (Or.inl ⟨rfl, rfl⟩) ac_int fwX11_126 (ln := 0) rfl rfl (Nat.le_of_ble_eq_true rfl) rfl (Or.inr ⟨_, rfl⟩) (by decide) rfl (by decide) (by omega) (by omega) (fun X37 h37 => ?_)
  refine i_arr (pc := 361) (L := 3) (nn := 136) (ki := 100) (n := 77) 47 h37 (fun r j hr => hz29 r j (by omega)) (by decide) dX11_init_361 dX11_init_365 dX11_init_367 rfl (fun _ _ _ _ q => x_sipush dX11_init_362 ks_136 (i32_of rfl) q) (Or.inl ⟨rfl, rfl⟩) ac_int fwX11_129 (ln := 0) rfl rfl (Nat.le_of_ble_eq_true rfl) rfl (Or.inr ⟨_, rfl⟩) (by decide) rfl (by decide) (by omega) (by omega) (fun X38 h38 => ?_)
  refine i_arr (pc := 370) (L := 2) (nn := 17) (ki := 100) (n := 78) 47 h38 (fun r j hr => hz29 r j (by omega)) (by decide) dX11_init_370 dX11_init_373 dX11_init_375 rfl (fun _ _ _ _ q => x_bipush dX11_init_371 kb_17 (i32_of rfl) q) (Or.inl ⟨rfl, rfl⟩) ac_int fwX11_132 (ln := 0) rfl rfl (Nat.le_of_ble_eq_true rfl) rfl (Or.inr ⟨_, rfl⟩) (by decide) rfl (by decide) (by omega) (by omega) (fun X39 h39 => ?_)
  refine i_arr (pc := 378) (L := 2) (nn := 17) (ki := 100) (n := 79) 47 h39 (fun r j hr => hz29 r j (by omega)) (by decide) dX11_init_378 dX11_init_381 dX11_init_383 rfl (fun _ _ _ _ q => x_bipush dX11_init_379 kb_17 (i32_of rfl) q) (Or.inl ⟨rfl, rfl⟩) ac_int fwX11_135 (ln := 0) rfl rfl (Nat.le_of_ble_eq_true rfl) rfl (Or.inr ⟨_, rfl⟩) (by decide) rfl (by decide) (by omega) (by omega) (fun X40 h40 => ?_)
  refine i_arr (pc := 386) (L := 3) (nn := 136) (ki := 102) (n := 80) 47 h40 (fun r j hr => hz29 r j (by omega)) (by decide) dX11_init_386 dX11_init_390 dX11_init_392 rfl (fun _ _ _ _ q => x_sipush dX11_init_387 ks_136 (i32_of rfl) q) (Or.inr (Or.inr ⟨rfl, rfl⟩)) ac_boolean fwX11_138 (ln := 0) rfl rfl (Nat.le_of_ble_eq_true rfl) rfl (Or.inr ⟨_, rfl⟩) (by decide) rfl (by decide) (by omega) (by omega) (fun X41 h41 => ?_)
  refine i_arr (pc := 395) (L := 3) (nn := 140) (ki := 100) (n := 81) 47 h41 (fun r j hr => hz29 r j (by omega)) (by decide) dX11_init_395 dX11_init_399 dX11_init_401 rfl (fun _ _ _ _ q => x_sipush dX11_init_396 ks_140 (i32_of rfl) q) (Or.inl ⟨rfl, rfl⟩) ac_int fwX11_141 (ln := 0) rfl rfl (Nat.le_of_ble_eq_true rfl) rfl (Or.inr ⟨_, rfl⟩) (by decide) rfl (by decide) (by omega) (by omega) (fun X42 h42 => ?_)
  refine i_arr (pc := 404) (L := 2) (nn := 40) (ki := 100) (n := 82) 47 h42 (fun r j hr => hz29 r j (by omega)) (by decide) dX11_init_404 dX11_init_407 dX11_init_409 rfl (fun _ _ _ _ q => x_bipush dX11_init_405 kb_40 (i32_of rfl) q) (Or.inl ⟨rfl, rfl⟩) ac_int fwX11_144 (ln := 0) rfl rfl (Nat.le_of_ble_eq_true rfl) rfl (Or.inr ⟨_, rfl⟩) (by decide) rfl (by decide) (by omega) (by omega) (fun X43 h43 => ?_)
  refine i_arr (pc := 412) (L := 2) (nn := 40) (ki := 100) (n := 83) 47 h43 (fun r j hr => hz29 r j (by omega)) (by decide) dX11_init_412 dX11_init_415 dX11_init_417 rfl (fun _ _ _ _ q => x_bipush dX11_init_413 kb_40 (i32_of rfl) q) (Or.inl ⟨rfl, rfl⟩) ac_int fwX11_147 (ln := 0) rfl rfl (Nat.le_of_ble_eq_true rfl) rfl (Or.inr ⟨_, rfl⟩) (by decide) rfl (by decide) (by omega) (by omega) (fun X44 h44 => ?_)
  refine i_arr (pc := 420) (L := 2) (nn := 40) (ki := 100) (n := 84) 47 h44 (fun r j hr => hz29 r j (by omega)) (by decide) dX11_init_420 dX11_init_423 dX11_init_425 rfl (fun _ _ _ _ q => x_bipush dX11_init_421 kb_40 (i32_of rfl) q) (Or.inl ⟨rfl, rfl⟩) ac_int fwX11_150 (ln := 0) rfl rfl (Nat.le_of_ble_eq_true rfl) rfl (Or.inr ⟨_, rfl⟩) (by decide) rfl (by decide) (by omega) (by omega) (fun X45 h45 => ?_)
  refine i_arr (pc := 428) (L := 2) (nn := 40) (ki := 100) (n := 85) 47 h45 (fun r j hr => hz29 r j (by omega)) (by decide) dX11_init_428 dX11_init_431 dX11_init_433 rfl (fun _ _ _ _ q => x_bipush dX11_init_429 kb_40 (i32_of rfl) q) (Or.inl ⟨rfl, rfl⟩) ac_int fwX11_153 (ln := 0) rfl rfl (Nat.le_of_ble_eq_true rfl) rfl (Or.inr ⟨_, rfl⟩) (by decide) rfl (by decide) (by omega) (by omega) (fun X46 h46 => ?_)
  refine i_arr (pc := 436) (L := 3) (nn := 136) (ki := 100) (n := 86) 47 h46 (fun r j hr => hz29 r j (by omega)) (by decide) dX11_init_436 dX11_init_440 dX11_init_442 rfl (fun _ _ _ _ q => x_sipush dX11_init_437 ks_136 (i32_of rfl) q) (Or.inl ⟨rfl, rfl⟩) ac_int fwX11_156 (ln := 0) rfl rfl (Nat.le_of_ble_eq_true rfl) rfl (Or.inr ⟨_, rfl⟩) (by decide) rfl (by decide) (by omega) (by omega) (fun X47 h47 => ?_)
  exact x_ret none rfl ⟨dX11_init_445, rfl⟩ ⟨h47, rfl⟩
