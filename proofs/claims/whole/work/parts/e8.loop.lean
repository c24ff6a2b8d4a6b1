theorem kb_31 : (Int8.ofInt (31)).toInt32 = Int32.ofInt (31) := by decide +kernel
/-! ===== the law: its loop, its end ===== -/
theorem law_end {G : GG} {p : Program} {l : Launch} {e : Env} {s : State} {m : MethodId} {b : Nat} {below : List Frame} {meth : Method} {c : Code} (hX : XC (mLw meth.name) 100 G p room_1 s m #[Value.ref b] meth c) (hg : gsz G = s.heap.size) {ls : List AV} {X : XX} {v : VV} {mc ms : Nat} : Wg G (mLw meth.name) p l e room_1 s m #[Value.ref b] below meth c (lw_Z below #[Value.ref b] s) 862 ls [] X v mc ms := by
  refine w_iconst hX dL_law_862 rfl (i32_of rfl) ?_
  intro H locs cells slots cls hH hS hL hO hc hs
  refine va_forget (fun q hq => by have h : gsz G ≤ q.base := hS.2.2 q hq; omega) ?_
  have r1 : room_1.cells = 600000 := rfl
  have r2 : room_1.slots = 7302250 := rfl
  refine W.widen (k := 600000) (n := 7302250) (by omega) (by omega) ?_
  have e1 : ([((0 : Nat), (1 : Int))].map (conc G)) = [Value.int 1] := by
    show [Value.int (Int32.ofInt 1)] = _
    rw [show Int32.ofInt 1 = 1 from by decide]
  rw [e1]
  exact lw_ret hX.1 hX.2.1 hX.2.2.2.1 hX.2.2.2.2.2.2.2.1 dL_law_863
set_option maxRecDepth 100000 in
set_option maxHeartbeats 4000000 in
theorem law_loop {G : GG} {p : Program} {l : Launch} {e : Env} {s : State} {m : MethodId} {b : Nat} {below : List Frame} {meth : Method} {c : Code} (hX : XC (mLw meth.name) 100 G p room_1 s m #[Value.ref b] meth c) (hg : gsz G = s.heap.size) (hL : gL G ≤ 3072) : ∀ (n k : Nat), 513 ≤ k + n → 6 * k ≤ gL G → ∀ (G0 : GT) (cC : Int → Nat) (X : XX) (v : VV), I2 G0 cC (10000 * (k : Int)) X v (mp v) → Wg G (mLw meth.name) p l e room_1 s m #[Value.ref b] below meth c (lw_Z below #[Value.ref b] s) 18 [(2, -2), (2, 0), (2, 47), (0, 6 * (k : Int))] [] X v (13 * (512 - k)) (1246 * (512 - k))
  | 0, k, h1, h2, _, _, _, _, _ => by omega
  | n + 1, k, h1, h2, G0, cC, X, v, h => by
    have hl : gL G < 2147483648 := by omega
    refine w_iload_n hX dL_law_18 rfl ?_
    refine w_aload_n hX dL_law_19 rfl ?_
    refine w_slen hX hl dL_law_20 ?_
    refine w_bipush hX dL_law_21 kb_6 (i32_of rfl) ?_
    refine w_isub hX dL_law_23 ⟨by omega, by omega⟩ ?_
    refine w_icmp_gt (tgt := 862) hX dL_law_24 rfl (fun _ => law_end hX hg) (fun g => ?_)
    have hk : k < 512 := by omega
    refine w_aload_n hX dL_law_27 rfl ?_
    refine w_iload_n hX dL_law_28 rfl ?_
    refine w_sald hX hl ⟨by omega, by omega⟩ dL_law_29 ?_
    refine w_bipush hX dL_law_30 kb_31 (i32_of rfl) ?_
    obtain ⟨z, ez, hz⟩ := i32_ex (Int32.ofInt (sx G (6 * (k : Int))) &&& Int32.ofInt 31)
    refine w_iand hX dL_law_32 ez hz ?_
    have go : ∀ (Y : XX) (w : VV) (G2 : GT) (cC2 : Int → Nat), I2 G2 cC2 (10000 * (k : Int) + 10000) Y w (mp w) → Wg G (mLw meth.name) p l e room_1 s m #[Value.ref b] below meth c (lw_Z below #[Value.ref b] s) 856 [(2, -2), (2, 0), (2, 47), (0, 6 * (k : Int))] [] Y w (13 * (512 - k) - 13) (1246 * (512 - k) - 1246) := fun Y w G2 cC2 hI => by
      refine w_iinc hX [(2, -2), (2, 0), (2, 47), (0, 6 * (k : Int) + 6)] dL_law_856 rfl rfl (Nat.le_of_ble_eq_true rfl) ⟨by omega, by omega⟩ ?_
      refine w_goto (tgt := 18) hX dL_law_859 rfl ?_
      have hn := law_loop (l := l) (e := e) (below := below) hX hg hL n (k + 1) (by omega) (by omega) G2 cC2 Y w (by rw [show 10000 * ((k + 1 : Nat) : Int) = 10000 * (k : Int) + 10000 by omega]; exact hI)
      rw [show 6 * ((k + 1 : Nat) : Int) = 6 * (k : Int) + 6 by omega] at hn
      exact w_widen (by omega) (by omega) hn
    by_cases z0 : z = 0
    · rw [z0]
      exact w_tableAt (tgt := 144) (off := 111) hX dL_law_33 (by decide) (by decide) rfl rfl (law_c0 hX hl ⟨by omega, by omega⟩ h (by omega) (by omega) (by omega) go)
    by_cases z1 : z = 1
    · rw [z1]
      exact w_tableAt (tgt := 207) (off := 174) hX dL_law_33 (by decide) (by decide) rfl rfl (law_c1 hX hl ⟨by omega, by omega⟩ h (by omega) (by omega) (by omega) go)
    by_cases z2 : z = 2
    · rw [z2]
      exact w_tableAt (tgt := 230) (off := 197) hX dL_law_33 (by decide) (by decide) rfl rfl (law_c2 hX hl ⟨by omega, by omega⟩ h (by omega) (by omega) (by omega) go)
    by_cases z3 : z = 3
    · rw [z3]
      exact w_tableAt (tgt := 243) (off := 210) hX dL_law_33 (by decide) (by decide) rfl rfl (law_c3 hX hl ⟨by omega, by omega⟩ h (by omega) (by omega) (by omega) go)
    by_cases z4 : z = 4
    · rw [z4]
      exact w_tableAt (tgt := 266) (off := 233) hX dL_law_33 (by decide) (by decide) rfl rfl (law_c4 hX hl ⟨by omega, by omega⟩ h (by omega) (by omega) (by omega) go)
    by_cases z5 : z = 5
    · rw [z5]
      exact w_tableAt (tgt := 279) (off := 246) hX dL_law_33 (by decide) (by decide) rfl rfl (law_c5 hX hl ⟨by omega, by omega⟩ h (by omega) (by omega) (by omega) go)
    by_cases z6 : z = 6
    · rw [z6]
      exact w_tableAt (tgt := 312) (off := 279) hX dL_law_33 (by decide) (by decide) rfl rfl (law_c6 hX hl ⟨by omega, by omega⟩ h (by omega) (by omega) (by omega) go)
    by_cases z7 : z = 7
    · rw [z7]
      exact w_tableAt (tgt := 345) (off := 312) hX dL_law_33 (by decide) (by decide) rfl rfl (law_c7 hX hl ⟨by omega, by omega⟩ h (by omega) (by omega) (by omega) go)
    by_cases z8 : z = 8
    · rw [z8]
      exact w_tableAt (tgt := 388) (off := 355) hX dL_law_33 (by decide) (by decide) rfl rfl (law_c8 hX hl ⟨by omega, by omega⟩ h (by omega) (by omega) (by omega) go)
    by_cases z9 : z = 9
    · rw [z9]
      exact w_tableAt (tgt := 421) (off := 388) hX dL_law_33 (by decide) (by decide) rfl rfl (law_c9 hX hl ⟨by omega, by omega⟩ h (by omega) (by omega) (by omega) go)
    by_cases z10 : z = 10
    · rw [z10]
      exact w_tableAt (tgt := 454) (off := 421) hX dL_law_33 (by decide) (by decide) rfl rfl (law_c10 hX hl ⟨by omega, by omega⟩ h (by omega) (by omega) (by omega) go)
    by_cases z11 : z = 11
    · rw [z11]
      exact w_tableAt (tgt := 477) (off := 444) hX dL_law_33 (by decide) (by decide) rfl rfl (law_c11 hX hl ⟨by omega, by omega⟩ h (by omega) (by omega) (by omega) go)
    by_cases z12 : z = 12
    · rw [z12]
      exact w_tableAt (tgt := 520) (off := 487) hX dL_law_33 (by decide) (by decide) rfl rfl (law_c12 hX hl ⟨by omega, by omega⟩ h (by omega) (by omega) (by omega) go)
    by_cases z13 : z = 13
    · rw [z13]
      exact w_tableAt (tgt := 543) (off := 510) hX dL_law_33 (by decide) (by decide) rfl rfl (law_c13 hX hl ⟨by omega, by omega⟩ h (by omega) (by omega) (by omega) go)
    by_cases z14 : z = 14
    · rw [z14]
      exact w_tableAt (tgt := 566) (off := 533) hX dL_law_33 (by decide) (by decide) rfl rfl (law_c14 hX hl ⟨by omega, by omega⟩ h (by omega) (by omega) (by omega) go)
    by_cases z15 : z = 15
    · rw [z15]
      exact w_tableAt (tgt := 589) (off := 556) hX dL_law_33 (by decide) (by decide) rfl rfl (law_c15 hX hl ⟨by omega, by omega⟩ h (by omega) (by omega) (by omega) go)
    by_cases z16 : z = 16
    · rw [z16]
      exact w_tableAt (tgt := 632) (off := 599) hX dL_law_33 (by decide) (by decide) rfl rfl (law_c16 hX hl ⟨by omega, by omega⟩ h (by omega) (by omega) (by omega) go)
    by_cases z17 : z = 17
    · rw [z17]
      exact w_tableAt (tgt := 655) (off := 622) hX dL_law_33 (by decide) (by decide) rfl rfl (law_c17 hX hl ⟨by omega, by omega⟩ h (by omega) (by omega) (by omega) go)
    by_cases z18 : z = 18
    · rw [z18]
      exact w_tableAt (tgt := 688) (off := 655) hX dL_law_33 (by decide) (by decide) rfl rfl (law_c18 hX hl ⟨by omega, by omega⟩ h (by omega) (by omega) (by omega) go)
    by_cases z19 : z = 19
    · rw [z19]
      exact w_tableAt (tgt := 701) (off := 668) hX dL_law_33 (by decide) (by decide) rfl rfl (law_c19 hX hl ⟨by omega, by omega⟩ h (by omega) (by omega) (by omega) go)
    by_cases z20 : z = 20
    · rw [z20]
      exact w_tableAt (tgt := 724) (off := 691) hX dL_law_33 (by decide) (by decide) rfl rfl (law_c20 hX hl ⟨by omega, by omega⟩ h (by omega) (by omega) (by omega) go)
    by_cases z21 : z = 21
    · rw [z21]
      exact w_tableAt (tgt := 757) (off := 724) hX dL_law_33 (by decide) (by decide) rfl rfl (law_c21 hX hl ⟨by omega, by omega⟩ h (by omega) (by omega) (by omega) go)
    by_cases z22 : z = 22
    · rw [z22]
      exact w_tableAt (tgt := 800) (off := 767) hX dL_law_33 (by decide) (by decide) rfl rfl (law_c22 hX hl ⟨by omega, by omega⟩ h (by omega) (by omega) (by omega) go)
    by_cases z23 : z = 23
    · rw [z23]
      exact w_tableAt (tgt := 823) (off := 790) hX dL_law_33 (by decide) (by decide) rfl rfl (law_c23 hX hl ⟨by omega, by omega⟩ h (by omega) (by omega) (by omega) go)
    exact w_tableOut (tgt := 856) hX dL_law_33 (by omega) rfl (w_widen (by omega) (by omega) (go X v G0 cC (h.mono (by omega))))
