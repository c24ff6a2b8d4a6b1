/-! ===== the law from its entry ===== -/
def X0 : XX := ((0, fun _ => (0, 0)), fun _ _ => 0)
def v0 : VV := fun _ _ => 0
theorem St_0 : St X0 0 [] := ⟨rfl, fun k c hk => absurd hk (Nat.not_lt_zero k), fun q hq => (by cases hq), fun j => ⟨fun z => absurd z (by decide), fun z => absurd z (by decide)⟩⟩
set_option maxRecDepth 100000 in
set_option maxHeartbeats 4000000 in
theorem law_begin {G : GG} {p : Program} {l : Launch} {e : Env} {s : State} {m : MethodId} {b : Nat} {below : List Frame} {meth : Method} {c : Code} (hX : XC (mLw meth.name) 100 G p room_1 s m #[Value.ref b] meth c) (hg : gsz G = s.heap.size) (hL : gL G ≤ 3072) : Wg G (mLw meth.name) p l e room_1 s m #[Value.ref b] below meth c (lw_Z below #[Value.ref b] s) 0 [(2, -2), (3, 0), (3, 0), (3, 0)] [] X0 v0 600000 7302250 := by
  have h1 : St (nX X0 10 0) 1 [] := St_0.new (ki := 10) (m := 0) rfl
  refine w_new hX nlL_7 dL_law_0 (by decide) (Nat.le_of_ble_eq_true rfl) (Nat.le_of_ble_eq_true rfl) ?_
  rw [nV_z (X := X0) (v := v0) (fun _ _ _ => rfl)]
  refine w_dup hX dL_law_3 (tag1 rfl) ?_
  refine w_init hX dL_law_4 mlL_9 (iX10_0 (v := v0) h1 (fun _ _ _ => rfl)) (by decide) (st := _) rfl rfl (by decide) (Nat.le_of_ble_eq_true rfl) (Nat.le_of_ble_eq_true rfl) (Nat.le_of_ble_eq_true rfl) (fun X1 v1 hP => ?_)
  obtain ⟨h2, e2⟩ := hP
  subst e2
  refine w_astore_n hX [(2, -2), (2, 0), (3, 0), (3, 0)] dL_law_7 rfl (Nat.le_of_ble_eq_true rfl) ?_
  have e47 := h2.1
  have h3 : St (nX X1 11 0) 48 _ := h2.new (ki := 11) (m := 0) rfl
  refine w_new hX nlL_10 dL_law_8 (by decide) (Nat.le_of_ble_eq_true rfl) (Nat.le_of_ble_eq_true rfl) ?_
  rw [nV_z (X := X1) (fun r j hr => (upd2_n _ (by omega)).trans rfl), e47]
  refine w_dup hX dL_law_11 (tag1 rfl) ?_
  refine w_init hX dL_law_12 mlL_12 (iX11_47 h3 (fun r j hr => (upd2_n _ (by omega)).trans rfl)) (by decide) (st := _) rfl rfl (by decide) (Nat.le_of_ble_eq_true rfl) (Nat.le_of_ble_eq_true rfl) (Nat.le_of_ble_eq_true rfl) (fun X2 v2 hP => ?_)
  obtain ⟨h4, e4⟩ := hP
  subst e4
  refine w_astore_n hX [(2, -2), (2, 0), (2, 47), (3, 0)] dL_law_15 rfl (Nat.le_of_ble_eq_true rfl) ?_
  refine w_iconst hX dL_law_16 rfl (i32_of rfl) ?_
  refine w_istore_n hX [(2, -2), (2, 0), (2, 47), (0, 0)] dL_law_17 rfl (Nat.le_of_ble_eq_true rfl) ?_
  have h5 : St X2 87 Rm := h4
  have hI := I2_start h5
  have hl := law_loop hX (l := l) (e := e) (below := below) hg hL 513 0 (by omega) (by omega) _ _ X2 vS (by rw [show 10000 * ((0 : Nat) : Int) = 0 from rfl]; exact hI)
  rw [show 6 * ((0 : Nat) : Int) = 0 from rfl] at hl
  exact w_widen (Nat.le_of_ble_eq_true rfl) (Nat.le_of_ble_eq_true rfl) hl
set_option maxHeartbeats 4000000 in
theorem whole_start {p : Program} {e : Env} {s : State} {m : MethodId} {below : List Frame} {meth : Method} {c : Code} (l : Launch) (hflags : l.flags = flags0) {b L : Nat} {xs : Nat → Int32} (hL : L ≤ 3072) (C0 : lw_At p s m meth c b L xs) : W p l e room_1 s m #[Value.ref b] below meth c s.heap [] 0 0 (lw_Z below #[Value.ref b] s) (entryFrame m ([Value.ref b] : List Value).toArray 4) := by
  obtain ⟨G, eg, eb, eL, hE⟩ := law_env C0
  obtain ⟨hx, hb, hr, hml, hown, hts, hXs, hbl, hlocks, hgv⟩ := C0
  have hTB : ∀ w ∈ TB, w.before #[Value.ref b] s = true := fun w hw => hts w (List.mem_filter.mp hw).1
  have hX : XC (mLw meth.name) 100 G p room_1 s m #[Value.ref b] meth c := ⟨hx, hb, hml, hr, hown, hTB, rfl, hlocks, hE, Nat.le_of_ble_eq_true rfl, Nat.le_of_ble_eq_true rfl⟩
  have hS := law_begin (l := l) (e := e) (below := below) hX eg (by omega)
  have e0 : ([Value.ref b] : List Value) = [((2 : Nat), (-2 : Int))].map (conc G) := by
    show [Value.ref b] = [Value.ref (gb G)]
    rw [eb]
  rw [lg_entry_eq]
  refine hS s.heap [] 0 0 _ ⟨by rw [eg]; rfl, fun k hk => absurd hk (Nat.not_lt_zero k)⟩ va_S.rf ?_ (fun a ha => by cases ha) (Nat.le_of_ble_eq_true rfl) (Nat.le_of_ble_eq_true rfl)
  have h := LR.entry G (nL := 4) (avs := [(2, -2)]) (fun a ha => by rw [List.mem_singleton.mp ha]; exact Nat.le_of_ble_eq_true rfl) (fun a ha => by rw [List.mem_singleton.mp ha]; exact okv_r) (Nat.le_of_ble_eq_true rfl)
  rw [← e0] at h
  exact h
