/-! THE CLAIM OUT OF ONE WALK OF THE LAW'S BODY. Your part is whole_start (and what it stands on); all else here is the same for every law, but numbers. -/
def R_law : String := "TableCatalogLaw"
def lw_P (b : Addr) (xs : List Int32) (args : Array Value) (s : State) : Prop := args = #[.ref b] ∧ s.IntsAt b xs ∧ xs.length ≤ 3072 ∧ (Jvm.Cond.and given_1 narrow_1).before args s = true
def lw_Q (_ : Array Value) (s : State) (o : Outcome) (t : State) : Prop := o = .returned (some (.int 1)) ∧ Framed s o t [] 600000 7302250
def lw_Z (below : List Frame) (a : Array Value) (s : State) : State → Prop := fun t => ∃ o, t.status = .running ∧ Ended t below o ∧ lw_Q a s o t
/-- the law's own end, with 1 on the stack, nothing written that was there before, its room as the claim has it -/
theorem lw_ret {p : Program} {l : Launch} {e : Env} {s : State} {m : MethodId} {below : List Frame} {meth : Method} {c : Code} {b : Nat} (hx : p.tables.exec = Jvm.exec) (hb : c.code = code) (hr : meth.sig.returnType = ret) (hlocks : meth.locks = false) {pc : Nat} {H : Heap} {ls : Array Slot} (hdg : decode code pc = .ok (.ireturn, 1)) : W p l e room_1 s m #[Value.ref b] below meth c H [] 600000 7302250 (lw_Z below #[Value.ref b] s) (F0 m pc ls [.int 1]) := by
  intro T hT X
  obtain ⟨fs, hret, hrun, hended, hW, hframe⟩ := X.leave (v := some (.int 1)) (hlocks := hlocks) (fun h => by rw [hr] at h; cases h)
  have hmeth' : T.vm.method? m = some meth := X.method'
  refine ⟨T.setFrames fs, ?_, .returned (some (.int 1)), hrun, hended, rfl, ⟨_, rfl⟩, hW, hframe⟩
  jvm_step X.here [X.here.top, hx, hb, hdg, hmeth', hr, ret, narrow_b1]
  (try refine ⟨rfl, ?_⟩); (try refine ⟨rfl, ?_⟩)
  first | (intro acts; rw [hret _ acts rfl rfl rfl]) | rw [hret _ _ rfl rfl rfl]
  exact Steps.refl _
/-- what holds at the law's entry: the machine, the code, the tables' words (any of lw_tbl by 'hts w (by decide +kernel)'), the script of L ints xs at the cell b, what the Statement gives of the start (any of its parts by flat_of_before) -/
def lw_At (p : Program) (s : State) (m : MethodId) (meth : Method) (c : Code) (b L : Nat) (xs : Nat → Int32) : Prop :=
  p.tables.exec = Jvm.exec ∧ c.code = code ∧ meth.sig.returnType = ret ∧ c.maxLocals = 4 ∧ s.vm.findClass R_law = some m.cls ∧ (∀ w ∈ lw_tbl, w.before #[Value.ref b] s = true) ∧ va_X b L xs s s.heap ∧ b < s.heap.size ∧ meth.locks = false ∧ (Jvm.Cond.and given_1 narrow_1).before #[Value.ref b] s = true
/-! ===== what the Statement gives of the start, as the pictures take it ===== -/
theorem nl_kn {own : String} {idx ci n : Nat} (h : NL own idx ci n) {args : Array Value} {s : State} (hT : ∀ w ∈ TB, w.before args s = true) : ∃ q : vw_C, vwCl[ci]? = some q ∧ ∃ (cC : ClassId) (iS : Nat → Nat), u_Kn s q.1 q.2.1 q.2.2 cC iS := by
  obtain ⟨C, T, ty0, h1, h2, h3, h4, h5, h6, h7⟩ := h
  obtain ⟨cC, iS, hk⟩ := u_known (C := C) (T := T) (N := n) (n := n) hT h2 (hT _ h5)
  exact ⟨_, h1, cC, iS, hk⟩
theorem cls_kn {args : Array Value} {s : State} (hT : ∀ w ∈ TB, w.before args s = true) : ∃ (dC : Nat → ClassId) (dI : Nat → Nat → Nat), ∀ (ci : Nat) (q : vw_C), vwCl[ci]? = some q → u_Kn s q.1 q.2.1 q.2.2 (dC ci) (dI ci) := by
  have key : ∀ {own : String} {idx ci n : Nat}, NL own idx ci n → ∃ r : ClassId × (Nat → Nat), ∀ q : vw_C, vwCl[ci]? = some q → u_Kn s q.1 q.2.1 q.2.2 r.1 r.2 := fun h => by
    obtain ⟨q, h1, cC, iS, hk⟩ := nl_kn h hT
    exact ⟨(cC, iS), fun q' hq => by
      have e : q = q' := Option.some.inj (h1.symm.trans hq)
      subst e
      exact hk⟩
  have hall : ∀ ci : Nat, ∃ r : ClassId × (Nat → Nat), ∀ q : vw_C, vwCl[ci]? = some q → u_Kn s q.1 q.2.1 q.2.2 r.1 r.2 := fun ci => by
    match ci with
    | 0 => exact key nlX10_52
    | 1 => exact key nlX10_25
    | 2 => exact key nlX10_58
    | 3 => exact key nlX4_9
    | 4 => exact key nlX10_18
    | 5 => exact key nlX3_36
    | 6 => exact key nlX10_9
    | 7 => exact key nlX10_39
    | 8 => exact key nlX3_9
    | 9 => exact key nlX1_9
    | 10 => exact key nlL_7
    | 11 => exact key nlL_10
    | k + 12 =>
      obtain ⟨r, -⟩ := key nlL_10
      refine ⟨r, fun q hq => ?_⟩
      have hl : k + 12 < 12 := (List.getElem?_eq_some_iff.mp hq).1
      omega
  obtain ⟨f, hf⟩ := Classical.axiomOfChoice hall
  exact ⟨fun k => (f k).1, fun k => (f k).2, hf⟩
theorem arr_kn {args : Array Value} {s : State} {ty : FieldType} (h : (Cond.arrayClass ty).before args s = true) : ∃ cA : ClassId, ArrOfT s cA ty ∧ s.vm.findClass ("[" ++ ty.toString) = some cA := by
  obtain ⟨cA, kA, comp, h1, h2, h3⟩ := Cond.arrayClass_spec h
  exact ⟨cA, fun n z => ⟨fun k h => (by cases h), kA, h2, comp, h3⟩, h1⟩
theorem arr_rn {args : Array Value} {s : State} {C : String} (h : (Cond.arrayOver (.object C)).before args s = true) : ∃ cA : ClassId, ArrOfT s cA (.object C) ∧ va_RA s cA (.object C) := by
  obtain ⟨comp, cA, kA, h1, h2, h3, h4, h5⟩ := Cond.arrayOver_spec h
  exact ⟨cA, fun n z => ⟨fun k h => (by cases h), kA, h3, comp, h4⟩, kA, comp, h3, h4, h1, h5⟩
def gAof (c0 c1 c2 c3 c4 : ClassId) : Nat → ClassId := fun k => match k with
  | 0 => c0
  | 1 => c1
  | 2 => c2
  | 3 => c3
  | _ => c4
def sidx : List Nat := [88, 94, 96, 98, 100, 102, 104]
def stm (i : Nat) : Term := .string "TableCatalog$Tokens" (sidx.getD i 0)
abbrev FLn : List Cond := flatC (Jvm.Cond.and given_1 narrow_1)
theorem st_ex : ∀ i, i < 7 → Cond.exactly (stm i) "java/lang/String" ∈ FLn := by decide +kernel
theorem st_co : ∀ i, i < 7 → Cond.eq (.field (stm i) "java/lang/String" "coder" "B") (.int 0) ∈ FLn := by decide +kernel
theorem st_ar : ∀ i, i < 7 → Cond.arrayOf (.field (stm i) "java/lang/String" "value" "[B") .byte ∈ FLn := by decide +kernel
theorem st_le : ∀ i, i < 7 → Cond.eq (.length (.field (stm i) "java/lang/String" "value" "[B")) (.int (Int32.ofNat (slens.getD i 0))) ∈ FLn := by decide +kernel
theorem st_el : ∀ i, i < 7 → ∀ j, j < slens.getD i 0 → Cond.eq (.elem (.field (stm i) "java/lang/String" "value" "[B") (.int (Int32.ofNat j))) (.int ((sbyts.getD i []).getD j 0)) ∈ FLn := by decide +kernel
theorem st_ne : ∀ i, i < 7 → ∀ j, j < 7 → ¬ i = j → Cond.not (Cond.eq (stm i) (stm j)) ∈ FLn ∨ Cond.not (Cond.eq (stm j) (stm i)) ∈ FLn := by decide +kernel
theorem st_ln : ∀ i, i < 7 → slens.getD i 0 < 2 ^ 31 := by decide +kernel
theorem nest_on {w : Cond} (h : isNest w = true) : w.onTables = true := by
  cases w <;> first | rfl | exact Bool.noConfusion h
set_option maxHeartbeats 4000000 in
theorem law_env {p : Program} {s : State} {m : MethodId} {meth : Method} {c : Code} {b L : Nat} {xs : Nat → Int32} (C0 : lw_At p s m meth c b L xs) : ∃ G : GG, gsz G = s.heap.size ∧ gb G = b ∧ gL G = L ∧ EnvOK G s := by
  obtain ⟨hx, hb, hr, hml, hown, hts, hX, hbl, hlocks, hgv⟩ := C0
  have hs : ∀ w ∈ FLn, w.before #[Value.ref b] s = true := flat_of_before _ hgv
  have hTB : ∀ w ∈ TB, w.before #[Value.ref b] s = true := fun w hw => hts w (List.mem_filter.mp hw).1
  have ht : ∀ (i : Nat) (w : Cond), tables_1[i]? = some w → w.before #[Value.ref b] s = true := fun i w h => hts w (List.mem_append_right _ (List.mem_of_getElem? h))
  have hNW : ∀ w ∈ NW, va_Nw w s := fun w hw => va_Nw.of (nest_on (List.mem_filter.mp hw).2) (hts w (List.mem_append_right _ (List.mem_filter.mp hw).1))
  have hA : ∀ a : Nat, a < s.heap.size → ¬ (fun q : Nat => s.heap.size ≤ q) a := fun a ha q => absurd ha (Nat.not_lt.mpr q)
  obtain ⟨dC, dI, hD⟩ := cls_kn hTB
  obtain ⟨c0, a0, f0⟩ := arr_kn (hTB _ ac_int)
  obtain ⟨c1, a1, f1⟩ := arr_kn (hTB _ ac_long)
  obtain ⟨c2, a2, f2⟩ := arr_kn (hTB _ ac_boolean)
  have o3 := ht 218 (Cond.arrayOver (.object RX7)) (by decide +kernel)
  have o4 := ht 220 (Cond.arrayOver (.object RX0)) (by decide +kernel)
  obtain ⟨c3, a3, f3⟩ := arr_rn o3
  obtain ⟨c4, a4, f4⟩ := arr_rn o4
  obtain ⟨adK, adV, hS, hval⟩ := vk_Sof (args := #[Value.ref b]) (s := s) (N := 7) (tm := stm) (len := slens) (byt := sbyts) (A := fun q : Nat => s.heap.size ≤ q) st_ln (fun i hi => hs _ (st_ex i hi)) (fun i hi => hs _ (st_co i hi)) (fun i hi => hs _ (st_ar i hi)) (fun i hi => hs _ (st_le i hi)) (fun i hi j hj => hs _ (st_el i hi j hj)) (fun i j hi hj hij => (st_ne i hi j hj hij).imp (fun h => hs _ h) (fun h => hs _ h)) hA
  have z1 : va_Z "java/lang/String" "COMPACT_STRINGS" "Z" (.int 1) (fun q : Nat => s.heap.size ≤ q) s s.heap := va_Zof (ht 361 _ (by decide +kernel)) (ht 13 _ (by decide +kernel)) (va_eqt (hs (Cond.eq (.static "java/lang/String" "COMPACT_STRINGS" "Z") (.int 1)) (by decide +kernel))) hA
  have z2 : va_Zq "jdk/internal/util/Preconditions" "SIOOBE_FORMATTER" "Ljava/util/function/BiFunction;" (fun q : Nat => s.heap.size ≤ q) s s.heap := va_Zqof (ht 377 _ (by decide +kernel)) (ht 15 _ (by decide +kernel)) (hs (Cond.isRef (.static "jdk/internal/util/Preconditions" "SIOOBE_FORMATTER" "Ljava/util/function/BiFunction;")) (by decide +kernel)) hA
  have z3 : ∃ t : Option Nat, va_Z "jdk/internal/util/Preconditions" "SIOOBE_FORMATTER" "Ljava/util/function/BiFunction;" (va_rf t) (fun q : Nat => s.heap.size ≤ q) s s.heap := by
    rcases z2 with h | ⟨t, h⟩
    · exact ⟨none, h⟩
    · exact ⟨some t, h⟩
  have hlit : ∀ (j : Nat) (q : Nat × String), stexts[j]? = some q → vk_R RX8 q.1 q.2 (adK j) s := fun j q hq => by
    match j, hq with
    | 0, hq =>
      obtain rfl : (88, "table") = q := Option.some.inj hq
      exact vk_R.of (ht 347 _ (by decide +kernel)) (hval 0 (by decide))
    | 1, hq =>
      obtain rfl : (94, "view") = q := Option.some.inj hq
      exact vk_R.of (ht 400 _ (by decide +kernel)) (hval 1 (by decide))
    | 2, hq =>
      obtain rfl : (96, "copy") = q := Option.some.inj hq
      exact vk_R.of (ht 401 _ (by decide +kernel)) (hval 2 (by decide))
    | 3, hq =>
      obtain rfl : (98, "from") = q := Option.some.inj hq
      exact vk_R.of (ht 402 _ (by decide +kernel)) (hval 3 (by decide))
    | 4, hq =>
      obtain rfl : (100, "where") = q := Option.some.inj hq
      exact vk_R.of (ht 403 _ (by decide +kernel)) (hval 4 (by decide))
    | 5, hq =>
      obtain rfl : (102, "len") = q := Option.some.inj hq
      exact vk_R.of (ht 404 _ (by decide +kernel)) (hval 5 (by decide))
    | 6, hq =>
      obtain rfl : (104, "str") = q := Option.some.inj hq
      exact vk_R.of (ht 405 _ (by decide +kernel)) (hval 6 (by decide))
    | k + 7, hq =>
      have hl : k + 7 < 7 := (List.getElem?_eq_some_iff.mp hq).1
      omega
  have hK : ∀ (k : Nat) (q : ClassId × FieldType), [(c0, FieldType.int), (c1, FieldType.long), (c2, FieldType.boolean), (c3, FieldType.object RX7), (c4, FieldType.object RX0)][k]? = some q → ArrOfT s q.1 q.2 ∧ va_RA s q.1 q.2 := fun k q hq => by
    match k, hq with
    | 0, hq =>
      obtain rfl : (c0, FieldType.int) = q := Option.some.inj hq
      exact ⟨a0, f0⟩
    | 1, hq =>
      obtain rfl : (c1, FieldType.long) = q := Option.some.inj hq
      exact ⟨a1, f1⟩
    | 2, hq =>
      obtain rfl : (c2, FieldType.boolean) = q := Option.some.inj hq
      exact ⟨a2, f2⟩
    | 3, hq =>
      obtain rfl : (c3, FieldType.object RX7) = q := Option.some.inj hq
      exact ⟨a3, f3⟩
    | 4, hq =>
      obtain rfl : (c4, FieldType.object RX0) = q := Option.some.inj hq
      exact ⟨a4, f4⟩
    | k + 5, hq =>
      have hl : k + 5 < 5 := (List.getElem?_eq_some_iff.mp hq).1
      omega
  exact ⟨(s.heap.size, (dC, dI), gAof c0 c1 c2 c3 c4, (b, L, xs), adK, adV), rfl, rfl, rfl, ⟨hD, hK⟩, hNW, ⟨va_AO.of o3, va_AO.of o4⟩, ⟨⟨hS, hlit⟩, z1, z3⟩, hX, hbl, Nat.le_refl _⟩
