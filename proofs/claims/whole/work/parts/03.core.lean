abbrev AV : Type := Nat × Int
/-! ===== numbers ===== -/
def i32 (x : Int) : Prop := -2147483648 ≤ x ∧ x < 2147483648
def i64 (x : Int) : Prop := -9223372036854775808 ≤ x ∧ x < 9223372036854775808
theorem i32_0 : i32 0 := ⟨by decide, by decide⟩
theorem i32_toInt {x : Int} (h : i32 x) : (Int32.ofInt x).toInt = x := Int32.toInt_ofInt_of_le h.1 h.2
theorem i64_toInt {x : Int} (h : i64 x) : (Int64.ofInt x).toInt = x := Int64.toInt_ofInt_of_le h.1 h.2
theorem i32_eq {x y : Int} (hx : i32 x) (hy : i32 y) : Int32.ofInt x = Int32.ofInt y ↔ x = y := by
  rw [← Int32.toInt_inj, i32_toInt hx, i32_toInt hy]
theorem i32_lt {x y : Int} (hx : i32 x) (hy : i32 y) : Int32.ofInt x < Int32.ofInt y ↔ x < y := by
  rw [Int32.lt_iff_toInt_lt, i32_toInt hx, i32_toInt hy]
theorem i32_le {x y : Int} (hx : i32 x) (hy : i32 y) : Int32.ofInt x ≤ Int32.ofInt y ↔ x ≤ y := by
  rw [Int32.le_iff_toInt_le, i32_toInt hx, i32_toInt hy]
theorem i64_eq {x y : Int} (hx : i64 x) (hy : i64 y) : Int64.ofInt x = Int64.ofInt y ↔ x = y := by
  rw [← Int64.toInt_inj, i64_toInt hx, i64_toInt hy]
theorem i64_lt {x y : Int} (hx : i64 x) (hy : i64 y) : Int64.ofInt x < Int64.ofInt y ↔ x < y := by
  rw [Int64.lt_iff_toInt_lt, i64_toInt hx, i64_toInt hy]
theorem i32_i64 {x : Int} (h : -2147483648 ≤ x ∧ x < 2147483648) : (Int32.ofInt x).toInt64 = Int64.ofInt x := by
  rw [← Int64.toInt_inj, Int32.toInt_toInt64, i32_toInt h, i64_toInt ⟨by have := h.1; omega, by have := h.2; omega⟩]
theorem i64_i32 {x : Int} (h : -2147483648 ≤ x ∧ x < 2147483648) : (Int64.ofInt x).toInt32 = Int32.ofInt x := by
  rw [← Int32.toInt_inj, i32_toInt h, Int64.toInt_toInt32, i64_toInt ⟨by have := h.1; omega, by have := h.2; omega⟩]
  exact Int.bmod_eq_of_le (by have := h.1; omega) (by have := h.2; omega)
theorem lg_cmp_int {x y : Int} (hx : i64 x) (hy : i64 y) : ∃ z : Int, lg_cmp (Int64.ofInt x) (Int64.ofInt y) = Int32.ofInt z ∧ (z = 0 ↔ x = y) ∧ (z < 0 ↔ x < y) ∧ -1 ≤ z ∧ z ≤ 1 := by
  by_cases h1 : x < y
  · refine ⟨-1, ?_, by omega, by omega, by omega, by omega⟩
    unfold lg_cmp
    rw [if_neg (by rw [gt_iff_lt, i64_lt hy hx]; omega), if_neg (by rw [i64_eq hx hy]; omega)]
    rfl
  · by_cases h2 : x = y
    · subst h2
      refine ⟨0, ?_, by omega, by omega, by omega, by omega⟩
      unfold lg_cmp
      rw [if_neg (by rw [gt_iff_lt, i64_lt hx hx]; omega), if_pos rfl]
      rfl
    · refine ⟨1, ?_, by omega, by omega, by omega, by omega⟩
      unfold lg_cmp
      rw [if_pos (by rw [gt_iff_lt, i64_lt hy hx]; omega)]
      rfl
theorem i32_clamp {x : Int} (h0 : 0 ≤ x) (h : x < 2147483648) : (Int32.ofInt x).toNatClampNeg = x.toNat := by
  show (Int32.ofInt x).toInt.toNat = x.toNat
  rw [i32_toInt ⟨by omega, h⟩]
theorem i32_ix {x : Int} {n : Nat} (hn : n < 2147483648) (h : 0 ≤ x ∧ x < n) : ¬ (Int32.ofInt x < 0 ∨ n ≤ (Int32.ofInt x).toNatClampNeg) := by
  rw [i32_clamp h.1 (by omega)]
  rintro (q | q)
  · exact absurd ((i32_lt ⟨by omega, by omega⟩ i32_0).mp q) (by omega)
  · omega
def okv (a : AV) : Prop := (a.1 = 0 → i32 a.2) ∧ (a.1 = 1 → i64 a.2)
theorem okv_i {x : Int} (h : i32 x) : okv (0, x) := ⟨fun _ => h, fun q => absurd q (by simp)⟩
theorem okv_l {x : Int} (h : i64 x) : okv (1, x) := ⟨fun q => absurd q (by simp), fun _ => h⟩
theorem okv_r {x : Int} : okv (2, x) := ⟨fun q => absurd q (by simp), fun q => absurd q (by simp)⟩
theorem okv_u {x : Int} : okv (3, x) := ⟨fun q => absurd q (by simp), fun q => absurd q (by simp)⟩
/-! ===== the judgement: a frame over a picture of the whole heap that was made since the law began ===== -/
abbrev VV : Type := Int → Int → Int
abbrev XX : Type := (Nat × (Int → Nat × Nat)) × (Int → Int → Int)
abbrev GG : Type := Nat × va_G × (Nat → ClassId) × (Nat × Nat × (Nat → Int32)) × (Nat → Nat) × (Nat → Nat)
abbrev QQ : Type := Option AV → XX → VV → Prop
def gsz (G : GG) : Nat := G.1
def gD (G : GG) : va_G := G.2.1
def gA (G : GG) : Nat → ClassId := G.2.2.1
def gb (G : GG) : Nat := G.2.2.2.1.1
def gL (G : GG) : Nat := G.2.2.2.1.2.1
def gxs (G : GG) : Nat → Int32 := G.2.2.2.1.2.2
def gK (G : GG) : Nat → Nat := G.2.2.2.2.1
def gV (G : GG) : Nat → Nat := G.2.2.2.2.2
def gF (G : GG) : Nat → Prop := fun q => gsz G ≤ q
def gext (G : GG) (j : Nat) : Nat := match j with
  | 0 => gb G
  | j + 1 => gK G j
def oref (G : GG) (r : Int) : Option Nat := if 0 ≤ r then some (gsz G + r.toNat) else if r = -1 then none else some (gext G (-(r + 2)).toNat)
def cref (G : GG) (r : Int) : Value := va_rf (oref G r)
def conc (G : GG) (a : AV) : Value := match a.1 with
  | 0 => .int (Int32.ofInt a.2)
  | 1 => .long (Int64.ofInt a.2)
  | _ => cref G a.2
theorem cref_some (G : GG) {x : Int} (h : ¬ x = -1) : ∃ a, cref G x = .ref a := by
  unfold cref oref
  by_cases h0 : 0 ≤ x
  · rw [if_pos h0]; exact ⟨_, rfl⟩
  · rw [if_neg h0, if_neg h]; exact ⟨_, rfl⟩
theorem cref_or (G : GG) (x : Int) : conc G (2, x) = .null ∨ ∃ a, conc G (2, x) = .ref a := by
  by_cases h : x = -1
  · subst h; exact Or.inl rfl
  · exact Or.inr (cref_some G h)
/-- the kinds of the fields: 0 int or boolean, 1 long, 2 a reference -/
def ftags : List (List Nat) := [[0, 0, 0], [2, 0, 0], [2], [2, 2, 2, 2, 2, 2, 0, 0, 0], [2, 0, 0], [2, 2, 2, 2, 0], [2, 0], [1, 2, 2, 2, 2, 0, 0, 0, 0, 0], [2, 2, 2, 2, 2, 2], [2, 0, 0], [2, 2, 2, 2, 2, 2, 2, 2, 2, 2, 2, 0, 0, 0, 0, 0], [0, 2, 2, 2, 2, 2, 2, 2, 2, 2, 2, 2, 2, 2, 2, 2, 2, 2, 2, 2, 2, 2, 0, 0, 0, 0, 0, 0, 0, 0, 0, 0, 1, 1, 1, 1, 1, 1, 1, 1, 2, 0, 0, 2, 2, 2, 2, 2, 2, 2, 0, 0, 0, 2, 2, 2, 2, 0, 2, 0, 2, 2, 2, 2, 0, 0, 2]]
def tgk (kind k : Nat) : Nat := if kind < 100 then (ftags.getD kind []).getD k 3 else [0, 1, 0, 2, 2].getD (kind - 100) 3
def gtys (G : GG) : List (ClassId × FieldType) := [(gA G 0, .int), (gA G 1, .long), (gA G 2, .boolean), (gA G 3, .object RX7), (gA G 4, .object RX0)]
def rawv (X : XX) (v : VV) (kind : Nat) (r : Int) (j : Int) : Int := if tgk kind j.toNat = 2 then X.2 r j else v r j
def slotv (G : GG) (X : XX) (v : VV) (kind : Nat) (r : Int) (j : Nat) : Value := conc G (tgk kind j, if tgk kind j = 2 then X.2 r j else v r j)
def cok (G : GG) (X : XX) (v : VV) (k : Nat) (H : Heap) : Prop := (∀ j : Nat, okv (tgk (X.1.2 k).1 j, v k j)) ∧
  if (X.1.2 k).1 < 100 then ∃ r : vw_C, vwCl[(X.1.2 k).1]? = some r ∧ t_OB (gsz G + k) ((gD G).1 (X.1.2 k).1) r.2.2 ((gD G).2 (X.1.2 k).1) H (slotv G X v (X.1.2 k).1 k)
  else (X.1.2 k).2 < 2147483648 ∧ H[gsz G + k]? = some (arrV (gA G ((X.1.2 k).1 - 100)) (X.1.2 k).2 (slotv G X v (X.1.2 k).1 k))
def HR (G : GG) (X : XX) (v : VV) (H : Heap) : Prop := H.size = gsz G + X.1.1 ∧ ∀ k : Nat, k < X.1.1 → cok G X v k H
def upd2 (v : VV) (r j x : Int) : VV := fun a b => if a = r ∧ b = j then x else v a b
def slens : List Nat := [5, 4, 4, 4, 5, 3, 3]
def sbyts : List (List Int32) := [[116, 97, 98, 108, 101], [118, 105, 101, 119], [99, 111, 112, 121], [102, 114, 111, 109], [119, 104, 101, 114, 101], [108, 101, 110], [115, 116, 114]]
def stexts : List (Nat × String) := [(88, "table"), (94, "view"), (96, "copy"), (98, "from"), (100, "where"), (102, "len"), (104, "str")]
/-- the two statics that the strings' own methods read -/
def ZST (G : GG) (U : State) : Prop := va_Z "java/lang/String" "COMPACT_STRINGS" "Z" (.int 1) (gF G) U U.heap ∧ ∃ t : Option Nat, va_Z "jdk/internal/util/Preconditions" "SIOOBE_FORMATTER" "Ljava/util/function/BiFunction;" (va_rf t) (gF G) U U.heap
def EnvOK (G : GG) (U : State) : Prop := va_K (gD G) vwCl (gtys G) U ∧ (∀ w ∈ NW, va_Nw w U) ∧ (va_AO RX7 U ∧ va_AO RX0 U) ∧ ((vk_S 7 slens sbyts (gK G) (gV G) (gF G) U U.heap ∧ ∀ (j : Nat) (q : Nat × String), stexts[j]? = some q → vk_R RX8 q.1 q.2 (gK G j) U) ∧ ZST G U) ∧ va_X (gb G) (gL G) (gxs G) U U.heap ∧ gb G < gsz G ∧ gsz G ≤ U.heap.size
def XC (M : MM) (d : Nat) (G : GG) (p : Program) (R : Room) (s : State) (m : MethodId) (args : Array Value) (meth : Method) (c : Code) : Prop :=
  p.tables.exec = Jvm.exec ∧ c.code = M.2.1 ∧ c.maxLocals = M.2.2.1 ∧ meth.sig.returnType = M.2.2.2 ∧ s.vm.findClass M.1.cls = some m.cls ∧ (∀ w ∈ TB, w.before args s = true) ∧ meth.name = M.1.name ∧ meth.locks = false ∧ EnvOK G s ∧ d ≤ R.frames ∧ 40 * d ≤ R.locals
def LR (G : GG) (nL : Nat) (cls : Array Slot) (ls : List AV) : Prop := cls.size = nL ∧ lv_wf cls ∧ ls.length = nL ∧ (∀ (i : Nat) (a : AV), ls[i]? = some a → a.1 < 3 → cls[i]? = some (.val (conc G a))) ∧ ∀ a ∈ ls, okv a
def retAt (M : MM) (pc : Nat) (o : Option AV) : Prop := match o with
  | none => decode M.2.1 pc = .ok (.return_, 1) ∧ M.2.2.2 = none
  | some (0, i) => decode M.2.1 pc = .ok (.ireturn, 1) ∧ (M.2.2.2 = some .int ∨ (M.2.2.2 = some .boolean ∧ (i = 0 ∨ i = 1)))
  | some (1, _) => decode M.2.1 pc = .ok (.lreturn, 1) ∧ M.2.2.2 = some .long
  | some (2, _) => decode M.2.1 pc = .ok (.areturn, 1) ∧ ((∃ n, M.2.2.2 = some (.object n)) ∨ ∃ t, M.2.2.2 = some (.array t))
  | _ => False
def tagOK (ret : Option FieldType) (o : Option AV) : Prop := match ret with
  | none => o = none
  | some .int | some .boolean => ∃ i, o = some (0, i)
  | some .long => ∃ i, o = some (1, i)
  | some _ => ∃ r, o = some (2, r)
def Ex (M : MM) (d pc : Nat) (ls st : List AV) (X : XX) (v : VV) (mc ms : Nat) (Q : QQ) : Prop :=
  ∀ (G : GG) (p : Program) (l : Launch) (e : Env) (R : Room) (s : State) (m : MethodId) (args : Array Value) (below : List Frame) (meth : Method) (c : Code) (Z : State → Prop),
    XC M d G p R s m args meth c →
    (∀ (o : Option AV) (X' : XX) (v' : VV) (H : Heap) (locs : List Loc) (cells slots pc : Nat) (cls : Array Slot), Q o X' v' → (∀ a ∈ o.toList, okv a) → retAt M pc o → HR G X' v' H → va_S (gF G) s.heap H locs → cells ≤ R.cells → slots ≤ R.slots →
      W p l e R s m args below meth c H locs cells slots Z (F0 m pc cls (o.toList.map (conc G)))) →
    ∀ (H : Heap) (locs : List Loc) (cells slots : Nat) (cls : Array Slot), HR G X v H → va_S (gF G) s.heap H locs → LR G M.2.2.1 cls ls → (∀ a ∈ st, okv a) → cells + mc ≤ R.cells → slots + ms ≤ R.slots →
      W p l e R s m args below meth c H locs cells slots Z (F0 m pc cls (st.map (conc G)))
def RM (d mc ms : Nat) : Room := { frames := d, cells := mc, slots := ms, locals := 40 * d }
def PcA (G : GG) (X : XX) (v : VV) (avs : List AV) : Array Value → State → Prop := fun a U => a = (avs.map (conc G)).toArray ∧ (∀ a ∈ avs, okv a) ∧ EnvOK G U ∧ HR G X v U.heap
def QcA (G : GG) (ret : Option FieldType) (Q : QQ) : Array Value → State → Outcome → State → Prop := fun _ st oc t => (∃ (o : Option AV) (X' : XX) (v' : VV), oc = .returned (o.map (conc G)) ∧ tagOK ret o ∧ (∀ a ∈ o.toList, okv a) ∧ Q o X' v' ∧ HR G X' v' t.heap) ∧ va_F (gF G) st t
def Con (M : MM) (d mc ms : Nat) (avs : List AV) (X : XX) (v : VV) (Q : QQ) : Prop := ∀ (l : Launch) (G : GG), Met l M.1 (Cond.code M.1 M.2.1 M.2.2.1 M.2.2.2 :: TB) (RM d mc ms) (PcA G X v avs) (QcA G M.2.2.2 Q) mc ms (gF G)
/-- the locals at the entry -/
def entL (nL : Nat) (avs : List AV) : List AV := let l := avs.flatMap (fun a => if a.1 = 1 then [a, (3, 0)] else [a]); l ++ List.replicate (nL - l.length) (3, 0)
/-- storing a local -/
def setLg : List AV → Nat → Nat → AV → List AV
  | [], _, _, _ => []
  | a :: t, j, i, v => (if j = i then v else if j + 1 = i ∧ a.1 = 1 then (3, 0) else if v.1 = 1 ∧ j = i + 1 then (3, 0) else a) :: setLg t (j + 1) i v
theorem setLg_length (i : Nat) (v : AV) : ∀ (l : List AV) (j : Nat), (setLg l j i v).length = l.length
  | [], _ => rfl
  | a :: t, j => by simp [setLg, setLg_length i v t (j + 1)]
theorem setLg_mem {v : AV} {i : Nat} (hv : okv v) : ∀ (l : List AV) (j : Nat), (∀ a ∈ l, okv a) → ∀ a ∈ setLg l j i v, okv a
  | [], _, _, a, ha => by simp [setLg] at ha
  | b :: t, j, h, a, ha => by
    rcases List.mem_cons.mp ha with rfl | ha
    · split
      · exact hv
      · split
        · exact okv_u
        · split
          · exact okv_u
          · exact h b List.mem_cons_self
    · exact setLg_mem hv t (j + 1) (fun a h1 => h a (List.mem_cons_of_mem _ h1)) a ha
theorem setLg_get (i : Nat) (v : AV) : ∀ (l : List AV) (j k : Nat), (setLg l j i v)[k]? = (l[k]?).map (fun a => if j + k = i then v else if j + k + 1 = i ∧ a.1 = 1 then (3, 0) else if v.1 = 1 ∧ j + k = i + 1 then (3, 0) else a)
  | [], _, _ => by simp [setLg]
  | a :: t, j, 0 => by simp [setLg]
  | a :: t, j, k + 1 => by
    simp only [setLg, List.getElem?_cons_succ]
    rw [setLg_get i v t (j + 1) k]
    simp only [Nat.add_assoc, Nat.add_comm 1]
def lvl (G : GG) (ls : List AV) : List (Nat × Value) := (List.range ls.length).filterMap (fun i => match ls[i]? with
  | some a => if a.1 < 3 then some (i, conc G a) else none
  | none => none)
theorem lvl_mem {G : GG} {ls : List AV} {i : Nat} {a : AV} (h : ls[i]? = some a) (h3 : a.1 < 3) : (i, conc G a) ∈ lvl G ls := by
  refine List.mem_filterMap.mpr ⟨i, List.mem_range.mpr (List.getElem?_eq_some_iff.mp h).1, ?_⟩
  rw [h]
  simp [h3]
theorem LR.has {G : GG} {nL : Nat} {cls : Array Slot} {ls : List AV} (h : LR G nL cls ls) : lv_has cls nL (lvl G ls) := by
  refine ⟨h.1, h.2.1, fun q hq => ?_⟩
  obtain ⟨i, -, hi⟩ := List.mem_filterMap.mp hq
  cases ha : ls[i]? with
  | none => rw [ha] at hi; simp at hi
  | some a =>
    rw [ha] at hi
    by_cases h3 : a.1 < 3
    · simp [h3] at hi
      subst hi
      exact h.2.2.2.1 i a ha h3
    · simp [h3] at hi
theorem conc_cat (G : GG) (a : AV) : (conc G a).category = if a.1 = 1 then 2 else 1 := by
  obtain ⟨t, x⟩ := a
  match t with
  | 0 => rfl
  | 1 => rfl
  | t + 2 =>
    show (cref G x).category = _
    unfold cref oref
    simp only [show ¬ (t + 2 = 1) by omega, if_false]
    split
    · rfl
    · split <;> rfl
theorem LR.set1 {G : GG} {nL : Nat} {cls cls' : Array Slot} {ls : List AV} {i : Nat} {v : AV} (ho : okv v) (h : LR G nL cls ls) (hv : ¬ v.1 = 1) (hh : lv_has cls' nL ((i, conc G v) :: (lvl G ls).filter (fun q => !(q.1 == i) && !(q.1 + 1 == i && q.2.category == 2)))) : LR G nL cls' (setLg ls 0 i v) := by
  refine ⟨hh.1, hh.2.1, by rw [setLg_length]; exact h.2.2.1, fun k a hk h3 => ?_, setLg_mem ho ls 0 h.2.2.2.2⟩
  rw [setLg_get] at hk
  cases hl : ls[k]? with
  | none => rw [hl] at hk; simp at hk
  | some b =>
    rw [hl] at hk
    simp only [Option.map_some, Nat.zero_add, Option.some.injEq] at hk
    by_cases h1 : k = i
    · subst h1
      simp at hk
      subst hk
      exact hh.2.2 _ List.mem_cons_self
    · simp only [h1, if_false] at hk
      by_cases h2 : k + 1 = i ∧ b.1 = 1
      · simp only [h2, and_self, if_true] at hk
        subst hk
        simp at h3
      · simp only [h2, if_false, hv, false_and] at hk
        subst hk
        refine hh.2.2 (k, conc G b) (List.mem_cons_of_mem _ (List.mem_filter.mpr ⟨lvl_mem hl h3, ?_⟩))
        simp only [conc_cat]
        by_cases hb : b.1 = 1
        · have : ¬ k + 1 = i := fun q => h2 ⟨q, hb⟩
          simp [h1, this]
        · simp [h1, hb]
theorem LR.set2 {G : GG} {nL : Nat} {cls cls' : Array Slot} {ls : List AV} {i : Nat} {v : AV} (ho : okv v) (h : LR G nL cls ls) (hv : v.1 = 1) (hh : lv_has cls' nL ((i, conc G v) :: (lvl G ls).filter (fun q => !(q.1 == i) && (!(q.1 == i + 1) && !(q.1 + 1 == i && q.2.category == 2))))) : LR G nL cls' (setLg ls 0 i v) := by
  refine ⟨hh.1, hh.2.1, by rw [setLg_length]; exact h.2.2.1, fun k a hk h3 => ?_, setLg_mem ho ls 0 h.2.2.2.2⟩
  rw [setLg_get] at hk
  cases hl : ls[k]? with
  | none => rw [hl] at hk; simp at hk
  | some b =>
    rw [hl] at hk
    simp only [Option.map_some, Nat.zero_add, Option.some.injEq] at hk
    by_cases h1 : k = i
    · subst h1
      simp at hk
      subst hk
      exact hh.2.2 _ List.mem_cons_self
    · simp only [h1, if_false] at hk
      by_cases h2 : k + 1 = i ∧ b.1 = 1
      · simp only [h2, and_self, if_true] at hk
        subst hk
        simp at h3
      · simp only [h2, if_false, hv, true_and] at hk
        by_cases h4 : k = i + 1
        · simp only [h4, if_true] at hk
          subst hk
          simp at h3
        · simp only [h4, if_false] at hk
          subst hk
          refine hh.2.2 (k, conc G b) (List.mem_cons_of_mem _ (List.mem_filter.mpr ⟨lvl_mem hl h3, ?_⟩))
          simp only [conc_cat]
          by_cases hb : b.1 = 1
          · have : ¬ k + 1 = i := fun q => h2 ⟨q, hb⟩
            simp [h1, h4, this]
          · simp [h1, h4, hb]
