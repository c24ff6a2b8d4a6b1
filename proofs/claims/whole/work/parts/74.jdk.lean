/-! ===== the strings' own methods ===== -/
theorem tb_in {w : Cond} (h : w ∈ tables_1) (hg : goodWord w = true) : w ∈ TB := List.mem_filter.mpr ⟨List.mem_append_right _ h, hg⟩
abbrev mSlen : MM := (⟨"java/lang/String", "length", "()I"⟩, prog_15_method_54_code, 1, some .int)
abbrev mScod : MM := (⟨"java/lang/String", "coder", "()B"⟩, prog_15_method_152_code, 1, some .byte)
abbrev mSlat : MM := (⟨"java/lang/String", "isLatin1", "()Z"⟩, prog_15_method_154_code, 1, some .boolean)
abbrev mSchr : MM := (⟨"java/lang/String", "charAt", "(I)C"⟩, prog_15_method_56_code, 2, some .char)
abbrev mLchr : MM := (⟨"java/lang/StringLatin1", "charAt", "([BI)C"⟩, prog_16_method_2_code, 2, some .char)
abbrev mSchk : MM := (⟨"java/lang/String", "checkIndex", "(II)V"⟩, prog_15_method_155_code, 2, none)
abbrev mPchk : MM := (⟨"jdk/internal/util/Preconditions", "checkIndex", "(IILjava/util/function/BiFunction;)I"⟩, prog_19_method_11_code, 3, some .int)
def PJ (G : GG) (X : XX) (v : VV) (vals : List Value) : Array Value → State → Prop := fun a U => a = vals.toArray ∧ EnvOK G U ∧ HR G X v U.heap
def QJ (G : GG) (X : XX) (v : VV) (r : Option Value) : Array Value → State → Outcome → State → Prop := fun _ st oc t => (oc = .returned r ∧ HR G X v t.heap) ∧ va_F (gF G) st t
def JMet (M : MM) (d : Nat) (G : GG) (X : XX) (v : VV) (vals : List Value) (r : Option Value) : Prop := ∀ l : Launch, Met l M.1 (Cond.code M.1 M.2.1 M.2.2.1 M.2.2.2 :: TB) (RM d 0 0) (PJ G X v vals) (QJ G X v r) 0 0 (gF G)
theorem PJ.blind {G : GG} {X : XX} {v : VV} {vals : List Value} : FrameBlind (PJ G X v vals) := fun _ U _ _ h => ⟨h.1, h.2.1.same (u := U) rfl rfl, h.2.2⟩
/-- a frame of such a method -/
def JX (M : MM) (d : Nat) (G : GG) (X : XX) (v : VV) (r : Option Value) (pc : Nat) (ls : Array Slot) (st : List Value) : Prop :=
  ∀ (p : Program) (l : Launch) (e : Env) (R : Room) (s : State) (m : MethodId) (args : Array Value) (below : List Frame) (meth : Method) (c : Code), XC M d G p R s m args meth c → ls.size = M.2.2.1 → ∀ (H : Heap) (locs : List Loc), HR G X v H → va_S (gF G) s.heap H locs → W p l e R s m args below meth c H locs 0 0 (MQ below (QJ G X v r) args s 0 0 (gF G)) (F0 m pc ls st)
theorem JMet.of {M : MM} {d : Nat} {G : GG} {X : XX} {v : VV} {vals : List Value} {r : Option Value} (hplain : plainName M.1.cls = true) (ls : Array Slot) (hls : (lg_sl vals ++ List.replicate (M.2.2.1 - (lg_sl vals).length) Slot.unset).toArray = ls) (hsz : ls.size = M.2.2.1) (h : JX M d G X v r 0 ls []) : JMet M d G X v vals r := by
  intro l
  refine Met.ofW (cc := M.2.1) (maxL := M.2.2.1) (ret := M.2.2.2) hplain rfl ?_
  intro p e s m args below meth c s₁ B hml hv
  obtain ⟨rfl, hE, hH⟩ := hv
  have hts := atoms_spec (ws := Cond.code M.1 M.2.1 M.2.2.1 M.2.2.2 :: TB) B.pre
  have hown : s.vm.findClass M.1.cls = some m.cls := findClass_of_methodNamed B.named
  rw [lg_entry_eq, hls]
  exact h p l e (headSpec (Cond.code M.1 M.2.1 M.2.2.1 M.2.2.2 :: TB) (RM d 0 0)).room s m _ below meth c ⟨B.exec, B.bytes, hml, B.returns, hown, fun w hw => hts w (List.mem_cons_of_mem _ hw), (name_of_methodNamed B.named B.method).1, B.notSynchronized, hE, Nat.le_refl _, Nat.le_refl _⟩ hsz s.heap [] hH va_S.rf
theorem j_ret {M : MM} {d pc : Nat} {G : GG} {X : XX} {v : VV} {r : Option Value} {ls : Array Slot} {n : Int32} {ty : FieldType} (hd : decode M.2.1 pc = .ok (.ireturn, 1)) (hr : M.2.2.2 = some ty) (hn : narrow ty (.int n) = .int n) (e : r = some (.int n)) : JX M d G X v r pc ls [.int n] := by
  intro p l e0 R s m args below meth c hX hsz H locs hH hS
  have hlocks := hX.2.2.2.2.2.2.2.1
  subst e
  exact W.zret hX.1 hX.2.1 (hX.2.2.2.1.trans hr) hn (fun t ht hW => ⟨⟨rfl, by rw [ht]; exact hH⟩, hS.F ht⟩) hS.2.2 hd
theorem j_vret {M : MM} {d pc : Nat} {G : GG} {X : XX} {v : VV} {ls : Array Slot} (hd : decode M.2.1 pc = .ok (.return_, 1)) (hr : M.2.2.2 = none) : JX M d G X v none pc ls [] := by
  intro p l e0 R s m args below meth c hX hsz H locs hH hS
  have hlocks := hX.2.2.2.2.2.2.2.1
  exact W.vret hX.1 hX.2.1 (hX.2.2.2.1.trans hr) (fun t ht hW => ⟨⟨rfl, by rw [ht]; exact hH⟩, hS.F ht⟩) hS.2.2 hd
theorem j_back {p : Program} {l : Launch} {e : Env} {R : Room} {s : State} {m : MethodId} {args : Array Value} {below : List Frame} {meth : Method} {c : Code} {H : Heap} {locs : List Loc} {cells slots pc : Nat} {Z : State → Prop} {cls : Array Slot} {st0 restc : List Value} {G : GG} {X0 : XX} {v0 : VV} {r : Option Value} {a : Array Value}
    (hr : va_Run p l e R s m args below meth c H locs cells slots 0 0 (F0 m pc cls st0) restc (QJ G X0 v0 r a) (gF G)) (hS : va_S (gF G) s.heap H locs)
    (kk : ∀ (H1 : Heap) (locs1 : List Loc), HR G X0 v0 H1 → va_S (gF G) s.heap H1 locs1 → W p l e R s m args below meth c H1 locs1 cells slots Z (F0 m (pc + 3) cls (r.toList ++ restc))) : W p l e R s m args below meth c H locs cells slots Z (F0 m pc cls st0) := by
  intro T hT X
  obtain ⟨v, st₀, t, T', L, h0, X', hL, e1, e2, ⟨⟨ho, hh⟩, hz, hk⟩, st⟩ := hr T hT X
  cases ho
  rw [h0] at hz hk
  obtain ⟨t2, a1, b1⟩ := kk T'.heap (locs ++ L) (by rw [e1]; exact hh)
    ⟨Nat.le_trans hS.1 (by rw [e1]; exact hz), fun q h1 h2 => by rw [e1, hk q (Nat.lt_of_lt_of_le h1 hS.1) h2]; exact hS.2.1 q h1 h2, fun q hq => by
      rcases List.mem_append.mp hq with h | h
      · exact hS.2.2 q h
      · exact hL q h⟩ T' rfl X'
  exact ⟨t2, st t2 a1, b1⟩
def JV (own : String) (idx : Nat) (M' : MM) (n : Nat) : Prop := M'.1.cls = "java/lang/String" ∧ Cond.methodLink own idx M'.1 ∈ TB ∧ Cond.instanceMethod M'.1 ∈ TB ∧ Cond.selects M'.1.cls M'.1 M'.1 ∈ TB ∧ CD M' n
def JS (own : String) (idx : Nat) (M' : MM) (n : Nat) : Prop := Cond.methodLink own idx M'.1 ∈ TB ∧ Cond.static M'.1 ∈ TB ∧ CD M' n
theorem EnvOK.str {G : GG} {U : State} (h : EnvOK G U) : vk_S 7 slens sbyts (gK G) (gV G) (gF G) U U.heap := h.2.2.2.1.1.1
theorem EnvOK.lit {G : GG} {U : State} (h : EnvOK G U) {j : Nat} {q : Nat × String} (hj : stexts[j]? = some q) : vk_R RX8 q.1 q.2 (gK G j) U := h.2.2.2.1.1.2 j q hj
theorem EnvOK.st {G : GG} {U : State} (h : EnvOK G U) : ZST G U := h.2.2.2.1.2
theorem j_inv {M M' : MM} {d d' pc idx n i : Nat} {G : GG} {X : XX} {v : VV} {r r' : Option Value} {ls : Array Slot} {rest st As : List Value} (hd : decode M.2.1 pc = .ok (.invokevirtual idx, 3)) (hw : JV M.1.cls idx M' n) (hi : i < 7) (hC : JMet M' d' G X v (.ref (gK G i) :: As) r') (hst : st = As.reverse ++ .ref (gK G i) :: rest) (hn : As.length = n) (hdd : d' + 1 ≤ d) (hrest : (rest.map fun v => v.category).sum ≤ 8) (kk : JX M d G X v r (pc + 3) ls (r'.toList ++ rest)) : JX M d G X v r pc ls st := by
  subst hst
  intro p l e R s m args below meth c hX hsz H locs hH hS
  obtain ⟨w0, w1, w2, w3, w4, w5, w6, w7⟩ := hw
  have hts := hX.2.2.2.2.2.1
  have hE := hX.2.2.2.2.2.2.2.2.1
  have hD1 := hX.2.2.2.2.2.2.2.2.2.1
  have hD2 := hX.2.2.2.2.2.2.2.2.2.2
  obtain ⟨cell, q1, q2, q3⟩ := vk_recv hE.str hi hS
  have cw : CallW R s args M.1.cls M'.1.cls idx M'.1 M'.2.1 M'.2.2.1 M'.2.2.2 (Cond.code M'.1 M'.2.1 M'.2.2.1 M'.2.2.2 :: TB) (RM d' 0 0) 0 0 n :=
    ⟨callB_of n hts (goodTB w4) rfl rfl rfl (hts _ w5) (hts _ w1) w6 ⟨by show d' + 1 ≤ _; omega, by show 8 + (M'.2.2.1 + 11) + 40 * d' ≤ _; omega⟩, hts _ w2, hts _ w3⟩
  refine j_back (va_runV (b := gK G i) (As := As) (rest := rest) ⟨hX.1, hX.2.1, hX.2.2.1, hX.2.2.2.2.1, hts⟩ (hC l) cw ⟨PJ.blind, ⟨cell, q1, q2, by rw [w0]; exact q3⟩, fun U hU hW => ⟨rfl, hE.warm hW hU hS, by rw [hU]; exact hH⟩⟩ rfl hn hsz rfl ?_ hd ⟨Nat.zero_le _, Nat.zero_le _⟩) hS fun H1 locs1 f3 f4 => kk p l e R s m args below meth c hX hsz H1 locs1 f3 f4
  show 2 * 0 + _ ≤ 8
  omega
theorem j_static {M M' : MM} {d d' pc idx n : Nat} {G : GG} {X : XX} {v : VV} {r r' : Option Value} {ls : Array Slot} {rest st As : List Value} (hd : decode M.2.1 pc = .ok (.invokestatic idx, 3)) (hw : JS M.1.cls idx M' n) (hC : JMet M' d' G X v As r') (hst : st = As.reverse ++ rest) (hn : As.length = n) (hdd : d' + 1 ≤ d) (hrest : (rest.map fun v => v.category).sum ≤ 8) (kk : JX M d G X v r (pc + 3) ls (r'.toList ++ rest)) : JX M d G X v r pc ls st := by
  subst hst
  intro p l e R s m args below meth c hX hsz H locs hH hS
  obtain ⟨w1, w2, w4, w5, w6, w7⟩ := hw
  have hts := hX.2.2.2.2.2.1
  have hE := hX.2.2.2.2.2.2.2.2.1
  have hD1 := hX.2.2.2.2.2.2.2.2.2.1
  have hD2 := hX.2.2.2.2.2.2.2.2.2.2
  have hp : PreS s H (PJ G X v As) As := ⟨PJ.blind, fun U hU hW => ⟨rfl, hE.warm hW hU hS, by rw [hU]; exact hH⟩⟩
  have hR2 : (RM d' 0 0).frames + 1 ≤ R.frames ∧ 8 + (M'.2.2.1 + 11) + (RM d' 0 0).locals ≤ R.locals := ⟨by show d' + 1 ≤ _; omega, by show 8 + (M'.2.2.1 + 11) + 40 * d' ≤ _; omega⟩
  refine j_back (va_runS (As := As) (rest := rest) ⟨hX.1, hX.2.1, hX.2.2.1, hX.2.2.2.2.1, hts⟩ (hC l) ⟨callB_of n hts (goodTB w4) rfl rfl rfl (hts _ w5) (hts _ w1) w6 hR2, hts _ w2⟩ hp rfl hn hsz rfl ?_ hd ⟨Nat.zero_le _, Nat.zero_le _⟩) hS fun H1 locs1 f3 f4 => kk p l e R s m args below meth c hX hsz H1 locs1 f3 f4
  show 2 * 0 + _ ≤ 8
  omega
theorem wC38 : Cond.fieldLink "java/lang/String" 38 "java/lang/String" "COMPACT_STRINGS" "Z" ∈ TB := tb_in (by decide +kernel) (by decide +kernel)
theorem wF15 : Cond.fieldLink "java/lang/String" 15 "java/lang/String" "coder" "B" ∈ TB := tb_in (by decide +kernel) (by decide +kernel)
theorem wF9 : Cond.fieldLink "java/lang/String" 9 "java/lang/String" "value" "[B" ∈ TB := tb_in (by decide +kernel) (by decide +kernel)
theorem wF1053 : Cond.fieldLink "java/lang/String" 1053 "jdk/internal/util/Preconditions" "SIOOBE_FORMATTER" "Ljava/util/function/BiFunction;" ∈ TB := tb_in (by decide +kernel) (by decide +kernel)
set_option maxRecDepth 100000 in
set_option maxHeartbeats 4000000 in
theorem jm_coder {G : GG} {X : XX} {v : VV} {i : Nat} (hi : i < 7) : JMet mScod 0 G X v [.ref (gK G i)] (some (.int 0)) := by
  refine JMet.of (by decide +kernel) #[.val (.ref (gK G i))] rfl rfl ?_
  intro p l e R s m args below meth c hX hsz H locs hH hS
  have hts := hX.2.2.2.2.2.1
  have hE := hX.2.2.2.2.2.2.2.2.1
  have hown := hX.2.2.2.2.1
  refine va_gets hX.1 hX.2.1 hE.st.1 hS hown (hts _ wC38) (fun _ h => h) (show decode prog_15_method_152_code 0 = .ok (.getstatic 38, 3) by decide +kernel) ?_
  refine lv_if_eq (tgt := 13) hX.1 hX.2.1 (show decode prog_15_method_152_code 3 = .ok (.ifCond .eq 10, 3) by decide +kernel) rfl (fun h => absurd h (by decide)) (fun _ => ?_)
  refine lv_aload_n hX.1 hX.2.1 (show decode prog_15_method_152_code 6 = .ok (.aload_n 0, 1) by decide +kernel) rfl rfl ?_
  refine vk_getf hX.1 hX.2.1 (hE.str.1 i hi).2.1 hS hown (hts _ wF15) (fun _ h => h) (show decode prog_15_method_152_code 7 = .ok (.getfield 15, 3) by decide +kernel) ?_
  refine lv_goto (tgt := 14) hX.1 hX.2.1 (show decode prog_15_method_152_code 10 = .ok (.goto 4, 3) by decide +kernel) rfl ?_
  exact j_ret (M := mScod) (ty := .byte) (show decode prog_15_method_152_code 14 = .ok (.ireturn, 1) by decide +kernel) rfl (by decide) rfl p l e R s m args below meth c hX hsz H locs hH hS
set_option maxRecDepth 100000 in
set_option maxHeartbeats 4000000 in
theorem jm_latin {G : GG} {X : XX} {v : VV} {i : Nat} (hi : i < 7) : JMet mSlat 0 G X v [.ref (gK G i)] (some (.int 1)) := by
  refine JMet.of (by decide +kernel) #[.val (.ref (gK G i))] rfl rfl ?_
  intro p l e R s m args below meth c hX hsz H locs hH hS
  have hts := hX.2.2.2.2.2.1
  have hE := hX.2.2.2.2.2.2.2.2.1
  have hown := hX.2.2.2.2.1
  refine va_gets hX.1 hX.2.1 hE.st.1 hS hown (hts _ wC38) (fun _ h => h) (show decode prog_15_method_154_code 0 = .ok (.getstatic 38, 3) by decide +kernel) ?_
  refine lv_if_eq (tgt := 17) hX.1 hX.2.1 (show decode prog_15_method_154_code 3 = .ok (.ifCond .eq 14, 3) by decide +kernel) rfl (fun h => absurd h (by decide)) (fun _ => ?_)
  refine lv_aload_n hX.1 hX.2.1 (show decode prog_15_method_154_code 6 = .ok (.aload_n 0, 1) by decide +kernel) rfl rfl ?_
  refine vk_getf hX.1 hX.2.1 (hE.str.1 i hi).2.1 hS hown (hts _ wF15) (fun _ h => h) (show decode prog_15_method_154_code 7 = .ok (.getfield 15, 3) by decide +kernel) ?_
  refine lv_if_ne (tgt := 17) hX.1 hX.2.1 (show decode prog_15_method_154_code 10 = .ok (.ifCond .ne 7, 3) by decide +kernel) rfl (fun h => absurd rfl h) (fun _ => ?_)
  refine lv_iconst hX.1 hX.2.1 (show decode prog_15_method_154_code 13 = .ok (.iconst 1, 1) by decide +kernel) rfl ?_
  refine lv_goto (tgt := 18) hX.1 hX.2.1 (show decode prog_15_method_154_code 14 = .ok (.goto 4, 3) by decide +kernel) rfl ?_
  exact j_ret (M := mSlat) (ty := .boolean) (show decode prog_15_method_154_code 18 = .ok (.ireturn, 1) by decide +kernel) rfl (by decide) rfl p l e R s m args below meth c hX hsz H locs hH hS
theorem jvS335 : JV "java/lang/String" 335 mScod 0 := ⟨rfl, tb_in (by decide +kernel) (by decide +kernel), tb_in (by decide +kernel) (by decide +kernel), tb_in (by decide +kernel) (by decide +kernel), tb_in (by decide +kernel) (by decide +kernel), tb_in (by decide +kernel) (by decide +kernel), ⟨by decide +kernel, by decide +kernel, by decide +kernel⟩, by decide⟩
theorem jvS492 : JV "java/lang/String" 492 mSlat 0 := ⟨rfl, tb_in (by decide +kernel) (by decide +kernel), tb_in (by decide +kernel) (by decide +kernel), tb_in (by decide +kernel) (by decide +kernel), tb_in (by decide +kernel) (by decide +kernel), tb_in (by decide +kernel) (by decide +kernel), ⟨by decide +kernel, by decide +kernel, by decide +kernel⟩, by decide⟩
theorem jv106 : JV RX8 106 mSlen 0 := ⟨rfl, tb_in (by decide +kernel) (by decide +kernel), tb_in (by decide +kernel) (by decide +kernel), tb_in (by decide +kernel) (by decide +kernel), tb_in (by decide +kernel) (by decide +kernel), tb_in (by decide +kernel) (by decide +kernel), ⟨by decide +kernel, by decide +kernel, by decide +kernel⟩, by decide⟩
theorem jv111 : JV RX8 111 mSchr 1 := ⟨rfl, tb_in (by decide +kernel) (by decide +kernel), tb_in (by decide +kernel) (by decide +kernel), tb_in (by decide +kernel) (by decide +kernel), tb_in (by decide +kernel) (by decide +kernel), tb_in (by decide +kernel) (by decide +kernel), ⟨by decide +kernel, by decide +kernel, by decide +kernel⟩, by decide⟩
theorem jsS495 : JS "java/lang/String" 495 mLchr 2 := ⟨tb_in (by decide +kernel) (by decide +kernel), tb_in (by decide +kernel) (by decide +kernel), tb_in (by decide +kernel) (by decide +kernel), tb_in (by decide +kernel) (by decide +kernel), ⟨by decide +kernel, by decide +kernel, by decide +kernel⟩, by decide⟩
theorem jsL9 : JS "java/lang/StringLatin1" 9 mSchk 2 := ⟨tb_in (by decide +kernel) (by decide +kernel), tb_in (by decide +kernel) (by decide +kernel), tb_in (by decide +kernel) (by decide +kernel), tb_in (by decide +kernel) (by decide +kernel), ⟨by decide +kernel, by decide +kernel, by decide +kernel⟩, by decide⟩
theorem jsS1059 : JS "java/lang/String" 1059 mPchk 3 := ⟨tb_in (by decide +kernel) (by decide +kernel), tb_in (by decide +kernel) (by decide +kernel), tb_in (by decide +kernel) (by decide +kernel), tb_in (by decide +kernel) (by decide +kernel), ⟨by decide +kernel, by decide +kernel, by decide +kernel⟩, by decide⟩
set_option maxRecDepth 100000 in
set_option maxHeartbeats 4000000 in
theorem jm_length {G : GG} {X : XX} {v : VV} {i : Nat} (hi : i < 7) : JMet mSlen 1 G X v [.ref (gK G i)] (some (.int (Int32.ofNat (slens.getD i 0)))) := by
  refine JMet.of (by decide +kernel) #[.val (.ref (gK G i))] rfl rfl ?_
  intro p l e R s m args below meth c hX hsz H locs hH hS
  have hts := hX.2.2.2.2.2.1
  have hE := hX.2.2.2.2.2.2.2.2.1
  have hown := hX.2.2.2.2.1
  obtain ⟨-, -, hV, hT⟩ := hE.str.1 i hi
  refine lv_aload_n hX.1 hX.2.1 (show decode prog_15_method_54_code 0 = .ok (.aload_n 0, 1) by decide +kernel) rfl rfl ?_
  refine vk_getf hX.1 hX.2.1 hV hS hown (hts _ wF9) (fun _ h => h) (show decode prog_15_method_54_code 1 = .ok (.getfield 9, 3) by decide +kernel) ?_
  refine va_tlen hX.1 hX.2.1 hT hS rfl (show decode prog_15_method_54_code 4 = .ok (.arraylength, 1) by decide +kernel) ?_
  refine lv_aload_n hX.1 hX.2.1 (show decode prog_15_method_54_code 5 = .ok (.aload_n 0, 1) by decide +kernel) rfl rfl ?_
  refine j_inv (M := mSlen) (M' := mScod) (d := 1) (r := some (.int (Int32.ofNat (slens.getD i 0)))) (rest := [.int (Int32.ofNat (slens.getD i 0))]) (As := []) (show decode prog_15_method_54_code 6 = .ok (.invokevirtual 335, 3) by decide +kernel) jvS335 hi (jm_coder hi) rfl rfl (Nat.le_refl _) (Nat.le_of_ble_eq_true rfl) ?_ p l e R s m args below meth c hX hsz H locs hH hS
  intro p l e R s m args below meth c hX hsz H locs hH hS
  refine lv_ishr hX.1 hX.2.1 (x := Int32.ofNat (slens.getD i 0)) (y := 0) (show decode prog_15_method_54_code 9 = .ok (.ishr, 1) by decide +kernel) ?_
  have e0 : Int32.ofNat (slens.getD i 0) >>> ((0 : Int32) &&& 31) = Int32.ofNat (slens.getD i 0) := by
    have : ∀ i : Fin 7, Int32.ofNat (slens.getD i 0) >>> ((0 : Int32) &&& 31) = Int32.ofNat (slens.getD i 0) := by decide
    exact this ⟨i, hi⟩
  rw [e0]
  exact j_ret (M := mSlen) (ty := .int) (show decode prog_15_method_54_code 10 = .ok (.ireturn, 1) by decide +kernel) rfl rfl rfl p l e R s m args below meth c hX hsz H locs hH hS
def chB (i k : Nat) : Int32 := (sbyts.getD i []).getD k 0
theorem chB_all : ∀ i : Fin 7, ∀ k : Fin 5, (k : Nat) < slens.getD i 0 → ¬ (Int32.ofNat k < 0) ∧ Int32.ofNat k < Int32.ofNat (slens.getD i 0) ∧ (Int32.ofNat k).toNatClampNeg = k ∧ (((chB i k) &&& 255).toUInt32 % 65536).toInt32 = chB i k := by decide +kernel
theorem len5 {i : Nat} (hi : i < 7) : slens.getD i 0 ≤ 5 := by
  have : ∀ i : Fin 7, slens.getD i 0 ≤ 5 := by decide
  exact this ⟨i, hi⟩
set_option maxRecDepth 100000 in
set_option maxHeartbeats 4000000 in
theorem jm_pchkr {G : GG} {X : XX} {v : VV} {i k t : Nat} (hi : i < 7) (hk : k < slens.getD i 0) : JMet mPchk 0 G X v [.int (Int32.ofNat k), .int (Int32.ofNat (slens.getD i 0)), (.ref t)] (some (.int (Int32.ofNat k))) := by
  obtain ⟨h1, h2, -⟩ := chB_all ⟨i, hi⟩ ⟨k, Nat.lt_of_lt_of_le hk (len5 hi)⟩ hk
  refine JMet.of (by decide +kernel) #[.val (.int (Int32.ofNat k)), .val (.int (Int32.ofNat (slens.getD i 0))), .val (.ref t)] rfl rfl ?_
  intro p l e R s m args below meth c hX hsz H locs hH hS
  refine lv_iload_n hX.1 hX.2.1 (show decode prog_19_method_11_code 0 = .ok (.iload_n 0, 1) by decide +kernel) rfl rfl ?_
  refine lv_if_lt (tgt := 9) hX.1 hX.2.1 (show decode prog_19_method_11_code 1 = .ok (.ifCond .lt 8, 3) by decide +kernel) rfl (fun h => absurd h h1) (fun _ => ?_)
  refine lv_iload_n hX.1 hX.2.1 (show decode prog_19_method_11_code 4 = .ok (.iload_n 0, 1) by decide +kernel) rfl rfl ?_
  refine lv_iload_n hX.1 hX.2.1 (show decode prog_19_method_11_code 5 = .ok (.iload_n 1, 1) by decide +kernel) rfl rfl ?_
  refine lv_icmp_lt (tgt := 16) hX.1 hX.2.1 (show decode prog_19_method_11_code 6 = .ok (.if_icmp .lt 10, 3) by decide +kernel) rfl (fun _ => ?_) (fun h => absurd h2 h)
  refine lv_iload_n hX.1 hX.2.1 (show decode prog_19_method_11_code 16 = .ok (.iload_n 0, 1) by decide +kernel) rfl rfl ?_
  exact j_ret (M := mPchk) (ty := .int) (show decode prog_19_method_11_code 17 = .ok (.ireturn, 1) by decide +kernel) rfl rfl rfl p l e R s m args below meth c hX hsz H locs hH hS
set_option maxRecDepth 100000 in
set_option maxHeartbeats 4000000 in
theorem jm_pchkn {G : GG} {X : XX} {v : VV} {i k : Nat} (hi : i < 7) (hk : k < slens.getD i 0) : JMet mPchk 0 G X v [.int (Int32.ofNat k), .int (Int32.ofNat (slens.getD i 0)), .null] (some (.int (Int32.ofNat k))) := by
  obtain ⟨h1, h2, -⟩ := chB_all ⟨i, hi⟩ ⟨k, Nat.lt_of_lt_of_le hk (len5 hi)⟩ hk
  refine JMet.of (by decide +kernel) #[.val (.int (Int32.ofNat k)), .val (.int (Int32.ofNat (slens.getD i 0))), .val .null] rfl rfl ?_
  intro p l e R s m args below meth c hX hsz H locs hH hS
  refine lv_iload_n hX.1 hX.2.1 (show decode prog_19_method_11_code 0 = .ok (.iload_n 0, 1) by decide +kernel) rfl rfl ?_
  refine lv_if_lt (tgt := 9) hX.1 hX.2.1 (show decode prog_19_method_11_code 1 = .ok (.ifCond .lt 8, 3) by decide +kernel) rfl (fun h => absurd h h1) (fun _ => ?_)
  refine lv_iload_n hX.1 hX.2.1 (show decode prog_19_method_11_code 4 = .ok (.iload_n 0, 1) by decide +kernel) rfl rfl ?_
  refine lv_iload_n hX.1 hX.2.1 (show decode prog_19_method_11_code 5 = .ok (.iload_n 1, 1) by decide +kernel) rfl rfl ?_
  refine lv_icmp_lt (tgt := 16) hX.1 hX.2.1 (show decode prog_19_method_11_code 6 = .ok (.if_icmp .lt 10, 3) by decide +kernel) rfl (fun _ => ?_) (fun h => absurd h2 h)
  refine lv_iload_n hX.1 hX.2.1 (show decode prog_19_method_11_code 16 = .ok (.iload_n 0, 1) by decide +kernel) rfl rfl ?_
  exact j_ret (M := mPchk) (ty := .int) (show decode prog_19_method_11_code 17 = .ok (.ireturn, 1) by decide +kernel) rfl rfl rfl p l e R s m args below meth c hX hsz H locs hH hS
theorem jm_pchk {G : GG} {X : XX} {v : VV} {i k : Nat} {t : Option Nat} (hi : i < 7) (hk : k < slens.getD i 0) : JMet mPchk 0 G X v [.int (Int32.ofNat k), .int (Int32.ofNat (slens.getD i 0)), va_rf t] (some (.int (Int32.ofNat k))) := by
  cases t with
  | none => exact jm_pchkn hi hk
  | some t => exact jm_pchkr hi hk
set_option maxRecDepth 100000 in
set_option maxHeartbeats 4000000 in
theorem jm_schk {G : GG} {X : XX} {v : VV} {i k : Nat} (hi : i < 7) (hk : k < slens.getD i 0) : JMet mSchk 1 G X v [.int (Int32.ofNat k), .int (Int32.ofNat (slens.getD i 0))] none := by
  refine JMet.of (by decide +kernel) #[.val (.int (Int32.ofNat k)), .val (.int (Int32.ofNat (slens.getD i 0)))] rfl rfl ?_
  intro p l e R s m args below meth c hX hsz H locs hH hS
  have hts := hX.2.2.2.2.2.1
  have hE := hX.2.2.2.2.2.2.2.2.1
  have hown := hX.2.2.2.2.1
  obtain ⟨-, t, hZ⟩ := hE.st
  refine lv_iload_n hX.1 hX.2.1 (show decode prog_15_method_155_code 0 = .ok (.iload_n 0, 1) by decide +kernel) rfl rfl ?_
  refine lv_iload_n hX.1 hX.2.1 (show decode prog_15_method_155_code 1 = .ok (.iload_n 1, 1) by decide +kernel) rfl rfl ?_
  refine va_gets hX.1 hX.2.1 hZ hS hown (hts _ wF1053) (fun _ h => h) (show decode prog_15_method_155_code 2 = .ok (.getstatic 1053, 3) by decide +kernel) ?_
  refine j_static (M := mSchk) (M' := mPchk) (d := 1) (r := none) (rest := []) (As := [.int (Int32.ofNat k), .int (Int32.ofNat (slens.getD i 0)), va_rf t]) (show decode prog_15_method_155_code 5 = .ok (.invokestatic 1059, 3) by decide +kernel) jsS1059 (jm_pchk hi hk) rfl rfl (Nat.le_refl _) (by decide) ?_ p l e R s m args below meth c hX hsz H locs hH hS
  intro p l e R s m args below meth c hX hsz H locs hH hS
  refine lv_pop hX.1 hX.2.1 (va := .int (Int32.ofNat k)) (show decode prog_15_method_155_code 8 = .ok (.pop, 1) by decide +kernel) rfl ?_
  exact j_vret (M := mSchk) (show decode prog_15_method_155_code 9 = .ok (.return_, 1) by decide +kernel) rfl p l e R s m args below meth c hX hsz H locs hH hS
set_option maxRecDepth 100000 in
set_option maxHeartbeats 4000000 in
theorem jm_lchr {G : GG} {X : XX} {v : VV} {i k : Nat} (hi : i < 7) (hk : k < slens.getD i 0) : JMet mLchr 2 G X v [.ref (gV G i), .int (Int32.ofNat k)] (some (.int (chB i k))) := by
  obtain ⟨h1, h2, h3, h4⟩ := chB_all ⟨i, hi⟩ ⟨k, Nat.lt_of_lt_of_le hk (len5 hi)⟩ hk
  refine JMet.of (by decide +kernel) #[.val (.ref (gV G i)), .val (.int (Int32.ofNat k))] rfl rfl ?_
  intro p l e R s m args below meth c hX hsz H locs hH hS
  obtain ⟨-, -, -, hT⟩ := hX.2.2.2.2.2.2.2.2.1.str.1 i hi
  refine lv_iload_n hX.1 hX.2.1 (show decode prog_16_method_2_code 0 = .ok (.iload_n 1, 1) by decide +kernel) rfl rfl ?_
  refine lv_aload_n hX.1 hX.2.1 (show decode prog_16_method_2_code 1 = .ok (.aload_n 0, 1) by decide +kernel) rfl rfl ?_
  refine va_tlen hX.1 hX.2.1 hT hS rfl (show decode prog_16_method_2_code 2 = .ok (.arraylength, 1) by decide +kernel) ?_
  refine j_static (M := mLchr) (M' := mSchk) (d := 2) (r := some (.int (chB i k))) (rest := []) (As := [.int (Int32.ofNat k), .int (Int32.ofNat (slens.getD i 0))]) (show decode prog_16_method_2_code 3 = .ok (.invokestatic 9, 3) by decide +kernel) jsL9 (jm_schk hi hk) rfl rfl (Nat.le_refl _) (by decide) ?_ p l e R s m args below meth c hX hsz H locs hH hS
  intro p l e R s m args below meth c hX hsz H locs hH hS
  obtain ⟨-, -, -, hT⟩ := hX.2.2.2.2.2.2.2.2.1.str.1 i hi
  refine lv_aload_n hX.1 hX.2.1 (show decode prog_16_method_2_code 6 = .ok (.aload_n 0, 1) by decide +kernel) rfl rfl ?_
  refine lv_iload_n hX.1 hX.2.1 (show decode prog_16_method_2_code 7 = .ok (.iload_n 1, 1) by decide +kernel) rfl rfl ?_
  refine va_tb hX.1 hX.2.1 hT hS (i := Int32.ofNat k) (v := .int (chB i k)) (fun q => q.elim h1 (fun z => by rw [h3] at z; exact absurd hk (Nat.not_lt.mpr z))) ?_ (show decode prog_16_method_2_code 8 = .ok (.baload, 1) by decide +kernel) ?_
  · rw [h3]; rfl
  refine lv_sipush hX.1 hX.2.1 (v := 255) (show decode prog_16_method_2_code 9 = .ok (.sipush 255, 3) by decide +kernel) (by decide) ?_
  refine lv_iand hX.1 hX.2.1 (show decode prog_16_method_2_code 12 = .ok (.iand, 1) by decide +kernel) ?_
  refine lv_i2c hX.1 hX.2.1 (show decode prog_16_method_2_code 13 = .ok (.i2c, 1) by decide +kernel) h4 ?_
  refine j_ret (M := mLchr) (ty := .char) (show decode prog_16_method_2_code 14 = .ok (.ireturn, 1) by decide +kernel) rfl ?_ rfl p l e R s m args below meth c hX hsz H locs hH hS
  have h5 : narrow .char (.int (chB i k)) = .int (chB i k) := by
    have : ∀ i : Fin 7, ∀ k : Fin 5, narrow .char (.int (chB i k)) = .int (chB i k) := by decide +kernel
    exact this ⟨i, hi⟩ ⟨k, Nat.lt_of_lt_of_le hk (len5 hi)⟩
  exact h5
set_option maxRecDepth 100000 in
set_option maxHeartbeats 4000000 in
theorem jm_charAt {G : GG} {X : XX} {v : VV} {i k : Nat} (hi : i < 7) (hk : k < slens.getD i 0) : JMet mSchr 3 G X v [.ref (gK G i), .int (Int32.ofNat k)] (some (.int (chB i k))) := by
  refine JMet.of (by decide +kernel) #[.val (.ref (gK G i)), .val (.int (Int32.ofNat k))] rfl rfl ?_
  intro p l e R s m args below meth c hX hsz H locs hH hS
  refine lv_aload_n hX.1 hX.2.1 (show decode prog_15_method_56_code 0 = .ok (.aload_n 0, 1) by decide +kernel) rfl rfl ?_
  refine j_inv (M := mSchr) (M' := mSlat) (d := 3) (r := some (.int (chB i k))) (rest := []) (As := []) (show decode prog_15_method_56_code 1 = .ok (.invokevirtual 492, 3) by decide +kernel) jvS492 hi (jm_latin hi) rfl rfl (by decide) (by decide) ?_ p l e R s m args below meth c hX hsz H locs hH hS
  intro p l e R s m args below meth c hX hsz H locs hH hS
  have hts := hX.2.2.2.2.2.1
  have hE := hX.2.2.2.2.2.2.2.2.1
  have hown := hX.2.2.2.2.1
  obtain ⟨-, -, hV, -⟩ := hE.str.1 i hi
  refine lv_if_eq (x := 1) (tgt := 16) hX.1 hX.2.1 (show decode prog_15_method_56_code 4 = .ok (.ifCond .eq 12, 3) by decide +kernel) rfl (fun h => absurd h (by decide)) (fun _ => ?_)
  refine lv_aload_n hX.1 hX.2.1 (show decode prog_15_method_56_code 7 = .ok (.aload_n 0, 1) by decide +kernel) rfl rfl ?_
  refine vk_getf hX.1 hX.2.1 hV hS hown (hts _ wF9) (fun _ h => h) (show decode prog_15_method_56_code 8 = .ok (.getfield 9, 3) by decide +kernel) ?_
  refine lv_iload_n hX.1 hX.2.1 (show decode prog_15_method_56_code 11 = .ok (.iload_n 1, 1) by decide +kernel) rfl rfl ?_
  refine j_static (M := mSchr) (M' := mLchr) (d := 3) (r := some (.int (chB i k))) (rest := []) (As := [.ref (gV G i), .int (Int32.ofNat k)]) (show decode prog_15_method_56_code 12 = .ok (.invokestatic 495, 3) by decide +kernel) jsS495 (jm_lchr hi hk) rfl rfl (Nat.le_refl _) (by decide) ?_ p l e R s m args below meth c hX hsz H locs hH hS
  refine j_ret (M := mSchr) (ty := .char) (show decode prog_15_method_56_code 15 = .ok (.ireturn, 1) by decide +kernel) rfl ?_ rfl
  have : ∀ i : Fin 7, ∀ k : Fin 5, narrow .char (.int (chB i k)) = .int (chB i k) := by decide +kernel
  exact this ⟨i, hi⟩ ⟨k, Nat.lt_of_lt_of_le hk (len5 hi)⟩
/-! ===== in the class ===== -/
theorem conc_str {G : GG} (j : Nat) : conc G (2, -3 - (j : Int)) = .ref (gK G j) := by
  show cref G (-3 - (j : Int)) = _
  unfold cref oref
  rw [if_neg (by omega), if_neg (by omega), show (-(-3 - (j : Int) + 2)).toNat = j + 1 by omega]
  rfl
theorem x_ldcS {M : MM} {d pc : Nat} {ls : List AV} {X : XX} {v : VV} {mc ms : Nat} {Q : QQ} {rest : List AV} {idx : Nat} {tx : String} (j : Nat) (hd : decode M.2.1 pc = .ok (.ldc idx, 2)) (ho : M.1.cls = RX8) (hj : stexts[j]? = some (idx, tx)) (k : Ex M d (pc + 2) ls ((2, -3 - (j : Int)) :: rest) X v mc ms Q) : Ex M d pc ls rest X v mc ms Q := by
  intro G p l e R s m args below meth c Z hX hR H locs cells slots cls hH hS hL hO hc hs
  have k2 := k G p l e R s m args below meth c Z hX hR H locs cells slots cls hH hS hL (List.forall_mem_cons.mpr ⟨okv_r, hO⟩) hc hs
  simp only [List.map_cons] at k2
  rw [conc_str] at k2
  exact va_ldcS hX.1 hX.2.1 (own := RX8) (tx := tx) (by rw [← ho]; exact hX.2.2.2.2.1) (hX.2.2.2.2.2.2.2.2.1.lit hj) hd k2
theorem x_str {M M' : MM} {d d' pc idx n : Nat} {ls : List AV} {X : XX} {v : VV} {mc ms : Nat} {Q : QQ} {rest avs st : List AV} {z : Int} (j : Nat) (hd : decode M.2.1 pc = .ok (.invokevirtual idx, 3)) (hw : JV M.1.cls idx M' n) (hi : j < 7) (hC : ∀ G : GG, JMet M' d' G X v (.ref (gK G j) :: avs.map (conc G)) (some (.int (Int32.ofInt z)))) (hz : i32 z) (hst : st = avs.reverse ++ (2, -3 - (j : Int)) :: rest) (hn : avs.length = n) (hdd : d' + 1 ≤ d) (hrest : (rest.map (fun a => if a.1 = 1 then 2 else 1)).sum ≤ 8) (kk : Ex M d (pc + 3) ls ((0, z) :: rest) X v mc ms Q) : Ex M d pc ls st X v mc ms Q := by
  subst hst
  intro G p l e R s m args below meth c Z hX hR H locs cells slots cls hH hS hL hO hcX hsX
  obtain ⟨w0, w1, w2, w3, w4, w5, w6, w7⟩ := hw
  have hts := hX.2.2.2.2.2.1
  have hE := hX.2.2.2.2.2.2.2.2.1
  have hD1 := hX.2.2.2.2.2.2.2.2.2.1
  have hD2 := hX.2.2.2.2.2.2.2.2.2.2
  obtain ⟨cell, q1, q2, q3⟩ := vk_recv hE.str hi hS
  have hRs : ∀ a ∈ rest, okv a := fun a ha => hO a (List.mem_append_right _ (List.mem_cons_of_mem _ ha))
  have cw : CallW R s args M.1.cls M'.1.cls idx M'.1 M'.2.1 M'.2.2.1 M'.2.2.2 (Cond.code M'.1 M'.2.1 M'.2.2.1 M'.2.2.2 :: TB) (RM d' 0 0) 0 0 n :=
    ⟨callB_of n hts (goodTB w4) rfl rfl rfl (hts _ w5) (hts _ w1) w6 ⟨by show d' + 1 ≤ _; omega, by show 8 + (M'.2.2.1 + 11) + 40 * d' ≤ _; omega⟩, hts _ w2, hts _ w3⟩
  refine j_back (va_runV (b := gK G j) (As := avs.map (conc G)) (rest := rest.map (conc G)) ⟨hX.1, hX.2.1, hX.2.2.1, hX.2.2.2.2.1, hts⟩ (hC G l) cw ⟨PJ.blind, ⟨cell, q1, q2, by rw [w0]; exact q3⟩, fun U hU hW => ⟨rfl, hE.warm hW hU hS, by rw [hU]; exact hH⟩⟩ rfl (by rw [List.length_map]; exact hn) hL.1 ?_ ?_ hd ⟨by omega, by omega⟩) hS fun H1 locs1 f3 f4 => ?_
  · show List.map (conc G) _ = _
    rw [List.map_append, List.map_reverse, List.map_cons, conc_str]
  · show 2 * 0 + _ ≤ 8
    rw [sum_cat]; omega
  · have k2 := kk G p l e R s m args below meth c Z hX hR H1 locs1 cells slots cls f3 f4 hL (List.forall_mem_cons.mpr ⟨okv_i hz, hRs⟩) hcX hsX
    rw [List.map_cons] at k2
    exact k2
