/-! ===== calls ===== -/
theorem goodTB {y : MethodName} {cc : ByteArray} {nL : Nat} {ret : Option FieldType} (h : Cond.code y cc nL ret ∈ TB) : GoodIn TB (Cond.code y cc nL ret :: TB) := by
  have key : ∀ w ∈ TB, w ∈ TB ∧ ((w.onTables && w.keeps) = true ∨ ∃ ty, w = .arrayClass ty) := fun w hw => ⟨hw, good_of_word (List.mem_filter.mp hw).2⟩
  intro w hw
  rcases List.mem_cons.mp hw with rfl | hw
  · exact key _ h
  · exact key _ hw
theorem nest_warm {w : Cond} {s U : State} (hn : isNest w = true) (hW : s.WarmedH U.vm) (h : va_Nw w s) : va_Nw w U := by
  cases w <;> first | exact va_Nw.warmF hW h | exact va_Nw.warmM hW h | exact Bool.noConfusion hn
theorem nest_same {w : Cond} {u U : State} (hn : isNest w = true) (hv : u.vm = U.vm) (h : va_Nw w u) : va_Nw w U := by
  cases w <;> first | exact Bool.noConfusion hn | exact va_Nw.same rfl hv h
theorem EnvOK.warm {G : GG} {s U : State} {H : Heap} {locs : List Loc} (h : EnvOK G s) (hW : s.WarmedH U.vm) (hU : U.heap = H) (hS : va_S (gF G) s.heap H locs) : EnvOK G U := by
  obtain ⟨h1, h2, ⟨h3, h4⟩, ⟨⟨h5, h6⟩, h10, t11, h11⟩, h7, h8, h9⟩ := h
  have hal := hW.alike
  have keep : ∀ a : Nat, a < s.heap.size → ¬ gF G a → U.heap[a]? = s.heap[a]? := fun a g1 g2 => by rw [hU]; exact hS.2.1 a g1 g2
  exact ⟨h1.moved hal, fun w hw => nest_warm (List.mem_filter.mp hw).2 hW (h2 w hw), ⟨h3.moved hal, h4.moved hal⟩, ⟨⟨(h5.moved hal).kept keep, fun j q hq => (h6 j q hq).warm hW⟩, (h10.moved hal).kept keep, t11, (h11.moved hal).kept keep⟩, (h7.moved hal).kept (keep _ (by omega) (by show ¬ gsz G ≤ _; omega)), h8, by rw [hU]; exact Nat.le_trans h9 hS.1⟩
theorem EnvOK.same {G : GG} {u U : State} (h : EnvOK G u) (hv : u.vm = U.vm) (hh : U.heap = u.heap) : EnvOK G U := by
  obtain ⟨h1, h2, ⟨h3, h4⟩, ⟨⟨h5, h6⟩, h10, t11, h11⟩, h7, h8, h9⟩ := h
  have hal : u.vm.Alike U.vm := by rw [← hv]; exact Vm.Alike.refl _
  exact ⟨h1.moved hal, fun w hw => nest_same (List.mem_filter.mp hw).2 hv (h2 w hw), ⟨h3.moved hal, h4.moved hal⟩, ⟨⟨(h5.moved hal).kept (fun a _ _ => by rw [hh]), fun j q hq => (h6 j q hq).same hv.symm⟩, (h10.moved hal).kept (fun a _ _ => by rw [hh]), t11, (h11.moved hal).kept (fun a _ _ => by rw [hh])⟩, (h7.moved hal).kept (by rw [hh]), h8, by rw [hh]; exact h9⟩
theorem PcA.blind {G : GG} {X : XX} {v : VV} {avs : List AV} : FrameBlind (PcA G X v avs) := fun _ U _ _ h => ⟨h.1, h.2.1, h.2.2.1.same (u := U) rfl rfl, h.2.2.2⟩
theorem x_back {p : Program} {l : Launch} {e : Env} {R : Room} {s : State} {m : MethodId} {args : Array Value} {below : List Frame} {meth : Method} {c : Code} {H : Heap} {locs : List Loc} {cells slots mc' ms' pc : Nat} {Z : State → Prop} {cls : Array Slot} {st0 restc : List Value} {G : GG} {ret : Option FieldType} {P : QQ} {a : Array Value}
    (hr : va_Run p l e R s m args below meth c H locs cells slots mc' ms' (F0 m pc cls st0) restc (QcA G ret P a) (gF G)) (hS : va_S (gF G) s.heap H locs)
    (kk : ∀ (o : Option AV) (X' : XX) (v' : VV) (H1 : Heap) (locs1 : List Loc), tagOK ret o → (∀ a ∈ o.toList, okv a) → P o X' v' → HR G X' v' H1 → va_S (gF G) s.heap H1 locs1 → W p l e R s m args below meth c H1 locs1 (cells + mc') (slots + ms') Z (F0 m (pc + 3) cls ((o.map (conc G)).toList ++ restc))) : W p l e R s m args below meth c H locs cells slots Z (F0 m pc cls st0) := by
  intro T hT X
  obtain ⟨v, st₀, t, T', L, h0, X', hL, e1, e2, ⟨⟨o, Xn, vn, ho, htag, hok, hp, hh⟩, hz, hk⟩, st⟩ := hr T hT X
  cases ho
  rw [h0] at hz hk
  obtain ⟨t2, a1, b1⟩ := kk o Xn vn T'.heap (locs ++ L) htag hok hp (by rw [e1]; exact hh)
    ⟨Nat.le_trans hS.1 (by rw [e1]; exact hz), fun q h1 h2 => by rw [e1, hk q (Nat.lt_of_lt_of_le h1 hS.1) h2]; exact hS.2.1 q h1 h2, fun q hq => by
      rcases List.mem_append.mp hq with h | h
      · exact hS.2.2 q h
      · exact hL q h⟩ T' rfl X'
  exact ⟨t2, st t2 a1, b1⟩
theorem sum_cat (G : GG) (l : List AV) : ((l.map (conc G)).map fun v => v.category).sum = (l.map (fun a => if a.1 = 1 then 2 else 1)).sum := by
  rw [List.map_map, show ((fun v : Value => v.category) ∘ conc G) = (fun a => if a.1 = 1 then 2 else 1) from funext (fun a => conc_cat G a)]
theorem x_inv {M : MM} {d pc : Nat} {ls : List AV} {X : XX} {v : VV} {mc ms : Nat} {Q : QQ} {rest : List AV} {M' : MM} {d' mc' ms' idx ci n len : Nat} {r : Int} {avs : List AV} {P : QQ} (hd : decode M.2.1 pc = .ok (.invokevirtual idx, 3)) (hw : CV M.1.cls idx M' ci n) (hC : Con M' d' mc' ms' ((2, r) :: avs) X v P) (hs : X.1.2 r = (ci, len)) (hc : ci < 100) (hr : 0 ≤ r ∧ r < X.1.1) {st : List AV} (hst2 : st = avs.reverse ++ (2, r) :: rest) (hn : avs.length = n) (hdd : d' + 1 ≤ d) (h1 : mc' ≤ mc) (h2 : ms' ≤ ms) (hrest : (rest.map (fun a => if a.1 = 1 then 2 else 1)).sum ≤ 8)
    (kk : ∀ (o : Option AV) (X' : XX) (v' : VV), tagOK M'.2.2.2 o → P o X' v' → Ex M d (pc + 3) ls (o.toList ++ rest) X' v' (mc - mc') (ms - ms') Q) : Ex M d pc ls st X v mc ms Q := by
  subst hst2
  intro G p l e R s m args below meth c Z hX hR H locs cells slots cls hH hS hL hO hcX hsX
  obtain ⟨⟨T0, N0, hcl⟩, w1, w2, w3, w4, w5, w6, w7⟩ := hw
  obtain ⟨r0, g1, cell, q1, q2, q3, -⟩ := hH.obj hs hc hr
  cases g1.symm.trans hcl
  have hts := hX.2.2.2.2.2.1
  have hE := hX.2.2.2.2.2.2.2.2.1
  have hD1 := hX.2.2.2.2.2.2.2.2.2.1
  have hD2 := hX.2.2.2.2.2.2.2.2.2.2
  have hK := hE.1.1 ci _ hcl
  have hAv : ∀ a ∈ (2, r) :: avs, okv a := fun a ha => by
    rcases List.mem_cons.mp ha with rfl | ha
    · exact okv_r
    · exact hO a (List.mem_append_left _ (List.mem_reverse.mpr ha))
  have hRs : ∀ a ∈ rest, okv a := fun a ha => hO a (List.mem_append_right _ (List.mem_cons_of_mem _ ha))
  have cw : CallW R s args M.1.cls M'.1.cls idx M'.1 M'.2.1 M'.2.2.1 M'.2.2.2 (Cond.code M'.1 M'.2.1 M'.2.2.1 M'.2.2.2 :: TB) (RM d' mc' ms') mc' ms' n :=
    ⟨callB_of n hts (goodTB w4) rfl rfl rfl (hts _ w5) (hts _ w1) w6 ⟨by show d' + 1 ≤ _; omega, by show 8 + (M'.2.2.1 + 11) + 40 * d' ≤ _; omega⟩, hts _ w2, hts _ w3⟩
  refine x_back (va_runV (b := gsz G + r.toNat) (As := avs.map (conc G)) (rest := rest.map (conc G)) ⟨hX.1, hX.2.1, hX.2.2.1, hX.2.2.2.2.1, hts⟩ (hC l G) cw ⟨PcA.blind, ⟨cell, q1, by rw [q3]; rfl, by rw [q2]; exact hK.2.1⟩, fun U hU hW => ⟨?_, hAv, hE.warm hW hU hS, by rw [hU]; exact hH⟩⟩ rfl (by rw [List.length_map]; exact hn) hL.1 ?_ ?_ hd ⟨by omega, by omega⟩) hS fun o X' v' H1 locs1 f1 f0 f2 f3 f4 => ?_
  · show _ = ((conc G (2, r)) :: _).toArray
    rw [show conc G (2, r) = .ref (gsz G + r.toNat) from cref_nn G hr.1]
  · show List.map (conc G) _ = _
    rw [List.map_append, List.map_reverse, List.map_cons, show conc G (2, r) = .ref (gsz G + r.toNat) from cref_nn G hr.1]
  · show 2 * 0 + _ ≤ 8
    rw [sum_cat]; omega
  · have k2 := kk o X' v' f1 f2 G p l e R s m args below meth c Z hX hR H1 locs1 (cells + mc') (slots + ms') cls f3 f4 hL (List.forall_mem_append.mpr ⟨f0, hRs⟩) (by omega) (by omega)
    rw [List.map_append] at k2
    cases o <;> exact k2
theorem x_static {M : MM} {d pc : Nat} {ls : List AV} {X : XX} {v : VV} {mc ms : Nat} {Q : QQ} {rest : List AV} {M' : MM} {d' mc' ms' idx n : Nat} {avs : List AV} {P : QQ} (hd : decode M.2.1 pc = .ok (.invokestatic idx, 3)) (hw : CS M.1.cls idx M' n) (hC : Con M' d' mc' ms' avs X v P) {st : List AV} (hst2 : st = avs.reverse ++ rest) (hn : avs.length = n) (hdd : d' + 1 ≤ d) (h1 : mc' ≤ mc) (h2 : ms' ≤ ms) (hrest : (rest.map (fun a => if a.1 = 1 then 2 else 1)).sum ≤ 8)
    (kk : ∀ (o : Option AV) (X' : XX) (v' : VV), tagOK M'.2.2.2 o → P o X' v' → Ex M d (pc + 3) ls (o.toList ++ rest) X' v' (mc - mc') (ms - ms') Q) : Ex M d pc ls st X v mc ms Q := by
  subst hst2
  intro G p l e R s m args below meth c Z hX hR H locs cells slots cls hH hS hL hO hcX hsX
  obtain ⟨w1, w2, w4, w5, w6, w7⟩ := hw
  have hts := hX.2.2.2.2.2.1
  have hE := hX.2.2.2.2.2.2.2.2.1
  have hD1 := hX.2.2.2.2.2.2.2.2.2.1
  have hD2 := hX.2.2.2.2.2.2.2.2.2.2
  have hp : PreS s H (PcA G X v avs) (avs.map (conc G)) := ⟨PcA.blind, fun U hU hW => ⟨rfl, fun a ha => hO a (List.mem_append_left _ (List.mem_reverse.mpr ha)), hE.warm hW hU hS, by rw [hU]; exact hH⟩⟩
  have e1 : (avs.reverse ++ rest).map (conc G) = (avs.map (conc G)).reverse ++ rest.map (conc G) := by rw [List.map_append, List.map_reverse]
  have e2 : 2 * 0 + ((rest.map (conc G)).map fun v => v.category).sum ≤ 8 := by rw [sum_cat]; omega
  have hR2 : (RM d' mc' ms').frames + 1 ≤ R.frames ∧ 8 + (M'.2.2.1 + 11) + (RM d' mc' ms').locals ≤ R.locals := ⟨by show d' + 1 ≤ _; omega, by show 8 + (M'.2.2.1 + 11) + 40 * d' ≤ _; omega⟩
  have fin_ : ∀ (o : Option AV) (X' : XX) (v' : VV) (H1 : Heap) (locs1 : List Loc), tagOK M'.2.2.2 o → (∀ a ∈ o.toList, okv a) → P o X' v' → HR G X' v' H1 → va_S (gF G) s.heap H1 locs1 → W p l e R s m args below meth c H1 locs1 (cells + mc') (slots + ms') Z (F0 m (pc + 3) cls ((o.map (conc G)).toList ++ rest.map (conc G))) := by
    intro o X' v' H1 locs1 f1 f0 f2 f3 f4
    have k2 := kk o X' v' f1 f2 G p l e R s m args below meth c Z hX hR H1 locs1 (cells + mc') (slots + ms') cls f3 f4 hL (List.forall_mem_append.mpr ⟨f0, fun a ha => hO a (List.mem_append_right _ ha)⟩) (by omega) (by omega)
    rw [List.map_append] at k2
    cases o <;> exact k2
  rcases w1 with w1 | ⟨host, w1⟩
  · exact x_back (va_runS (As := avs.map (conc G)) (rest := rest.map (conc G)) ⟨hX.1, hX.2.1, hX.2.2.1, hX.2.2.2.2.1, hts⟩ (hC l G) ⟨callB_of n hts (goodTB w4) rfl rfl rfl (hts _ w5) (hts _ w1) w6 hR2, hts _ w2⟩ hp rfl (by rw [List.length_map]; exact hn) hL.1 e1 e2 hd ⟨by omega, by omega⟩) hS fin_
  · exact x_back (va_runSN (As := avs.map (conc G)) (rest := rest.map (conc G)) ⟨hX.1, hX.2.1, hX.2.2.1, hX.2.2.2.2.1, hts⟩ (hC l G) ⟨va_cnB n hts (goodTB w4) rfl rfl rfl (hE.2.1 _ w1) (hts _ w5) w6 hR2, hts _ w2, trivial⟩ hp rfl (by rw [List.length_map]; exact hn) hL.1 e1 e2 hd ⟨by omega, by omega⟩) hS fin_
theorem x_init {M : MM} {d pc : Nat} {ls : List AV} {X : XX} {v : VV} {mc ms : Nat} {Q : QQ} {rest : List AV} {M' : MM} {d' mc' ms' idx n : Nat} {r : Int} {avs : List AV} {P : QQ} (hd : decode M.2.1 pc = .ok (.invokespecial idx, 3)) (hw : CI M.1.cls idx M' n) (hC : Con M' d' mc' ms' ((2, r) :: avs) X v P) (hr : 0 ≤ r) {st : List AV} (hst2 : st = avs.reverse ++ (2, r) :: rest) (hn : avs.length = n) (hdd : d' + 1 ≤ d) (h1 : mc' ≤ mc) (h2 : ms' ≤ ms) (hrest : (rest.map (fun a => if a.1 = 1 then 2 else 1)).sum ≤ 8)
    (kk : ∀ (X' : XX) (v' : VV), P none X' v' → Ex M d (pc + 3) ls rest X' v' (mc - mc') (ms - ms') Q) : Ex M d pc ls st X v mc ms Q := by
  subst hst2
  intro G p l e R s m args below meth c Z hX hR H locs cells slots cls hH hS hL hO hcX hsX
  obtain ⟨w1, w2, w3, w8, w4, w5, w6, w7⟩ := hw
  obtain ⟨y, cc, nL, ret⟩ := M'
  dsimp only at w1 w2 w3 w8 w4 w5 w6 w7
  subst w8
  have hts := hX.2.2.2.2.2.1
  have hE := hX.2.2.2.2.2.2.2.2.1
  have hD1 := hX.2.2.2.2.2.2.2.2.2.1
  have hD2 := hX.2.2.2.2.2.2.2.2.2.2
  have hp : PreS s H (PcA G X v ((2, r) :: avs)) (.ref (gsz G + r.toNat) :: avs.map (conc G)) := ⟨PcA.blind, fun U hU hW => ⟨by
    show _ = ((conc G (2, r)) :: _).toArray
    rw [show conc G (2, r) = .ref (gsz G + r.toNat) from cref_nn G hr], fun a ha => by
    rcases List.mem_cons.mp ha with rfl | ha
    · exact okv_r
    · exact hO a (List.mem_append_left _ (List.mem_reverse.mpr ha)), hE.warm hW hU hS, by rw [hU]; exact hH⟩⟩
  have e1 : (avs.reverse ++ (2, r) :: rest).map (conc G) = (avs.map (conc G)).reverse ++ .ref (gsz G + r.toNat) :: rest.map (conc G) := by rw [List.map_append, List.map_reverse, List.map_cons, show conc G (2, r) = .ref (gsz G + r.toNat) from cref_nn G hr]
  have e2 : 2 * 0 + ((rest.map (conc G)).map fun v => v.category).sum ≤ 8 := by rw [sum_cat]; omega
  have hR2 : (RM d' mc' ms').frames + 1 ≤ R.frames ∧ 8 + (nL + 11) + (RM d' mc' ms').locals ≤ R.locals := ⟨by show d' + 1 ≤ _; omega, by show 8 + (nL + 11) + 40 * d' ≤ _; omega⟩
  have fin_ : ∀ (o : Option AV) (X' : XX) (v' : VV) (H1 : Heap) (locs1 : List Loc), tagOK none o → (∀ a ∈ o.toList, okv a) → P o X' v' → HR G X' v' H1 → va_S (gF G) s.heap H1 locs1 → W p l e R s m args below meth c H1 locs1 (cells + mc') (slots + ms') Z (F0 m (pc + 3) cls ((o.map (conc G)).toList ++ rest.map (conc G))) := by
    intro o X' v' H1 locs1 f1 f0 f2 f3 f4
    have f1 : o = none := f1
    subst f1
    exact kk X' v' f2 G p l e R s m args below meth c Z hX hR H1 locs1 (cells + mc') (slots + ms') cls f3 f4 hL (fun a ha => hO a (List.mem_append_right _ (List.mem_cons_of_mem _ ha))) (by omega) (by omega)
  rcases w1 with w1 | ⟨host, w1⟩
  · exact x_back (va_runI (b := gsz G + r.toNat) (As := avs.map (conc G)) (rest := rest.map (conc G)) ⟨hX.1, hX.2.1, hX.2.2.1, hX.2.2.2.2.1, hts⟩ (hC l G) ⟨callB_of n hts (goodTB w4) rfl rfl rfl (hts _ w5) (hts _ w1) w6 hR2, w3, hts _ w2⟩ hp rfl (by rw [List.length_map]; exact hn) hL.1 e1 e2 hd ⟨by omega, by omega⟩) hS fin_
  · exact x_back (va_runIN (b := gsz G + r.toNat) (As := avs.map (conc G)) (rest := rest.map (conc G)) ⟨hX.1, hX.2.1, hX.2.2.1, hX.2.2.2.2.1, hts⟩ (hC l G) ⟨va_cnB n hts (goodTB w4) rfl rfl rfl (hE.2.1 _ w1) (hts _ w5) w6 hR2, w3, hts _ w2⟩ hp rfl (by rw [List.length_map]; exact hn) hL.1 e1 e2 hd ⟨by omega, by omega⟩) hS fin_
theorem x_objInit {M : MM} {d pc : Nat} {ls : List AV} {X : XX} {v : VV} {mc ms : Nat} {Q : QQ} {rest : List AV} {r : Int} {idx : Nat} (hd : decode M.2.1 pc = .ok (.invokespecial idx, 3)) (hw : Cond.methodLink M.1.cls idx objectInit ∈ TB ∧ Cond.instanceMethod objectInit ∈ TB ∧ Cond.code objectInit ⟨#[0xb1]⟩ 1 none ∈ TB) (hr : 0 ≤ r) (hdd : 1 ≤ d) (hrest : (rest.map (fun a => if a.1 = 1 then 2 else 1)).sum ≤ 8) (kk : Ex M d (pc + 3) ls rest X v mc ms Q) : Ex M d pc ls ((2, r) :: rest) X v mc ms Q := by
  intro G p l e R s m args below meth c Z hX hR H locs cells slots cls hH hS hL hO hcX hsX
  obtain ⟨w1, w2, w3⟩ := hw
  have hts := hX.2.2.2.2.2.1
  have hD1 := hX.2.2.2.2.2.2.2.2.2.1
  have hD2 := hX.2.2.2.2.2.2.2.2.2.2
  have k2 := kk G p l e R s m args below meth c Z hX hR H locs cells slots cls hH hS hL (List.forall_mem_cons.mp hO).2 hcX hsX
  simp only [List.map_cons]
  rw [show conc G (2, r) = .ref (gsz G + r.toNat) from cref_nn G hr]
  exact W.objInit hX.1 hX.2.1 hX.2.2.2.2.1 (hts _ w1) (hts _ w2) (hts _ w3) rfl (by rw [hX.2.2.1]; exact hL.1) rfl hd (by omega) (by show 2 * 0 + _ + 12 ≤ _; rw [sum_cat]; omega) k2
/-! ===== a contract out of a walk ===== -/
theorem entL_sl (G : GG) : ∀ (avs : List AV), lg_sl (avs.map (conc G)) = (avs.flatMap (fun a => if a.1 = 1 then [a, (3, 0)] else [a])).map (fun a => if a.1 = 3 then Slot.second else Slot.val (conc G a)) ∨ ∃ a ∈ avs, a.1 = 3
  | [] => Or.inl rfl
  | a :: t => by
    rcases entL_sl G t with h | ⟨b, h1, h2⟩
    · by_cases h3 : a.1 = 3
      · exact Or.inr ⟨a, List.mem_cons_self, h3⟩
      · left
        have e : lg_sl ((a :: t).map (conc G)) = (if (conc G a).category = 2 then [Slot.val (conc G a), .second] else [Slot.val (conc G a)]) ++ lg_sl (t.map (conc G)) := by simp [lg_sl]
        rw [e, h, conc_cat]
        by_cases h1 : a.1 = 1
        · simp [h1]
        · simp [h1, h3]
    · exact Or.inr ⟨b, List.mem_cons_of_mem _ h1, h2⟩
theorem LR.entry (G : GG) {nL : Nat} {avs : List AV} (h3 : ∀ a ∈ avs, a.1 < 3) (hok : ∀ a ∈ avs, okv a) (hle : (avs.flatMap (fun a => if a.1 = 1 then [a, (3, 0)] else [a])).length ≤ nL) : LR G nL ((lg_sl (avs.map (conc G)) ++ List.replicate (nL - (lg_sl (avs.map (conc G))).length) Slot.unset).toArray) (entL nL avs) := by
  have hsl : lg_sl (avs.map (conc G)) = (avs.flatMap (fun a => if a.1 = 1 then [a, (3, 0)] else [a])).map (fun a => if a.1 = 3 then Slot.second else Slot.val (conc G a)) := by
    rcases entL_sl G avs with h | ⟨a, h1, h2⟩
    · exact h
    · exact absurd (h3 a h1) (by omega)
  have hlen : (lg_sl (avs.map (conc G))).length = (avs.flatMap (fun a => if a.1 = 1 then [a, (3, 0)] else [a])).length := by rw [hsl, List.length_map]
  have hh := lv_entry (avs.map (conc G)) (n := nL) (by rw [hlen]; exact hle)
  refine ⟨hh.1, hh.2.1, by simp only [entL, List.length_append, List.length_replicate]; omega, fun i a ha h => ?_, fun a ha => ?_⟩
  rotate_left
  · unfold entL at ha
    rcases List.mem_append.mp ha with ha | ha
    · obtain ⟨b, hb, hab⟩ := List.mem_flatMap.mp ha
      split at hab
      · rcases List.mem_cons.mp hab with rfl | hab
        · exact hok _ hb
        · rw [List.mem_singleton.mp hab]; exact okv_u
      · rw [List.mem_singleton.mp hab]; exact hok _ hb
    · rw [List.eq_of_mem_replicate ha]; exact okv_u
  unfold entL at ha
  simp only [] at ha
  by_cases hi : i < (avs.flatMap (fun a => if a.1 = 1 then [a, (3, 0)] else [a])).length
  · rw [List.getElem?_append_left hi] at ha
    rw [List.getElem?_toArray, List.getElem?_append_left (by rw [hlen]; exact hi), hsl, List.getElem?_map, ha]
    simp only [Option.map_some]
    rw [if_neg (by omega)]
  · rw [List.getElem?_append_right (by omega)] at ha
    have := List.eq_of_mem_replicate (List.mem_of_getElem? ha)
    rw [this] at h
    simp at h
theorem Con.of {M : MM} {d mc ms : Nat} {avs : List AV} {X : XX} {v : VV} {Q : QQ} (hplain : plainName M.1.cls = true) (h3 : ∀ a ∈ avs, a.1 < 3) (hle : (avs.flatMap (fun a => if a.1 = 1 then [a, (3, 0)] else [a])).length ≤ M.2.2.1) (h : Ex M d 0 (entL M.2.2.1 avs) [] X v mc ms Q) : Con M d mc ms avs X v Q := by
  intro l G
  refine Met.ofW (cc := M.2.1) (maxL := M.2.2.1) (ret := M.2.2.2) hplain rfl ?_
  intro p e s m args below meth c s₁ B hml hv
  obtain ⟨rfl, hok, hE, hH⟩ := hv
  have hts := atoms_spec (ws := Cond.code M.1 M.2.1 M.2.2.1 M.2.2.2 :: TB) B.pre
  have hown : s.vm.findClass M.1.cls = some m.cls := findClass_of_methodNamed B.named
  rw [lg_entry_eq]
  refine h G p l e (headSpec (Cond.code M.1 M.2.1 M.2.2.1 M.2.2.2 :: TB) (RM d mc ms)).room s m _ below meth c _ ⟨B.exec, B.bytes, hml, B.returns, hown, fun w hw => hts w (List.mem_cons_of_mem _ hw), (name_of_methodNamed B.named B.method).1, B.notSynchronized, hE, Nat.le_refl _, Nat.le_refl _⟩ ?_ s.heap [] 0 0 _ hH va_S.rf (LR.entry G h3 hok hle) (fun a ha => by cases ha) (by show 0 + mc ≤ mc; omega) (by show 0 + ms ≤ ms; omega)
  intro o X' v' H locs cells slots pc cls hQ hoo hret hHR hS hc hs
  refine W.widen (k := mc) (n := ms) hc hs ?_
  have hlocks := B.notSynchronized
  have hF : ∀ t : State, t.heap = H → va_F (gF G) s t := fun t ht => hS.F ht
  match o, hret with
  | none, ⟨r1, r2⟩ => exact W.vret B.exec B.bytes (B.returns.trans r2) (fun t ht hW => ⟨⟨none, X', v', rfl, by rw [r2]; rfl, hoo, hQ, by rw [ht]; exact hHR⟩, hF t ht⟩) hS.2.2 r1
  | some (0, i), ⟨r1, r2⟩ =>
    rcases r2 with r2 | ⟨r2, r3⟩
    · exact W.iret B.exec B.bytes (B.returns.trans r2) (fun t ht hW => ⟨⟨some (0, i), X', v', rfl, by rw [r2]; exact ⟨i, rfl⟩, hoo, hQ, by rw [ht]; exact hHR⟩, hF t ht⟩) hS.2.2 r1
    · exact W.zret B.exec B.bytes (B.returns.trans r2) (by rcases r3 with rfl | rfl <;> rfl) (fun t ht hW => ⟨⟨some (0, i), X', v', rfl, by rw [r2]; exact ⟨i, rfl⟩, hoo, hQ, by rw [ht]; exact hHR⟩, hF t ht⟩) hS.2.2 r1
  | some (1, i), ⟨r1, r2⟩ => exact W.lret B.exec B.bytes (B.returns.trans r2) (fun t ht hW => ⟨⟨some (1, i), X', v', rfl, by rw [r2]; exact ⟨i, rfl⟩, hoo, hQ, by rw [ht]; exact hHR⟩, hF t ht⟩) hS.2.2 r1
  | some (2, r), ⟨r1, r2⟩ =>
    rcases r2 with ⟨n, r2⟩ | ⟨n, r2⟩
    · exact W.aret (rt := .object n) B.exec B.bytes (B.returns.trans r2) (Or.inl ⟨n, rfl⟩) (cref_or G r) (fun t ht hW => ⟨⟨some (2, r), X', v', rfl, by rw [r2]; exact ⟨r, rfl⟩, hoo, hQ, by rw [ht]; exact hHR⟩, hF t ht⟩) hS.2.2 r1
    · exact W.aret (rt := .array n) B.exec B.bytes (B.returns.trans r2) (Or.inr ⟨n, rfl⟩) (cref_or G r) (fun t ht hW => ⟨⟨some (2, r), X', v', rfl, by rw [r2]; exact ⟨r, rfl⟩, hoo, hQ, by rw [ht]; exact hHR⟩, hF t ht⟩) hS.2.2 r1
theorem Con.mono {M : MM} {d mc ms : Nat} {avs : List AV} {X : XX} {v : VV} {Q Q' : QQ} (h : Con M d mc ms avs X v Q) (hq : ∀ o X v, Q o X v → Q' o X v) : Con M d mc ms avs X v Q' := by
  intro l G p e ha hc hk s m args below hf happ hP hK
  obtain ⟨n, o, g1, g2, g3, ⟨⟨o', X', v', e1, e2, e0, e3, e4⟩, hF⟩, hL⟩ := h l G p e ha hc hk s m args below hf happ hP hK
  exact ⟨n, o, g1, g2, g3, ⟨⟨o', X', v', e1, e2, e0, hq _ _ _ e3, e4⟩, hF⟩, hL⟩
theorem tagOK_i {ret : Option FieldType} {o : Option AV} (hr : ret = some .int ∨ ret = some .boolean) (h : tagOK ret o) : ∃ i, o = some (0, i) := by
  rcases hr with rfl | rfl <;> exact h
