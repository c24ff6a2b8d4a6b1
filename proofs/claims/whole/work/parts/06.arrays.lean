/-! ===== arrays ===== -/
theorem slot_nn {i : Int} (h : 0 ≤ i) : ((i.toNat : Nat) : Int) = i := Int.toNat_of_nonneg h

theorem x_iald {M : MM} {d pc : Nat} {ls : List AV} {X : XX} {v : VV} {mc ms : Nat} {Q : QQ} {rest : List AV} {r i e : Int} {len : Nat} (hd : decode M.2.1 pc = .ok (.iaload, 1)) (hs : X.1.2 r = (100, len)) (hr : 0 ≤ r ∧ r < X.1.1) (hi : 0 ≤ i ∧ i < len) (he : v r i = e) (kk : Ex M d (pc + 1) ls ((0, e) :: rest) X v mc ms Q) : Ex M d pc ls ((0, i) :: (2, r) :: rest) X v mc ms Q := by
  subst he
  intro G p l e R s m args below meth c Z hX hR H locs cells slots cls hH hS hL hO hcX hsX
  have k2 := kk G p l e R s m args below meth c Z hX hR H locs cells slots cls hH hS hL (List.forall_mem_cons.mpr ⟨okv_elem hH hs hr hi.1 (t := 0) (fun _ => rfl), (List.forall_mem_cons.mp (List.forall_mem_cons.mp hO).2).2⟩) hcX hsX
  obtain ⟨hlen, hcell⟩ := hH.arr hs (by decide) hr
  simp only [List.map_cons] at k2 ⊢
  rw [show conc G (2, r) = .ref (gsz G + r.toNat) from cref_nn G hr.1]
  have hix := i32_ix hlen hi
  have hcl : (Int32.ofInt i).toNatClampNeg = i.toNat := i32_clamp hi.1 (by omega)
  refine W.iald (v := conc G (0, v r i)) hX.1 hX.2.1 hcell ((hX.2.2.2.2.2.2.2.2.1.1.2 0 _ rfl).1 _ _) (fun q => by cases q) (by rw [arrV_size]; exact hix) ?_ rfl rfl hd k2
  rw [hcl, arrV_read _ _ (by omega)]
  simp only [slotv, tgk]
  rw [slot_nn hi.1]
  rfl

theorem x_lald {M : MM} {d pc : Nat} {ls : List AV} {X : XX} {v : VV} {mc ms : Nat} {Q : QQ} {rest : List AV} {r i e : Int} {len : Nat} (hd : decode M.2.1 pc = .ok (.laload, 1)) (hs : X.1.2 r = (101, len)) (hr : 0 ≤ r ∧ r < X.1.1) (hi : 0 ≤ i ∧ i < len) (he : v r i = e) (kk : Ex M d (pc + 1) ls ((1, e) :: rest) X v mc ms Q) : Ex M d pc ls ((0, i) :: (2, r) :: rest) X v mc ms Q := by
  subst he
  intro G p l e R s m args below meth c Z hX hR H locs cells slots cls hH hS hL hO hcX hsX
  have k2 := kk G p l e R s m args below meth c Z hX hR H locs cells slots cls hH hS hL (List.forall_mem_cons.mpr ⟨okv_elem hH hs hr hi.1 (t := 1) (fun _ => rfl), (List.forall_mem_cons.mp (List.forall_mem_cons.mp hO).2).2⟩) hcX hsX
  obtain ⟨hlen, hcell⟩ := hH.arr hs (by decide) hr
  simp only [List.map_cons] at k2 ⊢
  rw [show conc G (2, r) = .ref (gsz G + r.toNat) from cref_nn G hr.1]
  have hix := i32_ix hlen hi
  have hcl : (Int32.ofInt i).toNatClampNeg = i.toNat := i32_clamp hi.1 (by omega)
  refine W.lald (v := conc G (1, v r i)) hX.1 hX.2.1 hcell ((hX.2.2.2.2.2.2.2.2.1.1.2 1 _ rfl).1 _ _) (fun q => by cases q) (by rw [arrV_size]; exact hix) ?_ rfl rfl hd k2
  rw [hcl, arrV_read _ _ (by omega)]
  simp only [slotv, tgk]
  rw [slot_nn hi.1]
  rfl

theorem x_zald {M : MM} {d pc : Nat} {ls : List AV} {X : XX} {v : VV} {mc ms : Nat} {Q : QQ} {rest : List AV} {r i e : Int} {len : Nat} (hd : decode M.2.1 pc = .ok (.baload, 1)) (hs : X.1.2 r = (102, len)) (hr : 0 ≤ r ∧ r < X.1.1) (hi : 0 ≤ i ∧ i < len) (he : v r i = e) (kk : Ex M d (pc + 1) ls ((0, e) :: rest) X v mc ms Q) : Ex M d pc ls ((0, i) :: (2, r) :: rest) X v mc ms Q := by
  subst he
  intro G p l e R s m args below meth c Z hX hR H locs cells slots cls hH hS hL hO hcX hsX
  have k2 := kk G p l e R s m args below meth c Z hX hR H locs cells slots cls hH hS hL (List.forall_mem_cons.mpr ⟨okv_elem hH hs hr hi.1 (t := 0) (fun _ => rfl), (List.forall_mem_cons.mp (List.forall_mem_cons.mp hO).2).2⟩) hcX hsX
  obtain ⟨hlen, hcell⟩ := hH.arr hs (by decide) hr
  simp only [List.map_cons] at k2 ⊢
  rw [show conc G (2, r) = .ref (gsz G + r.toNat) from cref_nn G hr.1]
  have hix := i32_ix hlen hi
  have hcl : (Int32.ofInt i).toNatClampNeg = i.toNat := i32_clamp hi.1 (by omega)
  refine W.zald (v := conc G (0, v r i)) hX.1 hX.2.1 hcell ((hX.2.2.2.2.2.2.2.2.1.1.2 2 _ rfl).1 _ _) (fun q => by cases q) (by rw [arrV_size]; exact hix) ?_ rfl rfl hd k2
  rw [hcl, arrV_read _ _ (by omega)]
  simp only [slotv, tgk]
  rw [slot_nn hi.1]
  rfl

theorem x_aald {M : MM} {d pc : Nat} {ls : List AV} {X : XX} {v : VV} {mc ms : Nat} {Q : QQ} {rest : List AV} {r r' i : Int} {len ki : Nat} (hd : decode M.2.1 pc = .ok (.aaload, 1)) (hs : X.1.2 r = (ki, len)) (hk : ki = 103 ∨ ki = 104) (hr : 0 ≤ r ∧ r < X.1.1) (hi : 0 ≤ i ∧ i < len) (hx : X.2 r i = r') (kk : Ex M d (pc + 1) ls ((2, r') :: rest) X v mc ms Q) : Ex M d pc ls ((0, i) :: (2, r) :: rest) X v mc ms Q := by
  subst hx
  intro G p l e R s m args below meth c Z hX hR H locs cells slots cls hH hS hL hO hcX hsX
  have k2 := kk G p l e R s m args below meth c Z hX hR H locs cells slots cls hH hS hL (List.forall_mem_cons.mpr ⟨okv_r, (List.forall_mem_cons.mp (List.forall_mem_cons.mp hO).2).2⟩) hcX hsX
  obtain ⟨hlen, hcell⟩ := hH.arr hs (by omega) hr
  simp only [List.map_cons] at k2 ⊢
  rw [show conc G (2, r) = .ref (gsz G + r.toNat) from cref_nn G hr.1]
  have hix := i32_ix hlen hi
  have hcl : (Int32.ofInt i).toNatClampNeg = i.toNat := i32_clamp hi.1 (by omega)
  have hT := hX.2.2.2.2.2.2.2.2.1.1.2
  rcases hk with rfl | rfl
  · refine W.aald (v := conc G (2, X.2 r i)) (ty := .object RX7) hX.1 hX.2.1 hcell ((hT 3 _ rfl).1 _ _) rfl (fun q => by cases q) (by rw [arrV_size]; exact hix) ?_ rfl rfl hd k2
    rw [hcl, arrV_read _ _ (by omega)]
    simp only [slotv, tgk]
    rw [slot_nn hi.1]
    rfl
  · refine W.aald (v := conc G (2, X.2 r i)) (ty := .object RX0) hX.1 hX.2.1 hcell ((hT 4 _ rfl).1 _ _) rfl (fun q => by cases q) (by rw [arrV_size]; exact hix) ?_ rfl rfl hd k2
    rw [hcl, arrV_read _ _ (by omega)]
    simp only [slotv, tgk]
    rw [slot_nn hi.1]
    rfl

theorem updV_updi {G : GG} {X : XX} {v : VV} {ki : Nat} {r i x : Int} {t : Nat} (hi : 0 ≤ i) (ht : ∀ j, tgk ki j = t) (ht2 : ¬ t = 2) : updV (slotv G X v ki r) i.toNat (conc G (t, x)) = slotv G X (upd2 v r i x) ki r := by
  funext j
  unfold updV
  by_cases hj : j = i.toNat
  · subst hj
    rw [if_pos rfl]
    unfold slotv
    rw [ht, if_neg ht2, slot_nn hi]
    simp [upd2]
  · rw [if_neg hj]
    unfold slotv upd2
    have : ¬ ((j : Int) = i) := by omega
    simp only [this, and_false, if_false]
theorem updV_updr {G : GG} {X : XX} {v : VV} {ki : Nat} {r i x : Int} (hi : 0 ≤ i) (ht : ∀ j, tgk ki j = 2) : updV (slotv G X v ki r) i.toNat (conc G (2, x)) = slotv G (X.1, upd2 X.2 r i x) v ki r := by
  funext j
  unfold updV
  by_cases hj : j = i.toNat
  · subst hj
    rw [if_pos rfl]
    unfold slotv
    rw [ht, if_pos rfl, slot_nn hi]
    simp [upd2]
  · rw [if_neg hj]
    unfold slotv upd2
    have : ¬ ((j : Int) = i) := by omega
    simp only [this, and_false, if_false]

theorem x_iast {M : MM} {d pc : Nat} {ls : List AV} {X : XX} {v : VV} {mc ms : Nat} {Q : QQ} {rest : List AV} {r i x : Int} {len : Nat} (hd : decode M.2.1 pc = .ok (.iastore, 1)) (hs : X.1.2 r = (100, len)) (hr : 0 ≤ r ∧ r < X.1.1) (hi : 0 ≤ i ∧ i < len) (kk : Ex M d (pc + 1) ls rest X (upd2 v r i x) mc ms Q) : Ex M d pc ls ((0, x) :: (0, i) :: (2, r) :: rest) X v mc ms Q := by
  intro G p l e R s m args below meth c Z hX hR H locs cells slots cls hH hS hL hO hcX hsX
  obtain ⟨hlen, hcell⟩ := hH.arr hs (by decide) hr
  simp only [List.map_cons]
  rw [show conc G (2, r) = .ref (gsz G + r.toNat) from cref_nn G hr.1]
  have hix := i32_ix hlen hi
  have hcl : (Int32.ofInt i).toNatClampNeg = i.toNat := i32_clamp hi.1 (by omega)
  refine W.iast hX.1 hX.2.1 hcell ((hX.2.2.2.2.2.2.2.2.1.1.2 0 _ rfl).1 _ _) (fun q => by cases q) (by rw [arrV_size]; exact hix) rfl rfl hd fun H' e1 e2 e3 => ?_
  refine kk G p l e R s m args below meth c Z hX hR H' _ cells slots cls (hH.put hr rfl e2 e3 (fun b j hb => ⟨rfl, by simp [upd2, hb]⟩) ?_) (hS.put e2 e3 (by show gsz G ≤ _; omega)) hL (List.forall_mem_cons.mp (List.forall_mem_cons.mp (List.forall_mem_cons.mp hO).2).2).2 hcX hsX
  · unfold cok
    refine ⟨by rw [Int.toNat_of_nonneg hr.1, hs]; exact okv_upd hi.1 (t := 0) rfl (List.forall_mem_cons.mp hO).1 (hH.ok hs hr), ?_⟩
    rw [Int.toNat_of_nonneg hr.1, hs, if_neg (show ¬ (100, len).1 < 100 from by show ¬ (100 : Nat) < 100; decide)]
    rw [arrV_store, hcl, show (Value.int _ : Value) = conc G (0, x) from rfl, updV_updi hi.1 (t := 0) (fun j => rfl) (by decide)] at e1
    exact ⟨hlen, e1⟩

theorem x_last {M : MM} {d pc : Nat} {ls : List AV} {X : XX} {v : VV} {mc ms : Nat} {Q : QQ} {rest : List AV} {r i x : Int} {len : Nat} (hd : decode M.2.1 pc = .ok (.lastore, 1)) (hs : X.1.2 r = (101, len)) (hr : 0 ≤ r ∧ r < X.1.1) (hi : 0 ≤ i ∧ i < len) (kk : Ex M d (pc + 1) ls rest X (upd2 v r i x) mc ms Q) : Ex M d pc ls ((1, x) :: (0, i) :: (2, r) :: rest) X v mc ms Q := by
  intro G p l e R s m args below meth c Z hX hR H locs cells slots cls hH hS hL hO hcX hsX
  obtain ⟨hlen, hcell⟩ := hH.arr hs (by decide) hr
  simp only [List.map_cons]
  rw [show conc G (2, r) = .ref (gsz G + r.toNat) from cref_nn G hr.1]
  have hix := i32_ix hlen hi
  have hcl : (Int32.ofInt i).toNatClampNeg = i.toNat := i32_clamp hi.1 (by omega)
  refine W.last hX.1 hX.2.1 hcell ((hX.2.2.2.2.2.2.2.2.1.1.2 1 _ rfl).1 _ _) (fun q => by cases q) (by rw [arrV_size]; exact hix) rfl rfl hd fun H' e1 e2 e3 => ?_
  refine kk G p l e R s m args below meth c Z hX hR H' _ cells slots cls (hH.put hr rfl e2 e3 (fun b j hb => ⟨rfl, by simp [upd2, hb]⟩) ?_) (hS.put e2 e3 (by show gsz G ≤ _; omega)) hL (List.forall_mem_cons.mp (List.forall_mem_cons.mp (List.forall_mem_cons.mp hO).2).2).2 hcX hsX
  · unfold cok
    refine ⟨by rw [Int.toNat_of_nonneg hr.1, hs]; exact okv_upd hi.1 (t := 1) rfl (List.forall_mem_cons.mp hO).1 (hH.ok hs hr), ?_⟩
    rw [Int.toNat_of_nonneg hr.1, hs, if_neg (show ¬ (101, len).1 < 100 from by show ¬ (101 : Nat) < 100; decide)]
    rw [arrV_store, hcl, show (Value.long _ : Value) = conc G (1, x) from rfl, updV_updi hi.1 (t := 1) (fun j => rfl) (by decide)] at e1
    exact ⟨hlen, e1⟩

theorem x_zast {M : MM} {d pc : Nat} {ls : List AV} {X : XX} {v : VV} {mc ms : Nat} {Q : QQ} {rest : List AV} {r i x : Int} {len : Nat} (hd : decode M.2.1 pc = .ok (.bastore, 1)) (hs : X.1.2 r = (102, len)) (hr : 0 ≤ r ∧ r < X.1.1) (hi : 0 ≤ i ∧ i < len) (hx : x = 0 ∨ x = 1) (kk : Ex M d (pc + 1) ls rest X (upd2 v r i x) mc ms Q) : Ex M d pc ls ((0, x) :: (0, i) :: (2, r) :: rest) X v mc ms Q := by
  intro G p l e R s m args below meth c Z hX hR H locs cells slots cls hH hS hL hO hcX hsX
  obtain ⟨hlen, hcell⟩ := hH.arr hs (by decide) hr
  simp only [List.map_cons]
  rw [show conc G (2, r) = .ref (gsz G + r.toNat) from cref_nn G hr.1]
  have hix := i32_ix hlen hi
  have hcl : (Int32.ofInt i).toNatClampNeg = i.toNat := i32_clamp hi.1 (by omega)
  refine W.zast hX.1 hX.2.1 hcell ((hX.2.2.2.2.2.2.2.2.1.1.2 2 _ rfl).1 _ _) (fun q => by cases q) (by rw [arrV_size]; exact hix) rfl rfl hd fun H' e1 e2 e3 => ?_
  refine kk G p l e R s m args below meth c Z hX hR H' _ cells slots cls (hH.put hr rfl e2 e3 (fun b j hb => ⟨rfl, by simp [upd2, hb]⟩) ?_) (hS.put e2 e3 (by show gsz G ≤ _; omega)) hL (List.forall_mem_cons.mp (List.forall_mem_cons.mp (List.forall_mem_cons.mp hO).2).2).2 hcX hsX
  · unfold cok
    refine ⟨by rw [Int.toNat_of_nonneg hr.1, hs]; exact okv_upd hi.1 (t := 0) rfl (List.forall_mem_cons.mp hO).1 (hH.ok hs hr), ?_⟩
    rw [Int.toNat_of_nonneg hr.1, hs, if_neg (show ¬ (102, len).1 < 100 from by show ¬ (102 : Nat) < 100; decide)]
    rw [show narrow .boolean (.int (Int32.ofInt x)) = .int (Int32.ofInt x) by rcases hx with rfl | rfl <;> rfl] at e1
    rw [arrV_store, hcl, show (Value.int _ : Value) = conc G (0, x) from rfl, updV_updi hi.1 (t := 0) (fun j => rfl) (by decide)] at e1
    exact ⟨hlen, e1⟩

theorem x_aastN {M : MM} {d pc : Nat} {ls : List AV} {X : XX} {v : VV} {mc ms : Nat} {Q : QQ} {rest : List AV} {r i : Int} {len ki : Nat} (hd : decode M.2.1 pc = .ok (.aastore, 1)) (hs : X.1.2 r = (ki, len)) (hk : ki = 103 ∨ ki = 104) (hr : 0 ≤ r ∧ r < X.1.1) (hi : 0 ≤ i ∧ i < len) (kk : Ex M d (pc + 1) ls rest (X.1, upd2 X.2 r i (-1)) v mc ms Q) : Ex M d pc ls ((2, -1) :: (0, i) :: (2, r) :: rest) X v mc ms Q := by
  intro G p l e R s m args below meth c Z hX hR H locs cells slots cls hH hS hL hO hcX hsX
  obtain ⟨hlen, hcell⟩ := hH.arr hs (by omega) hr
  simp only [List.map_cons]
  rw [show conc G (2, r) = .ref (gsz G + r.toNat) from cref_nn G hr.1]
  have hix := i32_ix hlen hi
  have hcl : (Int32.ofInt i).toNatClampNeg = i.toNat := i32_clamp hi.1 (by omega)
  have hT := hX.2.2.2.2.2.2.2.2.1.1.2
  have fin_ : ∀ (H' : Heap), H'[gsz G + r.toNat]? = some ((arrV (gA G (ki - 100)) len (slotv G X v ki r)).setSlot (Int32.ofInt i).toNatClampNeg .null) → H'.size = H.size → (∀ q : Nat, q ≠ gsz G + r.toNat → H'[q]? = H[q]?) → W p l e R s m args below meth c H' (locs ++ [⟨gsz G + r.toNat, (Int32.ofInt i).toNatClampNeg⟩]) cells slots Z (F0 m (pc + 1) cls (rest.map (conc G))) := by
    intro H' e1 e2 e3
    refine kk G p l e R s m args below meth c Z hX hR H' _ cells slots cls (hH.put hr rfl e2 e3 (fun b j hb => ⟨by simp [upd2, hb], rfl⟩) ?_) (hS.put e2 e3 (by show gsz G ≤ _; omega)) hL (List.forall_mem_cons.mp (List.forall_mem_cons.mp (List.forall_mem_cons.mp hO).2).2).2 hcX hsX
    unfold cok
    refine ⟨by rw [Int.toNat_of_nonneg hr.1, hs]; exact hH.ok hs hr, ?_⟩
    rw [Int.toNat_of_nonneg hr.1, hs, if_neg (show ¬ (ki, len).1 < 100 from by show ¬ ki < 100; omega)]
    rw [arrV_store, hcl, show (Value.null : Value) = conc G (2, -1) from rfl, updV_updr hi.1 (fun j => by rcases hk with rfl | rfl <;> rfl)] at e1
    exact ⟨hlen, e1⟩
  rcases hk with rfl | rfl
  · exact va_WaastN (C := RX7) hX.1 hX.2.1 hcell ((hT 3 _ rfl).1 _ _) (fun q => by cases q) (by rw [arrV_size]; exact hix) rfl rfl hd fin_
  · exact va_WaastN (C := RX0) hX.1 hX.2.1 hcell ((hT 4 _ rfl).1 _ _) (fun q => by cases q) (by rw [arrV_size]; exact hix) rfl rfl hd fin_
theorem x_aast {M : MM} {d pc : Nat} {ls : List AV} {X : XX} {v : VV} {mc ms : Nat} {Q : QQ} {rest : List AV} {r i x : Int} {len lx ki ci : Nat} (hd : decode M.2.1 pc = .ok (.aastore, 1)) (hs : X.1.2 r = (ki, len)) (hk : (ki = 103 ∧ ci = 7) ∨ (ki = 104 ∧ ci = 0)) (hr : 0 ≤ r ∧ r < X.1.1) (hi : 0 ≤ i ∧ i < len) (hsx : X.1.2 x = (ci, lx)) (hrx : 0 ≤ x ∧ x < X.1.1) (kk : Ex M d (pc + 1) ls rest (X.1, upd2 X.2 r i x) v mc ms Q) : Ex M d pc ls ((2, x) :: (0, i) :: (2, r) :: rest) X v mc ms Q := by
  intro G p l e R s m args below meth c Z hX hR H locs cells slots cls hH hS hL hO hcX hsX
  obtain ⟨hlen, hcell⟩ := hH.arr hs (by omega) hr
  obtain ⟨r0, h1, cellV, g1, g2, g3, -⟩ := hH.obj hsx (by omega) hrx
  simp only [List.map_cons]
  rw [show conc G (2, r) = .ref (gsz G + r.toNat) from cref_nn G hr.1, show conc G (2, x) = .ref (gsz G + x.toNat) from cref_nn G hrx.1]
  have hix := i32_ix hlen hi
  have hcl : (Int32.ofInt i).toNatClampNeg = i.toNat := i32_clamp hi.1 (by omega)
  have hT := hX.2.2.2.2.2.2.2.2.1.1
  have h0 : ¬ Int32.ofInt i < 0 := fun q => hix (Or.inl q)
  have fin_ : ∀ (H' : Heap), H'[gsz G + r.toNat]? = some ((arrV (gA G (ki - 100)) len (slotv G X v ki r)).setSlot (Int32.ofInt i).toNatClampNeg (.ref (gsz G + x.toNat))) → H'.size = H.size → (∀ q : Nat, q ≠ gsz G + r.toNat → H'[q]? = H[q]?) → W p l e R s m args below meth c H' (locs ++ [⟨gsz G + r.toNat, (Int32.ofInt i).toNatClampNeg⟩]) cells slots Z (F0 m (pc + 1) cls (rest.map (conc G))) := by
    intro H' e1 e2 e3
    refine kk G p l e R s m args below meth c Z hX hR H' _ cells slots cls (hH.put hr rfl e2 e3 (fun b j hb => ⟨by simp [upd2, hb], rfl⟩) ?_) (hS.put e2 e3 (by show gsz G ≤ _; omega)) hL (List.forall_mem_cons.mp (List.forall_mem_cons.mp (List.forall_mem_cons.mp hO).2).2).2 hcX hsX
    unfold cok
    refine ⟨by rw [Int.toNat_of_nonneg hr.1, hs]; exact hH.ok hs hr, ?_⟩
    rw [Int.toNat_of_nonneg hr.1, hs, if_neg (show ¬ (ki, len).1 < 100 from by show ¬ ki < 100; omega)]
    rw [arrV_store, hcl, show (Value.ref (gsz G + x.toNat) : Value) = conc G (2, x) from (cref_nn G hrx.1).symm, updV_updr hi.1 (fun j => by rcases hk with ⟨rfl, _⟩ | ⟨rfl, _⟩ <;> rfl)] at e1
    exact ⟨hlen, e1⟩
  rcases hk with ⟨rfl, rfl⟩ | ⟨rfl, rfl⟩
  · have hcls := (hT.1 7 _ rfl).2
    obtain ⟨kA, comp, k1, k2, k3, -⟩ := (hT.2 3 _ rfl).2
    have hcomp : comp = (gD G).1 7 := Option.some.inj (k3.symm.trans hcls.1)
    subst hcomp
    obtain ⟨kC, hkC, -⟩ := hcls.2
    exact W.aast hX.1 hX.2.1 hcell (fun q h => by cases h) (fun h => by cases h) k1 k2 rfl hkC ⟨h0, by rw [arrV_size, hcl]; omega⟩ g1 (fun q h => by rw [g3] at h; cases h) (by rw [g2]; exact hkC) (by rw [g2]; exact va_assign hcls) rfl rfl hd fin_
  · have hcls := (hT.1 0 _ rfl).2
    obtain ⟨kA, comp, k1, k2, k3, -⟩ := (hT.2 4 _ rfl).2
    have hcomp : comp = (gD G).1 0 := Option.some.inj (k3.symm.trans hcls.1)
    subst hcomp
    obtain ⟨kC, hkC, -⟩ := hcls.2
    exact W.aast hX.1 hX.2.1 hcell (fun q h => by cases h) (fun h => by cases h) k1 k2 rfl hkC ⟨h0, by rw [arrV_size, hcl]; omega⟩ g1 (fun q h => by rw [g3] at h; cases h) (by rw [g2]; exact hkC) (by rw [g2]; exact va_assign hcls) rfl rfl hd fin_
theorem x_alen {M : MM} {d pc : Nat} {ls : List AV} {X : XX} {v : VV} {mc ms : Nat} {Q : QQ} {rest : List AV} {r : Int} {len ki : Nat} (hd : decode M.2.1 pc = .ok (.arraylength, 1)) (hs : X.1.2 r = (ki, len)) (hk : 100 ≤ ki ∧ ki ≤ 104) (hr : 0 ≤ r ∧ r < X.1.1) (kk : len < 2147483648 → Ex M d (pc + 1) ls ((0, (len : Int)) :: rest) X v mc ms Q) : Ex M d pc ls ((2, r) :: rest) X v mc ms Q := by
  intro G p l e R s m args below meth c Z hX hR H locs cells slots cls hH hS hL hO hcX hsX
  obtain ⟨hlen, hcell⟩ := hH.arr hs (by omega) hr
  have k2 := kk hlen G p l e R s m args below meth c Z hX hR H locs cells slots cls hH hS hL (List.forall_mem_cons.mpr ⟨okv_i ⟨by omega, by omega⟩, (List.forall_mem_cons.mp hO).2⟩) hcX hsX
  simp only [List.map_cons] at k2 ⊢
  rw [show conc G (2, r) = .ref (gsz G + r.toNat) from cref_nn G hr.1]
  have hT := hX.2.2.2.2.2.2.2.2.1.1.2
  have hz : ∀ cA f, (arrV cA len f).slots.size.toInt32 = Int32.ofInt (len : Int) := fun cA f => by rw [arrV_size]; rfl
  have : ki = 100 ∨ ki = 101 ∨ ki = 102 ∨ ki = 103 ∨ ki = 104 := by omega
  rcases this with rfl | rfl | rfl | rfl | rfl
  · exact W.alen hX.1 hX.2.1 hcell ((hT 0 _ rfl).1 _ _) (hz _ _) rfl rfl hd k2
  · exact W.alen hX.1 hX.2.1 hcell ((hT 1 _ rfl).1 _ _) (hz _ _) rfl rfl hd k2
  · exact W.alen hX.1 hX.2.1 hcell ((hT 2 _ rfl).1 _ _) (hz _ _) rfl rfl hd k2
  · exact W.alen hX.1 hX.2.1 hcell ((hT 3 _ rfl).1 _ _) (hz _ _) rfl rfl hd k2
  · exact W.alen hX.1 hX.2.1 hcell ((hT 4 _ rfl).1 _ _) (hz _ _) rfl rfl hd k2
