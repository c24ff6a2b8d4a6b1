/-! ===== the heap's rows ===== -/
theorem cref_nn (G : GG) {r : Int} (h : 0 ≤ r) : cref G r = .ref (gsz G + r.toNat) := by
  unfold cref oref; rw [if_pos h]; rfl
theorem slotv_congr {G : GG} {X X' : XX} {v v' : VV} {kind : Nat} {r : Int} (h : ∀ j, X'.2 r j = X.2 r j ∧ v' r j = v r j) : slotv G X' v' kind r = slotv G X v kind r := by
  funext j
  unfold slotv
  rw [(h j).1, (h j).2]
theorem cok.keep {G : GG} {X X' : XX} {v v' : VV} {k : Nat} {H H' : Heap} (h : cok G X v k H) (hX : X'.1.2 k = X.1.2 k) (hv : ∀ j, X'.2 k j = X.2 k j ∧ v' k j = v k j) (hq : H'[gsz G + k]? = H[gsz G + k]?) : cok G X' v' k H' := by
  unfold cok at h ⊢
  rw [hX, slotv_congr hv]
  refine ⟨fun j => by rw [(hv j).2]; exact h.1 j, ?_⟩
  have h := h.2
  split
  · rename_i hc
    rw [if_pos hc] at h
    obtain ⟨r, h1, h2⟩ := h
    exact ⟨r, h1, h2.kept hq⟩
  · rename_i hc
    rw [if_neg hc] at h
    exact ⟨h.1, hq.trans h.2⟩
theorem HR.put {G : GG} {X X' : XX} {v v' : VV} {H H' : Heap} {r : Int} (h : HR G X v H) (hr : 0 ≤ r ∧ r < X.1.1) (hX : X'.1 = X.1) (hsz : H'.size = H.size) (oq : ∀ q : Nat, q ≠ gsz G + r.toNat → H'[q]? = H[q]?) (hne : ∀ a j, ¬ a = r → X'.2 a j = X.2 a j ∧ v' a j = v a j) (hc : cok G X' v' r.toNat H') : HR G X' v' H' := by
  refine ⟨by rw [hsz, h.1, hX], fun k hk => ?_⟩
  by_cases hk2 : k = r.toNat
  · rw [hk2]; exact hc
  · exact (h.2 k (by rw [hX] at hk; exact hk)).keep (by rw [hX]) (fun j => hne k j (by omega)) (oq _ (by omega))
theorem HR.ok {G : GG} {X : XX} {v : VV} {H : Heap} {r : Int} {ki len : Nat} (h : HR G X v H) (hs : X.1.2 r = (ki, len)) (hr : 0 ≤ r ∧ r < X.1.1) (j : Nat) : okv (tgk ki j, v r j) := by
  have h1 := (h.2 r.toNat (by omega)).1 j
  rw [Int.toNat_of_nonneg hr.1, hs] at h1
  exact h1
theorem okv_slot {G : GG} {X : XX} {v : VV} {H : Heap} {r : Int} {ki len : Nat} (h : HR G X v H) (hs : X.1.2 r = (ki, len)) (hr : 0 ≤ r ∧ r < X.1.1) (j : Nat) : okv (tgk ki j, if tgk ki j = 2 then X.2 r j else v r j) := by
  by_cases ht : tgk ki j = 2
  · rw [ht]; exact okv_r
  · rw [if_neg ht]; exact h.ok hs hr j
theorem okv_elem {G : GG} {X : XX} {v : VV} {H : Heap} {r i : Int} {ki len : Nat} {t : Nat} (h : HR G X v H) (hs : X.1.2 r = (ki, len)) (hr : 0 ≤ r ∧ r < X.1.1) (hi : 0 ≤ i) (ht : ∀ j, tgk ki j = t) : okv (t, v r i) := by
  have h1 := h.ok hs hr i.toNat
  rw [ht, Int.toNat_of_nonneg hi] at h1
  exact h1
theorem okv_upd {v : VV} {ki : Nat} {r i x : Int} {t : Nat} (hi : 0 ≤ i) (ht : tgk ki i.toNat = t) (hx : okv (t, x)) (h : ∀ j : Nat, okv (tgk ki j, v r j)) (j : Nat) : okv (tgk ki j, upd2 v r i x r j) := by
  by_cases hj : (j : Int) = i
  · have : j = i.toNat := by omega
    subst this
    simp only [upd2, hj, and_self, if_true]
    rw [ht]; exact hx
  · simp only [upd2, hj, and_false, if_false]
    exact h j
theorem HR.obj {G : GG} {X : XX} {v : VV} {H : Heap} {r : Int} {ci len : Nat} (h : HR G X v H) (hs : X.1.2 r = (ci, len)) (hc : ci < 100) (hr : 0 ≤ r ∧ r < X.1.1) : ∃ r0 : vw_C, vwCl[ci]? = some r0 ∧ t_OB (gsz G + r.toNat) ((gD G).1 ci) r0.2.2 ((gD G).2 ci) H (slotv G X v ci r) := by
  have h1 := (h.2 r.toNat (by omega)).2
  rw [Int.toNat_of_nonneg hr.1, hs, if_pos hc] at h1
  exact h1
theorem HR.arr {G : GG} {X : XX} {v : VV} {H : Heap} {r : Int} {ki len : Nat} (h : HR G X v H) (hs : X.1.2 r = (ki, len)) (hc : ¬ ki < 100) (hr : 0 ≤ r ∧ r < X.1.1) : len < 2147483648 ∧ H[gsz G + r.toNat]? = some (arrV (gA G (ki - 100)) len (slotv G X v ki r)) := by
  have h1 := (h.2 r.toNat (by omega)).2
  rw [Int.toNat_of_nonneg hr.1, hs, if_neg hc] at h1
  exact h1

theorem x_get {M : MM} {d pc : Nat} {ls : List AV} {X : XX} {v : VV} {mc ms : Nat} {Q : QQ} {rest : List AV} {r : Int} {idx ci k len : Nat} (hf : FL M.1.cls idx ci k) (hd : decode M.2.1 pc = .ok (.getfield idx, 3)) (hs : X.1.2 r = (ci, len)) (hc : ci < 100) (hr : 0 ≤ r ∧ r < X.1.1) (kk : Ex M d (pc + 3) ls ((tgk ci k, if tgk ci k = 2 then X.2 r k else v r k) :: rest) X v mc ms Q) : Ex M d pc ls ((2, r) :: rest) X v mc ms Q := by
  intro G p l e R s m args below meth c Z hX hR H locs cells slots cls hH hS hL hO hcX hsX
  have k2 := kk G p l e R s m args below meth c Z hX hR H locs cells slots cls hH hS hL (List.forall_mem_cons.mpr ⟨okv_slot hH hs hr k, (List.forall_mem_cons.mp hO).2⟩) hcX hsX
  obtain ⟨C, T, N, hcl, hk, hin, hlink⟩ := hf
  obtain ⟨r0, h1, cell, q1, q2, q3, q4⟩ := hH.obj hs hc hr
  cases h1.symm.trans hcl
  have hts := hX.2.2.2.2.2.1
  have hE := hX.2.2.2.2.2.2.2.2.1
  obtain ⟨hS', hfc, kC, hkC, hkind⟩ := hE.1.1 ci _ hcl
  obtain ⟨cf, kf, fi, f, hi, hsl⟩ := hS' k hk
  simp only [List.map_cons] at k2 ⊢
  rw [show conc G (2, r) = .ref (gsz G + r.toNat) from cref_nn G hr.1]
  rcases hlink with hlink | ⟨host, hlink⟩
  · exact W.getf hX.1 hX.2.1 hX.2.2.2.2.1 (hts _ hlink) hi (u_facts hfc hkC (u_lays hts hin hk) hi).1 q1 (by rw [q3]; exact fun h => by cases h) (v := slotv G X v ci r k) (by rw [hsl, q4 k hk]) rfl rfl hd k2
  · exact va_Wgetf hX.1 hX.2.1 hX.2.2.2.2.1 (va_Nw.use rfl (hE.2.1 _ hlink)) hi (u_facts hfc hkC (u_lays hts hin hk) hi).1 q1 (by rw [q3]; exact fun h => by cases h) (v := slotv G X v ci r k) (by rw [hsl, q4 k hk]) rfl rfl hd k2
theorem x_geti {M : MM} {d pc : Nat} {ls : List AV} {X : XX} {v : VV} {mc ms : Nat} {Q : QQ} {rest : List AV} {r e : Int} {idx ci k len : Nat} (t : Nat) (hf : FL M.1.cls idx ci k) (hd : decode M.2.1 pc = .ok (.getfield idx, 3)) (hs : X.1.2 r = (ci, len)) (hr : 0 ≤ r ∧ r < X.1.1) (he : v r k = e) (ht : tgk ci k = t) (hc : ci < 100) (ht2 : ¬ t = 2) (kk : Ex M d (pc + 3) ls ((t, e) :: rest) X v mc ms Q) : Ex M d pc ls ((2, r) :: rest) X v mc ms Q := by
  refine x_get hf hd hs hc hr ?_
  rw [ht, if_neg ht2, he]; exact kk
theorem x_getr {M : MM} {d pc : Nat} {ls : List AV} {X : XX} {v : VV} {mc ms : Nat} {Q : QQ} {rest : List AV} {r r' : Int} {idx ci k len : Nat} (hf : FL M.1.cls idx ci k) (hd : decode M.2.1 pc = .ok (.getfield idx, 3)) (hs : X.1.2 r = (ci, len)) (hr : 0 ≤ r ∧ r < X.1.1) (hx : X.2 r k = r') (ht : tgk ci k = 2) (hc : ci < 100) (kk : Ex M d (pc + 3) ls ((2, r') :: rest) X v mc ms Q) : Ex M d pc ls ((2, r) :: rest) X v mc ms Q := by
  refine x_get hf hd hs hc hr ?_
  rw [ht, if_pos rfl, hx]; exact kk
/-- a store into an object, of any kind of field -/
theorem x_put {M : MM} {d pc : Nat} {ls : List AV} {X : XX} {v : VV} {mc ms : Nat} {Q : QQ} {rest : List AV} {r : Int} {idx ci k len : Nat} {ty : FieldType} {fin : Bool} {a : AV} {X' : XX} {v' : VV} (hf : FW M.1.cls idx ci k ty fin) (hfin : fin = true → M.1.name = "<init>") (hd : decode M.2.1 pc = .ok (.putfield idx, 3)) (hs : X.1.2 r = (ci, len)) (hc : ci < 100) (hr : 0 ≤ r ∧ r < X.1.1)
    (hn : ∀ G, narrow ty (conc G a) = conc G a) (hfit : ∀ G, fits ty (conc G a) = true) (hX' : X'.1 = X.1) (hne : ∀ b j, ¬ b = r → X'.2 b j = X.2 b j ∧ v' b j = v b j) (hsl' : ∀ G (j : Nat), slotv G X' v' ci r j = updV (slotv G X v ci r) k (conc G a) j) (hok : okv a → (∀ j : Nat, okv (tgk ci j, v r j)) → ∀ j : Nat, okv (tgk ci j, v' r j))
    (kk : Ex M d (pc + 3) ls rest X' v' mc ms Q) : Ex M d pc ls (a :: (2, r) :: rest) X v mc ms Q := by
  intro G p l e R s m args below meth c Z hX hR H locs cells slots cls hH hS hL hO hcX hsX
  obtain ⟨C, T, N, ty0, hcl, hk, hin, hty, hnm, hty0, hfn, hlink⟩ := hf
  obtain ⟨r0, h1, cell, q1, q2, q3, q4⟩ := hH.obj hs hc hr
  cases h1.symm.trans hcl
  have hts := hX.2.2.2.2.2.1
  have hE := hX.2.2.2.2.2.2.2.2.1
  have hap := va_apart (own := M.1.cls) hts hin ty0 hty hnm hE.1 hcl
  obtain ⟨hS', hfc, kC, hkC, hkind⟩ := hE.1.1 ci _ hcl
  obtain ⟨cf, kf, fi, f, hi, hsl⟩ := hS' k hk
  have hlay := hts _ (hin _ (u_in_lay hk))
  unfold u_lay at hlay
  have hst := (u_facts hfc hkC (u_lays hts hin hk) hi).1
  have hpd : parseFieldDescriptor (T k).2.2.1 = some ty := by rw [hty k hk, hty0]
  simp only [List.map_cons]
  rw [show conc G (2, r) = .ref (gsz G + r.toNat) from cref_nn G hr.1]
  have fin_ : ∀ (H' : Heap), H'[gsz G + r.toNat]? = some (cell.setSlot f.slot (conc G a)) → H'.size = H.size → (∀ q : Nat, q ≠ gsz G + r.toNat → H'[q]? = H[q]?) → W p l e R s m args below meth c H' (locs ++ [⟨gsz G + r.toNat, f.slot⟩]) cells slots Z (F0 m (pc + 3) cls (rest.map (conc G))) := by
    intro H' e1 e2 e3
    refine kk G p l e R s m args below meth c Z hX hR H' _ cells slots cls (hH.put hr hX' e2 e3 hne ?_) (hS.put e2 e3 (by show gsz G ≤ _; omega)) hL (List.forall_mem_cons.mp (List.forall_mem_cons.mp hO).2).2 hcX hsX
    unfold cok
    rw [Int.toNat_of_nonneg hr.1, hX', hs, if_pos hc]
    refine ⟨hok (List.forall_mem_cons.mp hO).1 (hH.ok hs hr), ?_⟩
    rw [hsl] at e1
    exact ⟨_, hcl, _, e1, q2, q3, fun j hj => (t_set q4 hap hk _ j hj).trans (by rw [hsl' G j])⟩
  rcases hlink with ⟨hfi, hown, hlink⟩ | ⟨hfi, hlink⟩
  · rw [if_pos (by rw [hfn]; exact hfi)] at hlay
    have hcf : m.cls = cf := by
      obtain ⟨_, _, c', _, _, _, -, -, hf', -, -, -, hown2, -⟩ := Cond.laysFinal_spec hlay
      have e1 : c' = cf := by have := hi.symm.trans hf'; simp at this; exact this.1.symm
      rw [hown] at hown2
      rw [← e1]; exact Option.some.inj (hX.2.2.2.2.1.symm.trans hown2)
    have h6 := u_fits hfc hkC hkind (Or.inr hlay) hi hpd (hn G) (hfit G)
    exact W.putFinK hX.1 hX.2.1 hX.2.2.2.2.1 (hts _ hlink) hi hst hcf (hX.2.2.2.2.2.2.1.trans (hfin hfi)) (by rw [q2]; exact h6) q1 q3 (by rw [hsl]; exact k2_hasslot (q4 k hk)) rfl rfl hd fin_
  · rw [if_neg (by rw [hfn, hfi]; decide)] at hlay
    have h6 := u_store hfc hkC hkind hlay hi hpd (hn G) (hfit G)
    rcases hlink with hlink | ⟨host, hlink⟩
    · exact W.putK hX.1 hX.2.1 (f := f) ⟨hX.2.2.2.2.1, hts _ hlink, ⟨_, _, _, hi⟩, hst⟩ (by rw [q2]; exact h6) q1 q3 (by rw [hsl]; exact k2_hasslot (q4 k hk)) rfl rfl hd fin_
    · exact va_WputK hX.1 hX.2.1 (f := f) hX.2.2.2.2.1 (va_Nw.use rfl (hE.2.1 _ hlink)) hi hst (by rw [q2]; exact h6) q1 q3 (by rw [hsl]; exact k2_hasslot (q4 k hk)) rfl rfl hd fin_
theorem slotv_updi {G : GG} {X : XX} {v : VV} {ci k : Nat} {r x : Int} {t : Nat} (ht : tgk ci k = t) (ht2 : ¬ t = 2) (j : Nat) : slotv G X (upd2 v r k x) ci r j = updV (slotv G X v ci r) k (conc G (t, x)) j := by
  unfold updV
  by_cases hj : j = k
  · subst hj
    rw [if_pos rfl]
    unfold slotv
    rw [ht, if_neg ht2]
    simp [upd2]
  · rw [if_neg hj]
    unfold slotv upd2
    have : ¬ ((j : Int) = (k : Int)) := by omega
    simp only [this, and_false, if_false]
theorem slotv_updr {G : GG} {X : XX} {v : VV} {ci k : Nat} {r x : Int} (ht : tgk ci k = 2) (j : Nat) : slotv G (X.1, upd2 X.2 r k x) v ci r j = updV (slotv G X v ci r) k (conc G (2, x)) j := by
  unfold updV
  by_cases hj : j = k
  · subst hj
    rw [if_pos rfl]
    unfold slotv
    rw [ht, if_pos rfl]
    simp [upd2]
  · rw [if_neg hj]
    unfold slotv upd2
    have : ¬ ((j : Int) = (k : Int)) := by omega
    simp only [this, and_false, if_false]
theorem x_puti {M : MM} {d pc : Nat} {ls : List AV} {X : XX} {v : VV} {mc ms : Nat} {Q : QQ} {rest : List AV} {r x : Int} {idx ci k len : Nat} {ty : FieldType} {fin : Bool} (t : Nat) (hf : FW M.1.cls idx ci k ty fin) (hd : decode M.2.1 pc = .ok (.putfield idx, 3)) (hs : X.1.2 r = (ci, len)) (hr : 0 ≤ r ∧ r < X.1.1) (hfin : fin = true → M.1.name = "<init>") (hc : ci < 100) (ht : tgk ci k = t)
    (hty : (t = 0 ∧ (ty = .int ∨ (ty = .boolean ∧ (x = 0 ∨ x = 1)))) ∨ (t = 1 ∧ ty = .long))
    (kk : Ex M d (pc + 3) ls rest X (upd2 v r k x) mc ms Q) : Ex M d pc ls ((t, x) :: (2, r) :: rest) X v mc ms Q := by
  have ht2 : ¬ t = 2 := by omega
  refine x_put hf hfin hd hs hc hr (fun G => ?_) (fun G => ?_) rfl (fun b j hb => ⟨rfl, by simp [upd2, hb]⟩) (fun G j => slotv_updi ht ht2 j) (fun ha h j => okv_upd (by omega) (by simpa using ht) ha h j) kk
  · rcases hty with ⟨rfl, rfl | ⟨rfl, rfl | rfl⟩⟩ | ⟨rfl, rfl⟩ <;> rfl
  · rcases hty with ⟨rfl, rfl | ⟨rfl, rfl | rfl⟩⟩ | ⟨rfl, rfl⟩ <;> rfl
theorem x_putr {M : MM} {d pc : Nat} {ls : List AV} {X : XX} {v : VV} {mc ms : Nat} {Q : QQ} {rest : List AV} {r x : Int} {idx ci k len : Nat} {ty : FieldType} {fin : Bool} (hf : FW M.1.cls idx ci k ty fin) (hd : decode M.2.1 pc = .ok (.putfield idx, 3)) (hs : X.1.2 r = (ci, len)) (hr : 0 ≤ r ∧ r < X.1.1) (hfin : fin = true → M.1.name = "<init>") (hc : ci < 100) (ht : tgk ci k = 2)
    (hty : (∃ n, ty = .object n) ∨ ∃ t, ty = .array t)
    (kk : Ex M d (pc + 3) ls rest (X.1, upd2 X.2 r k x) v mc ms Q) : Ex M d pc ls ((2, x) :: (2, r) :: rest) X v mc ms Q := by
  refine x_put (X' := (X.1, upd2 X.2 r k x)) (v' := v) hf hfin hd hs hc hr (fun G => ?_) (fun G => ?_) rfl (fun b j hb => ⟨by simp [upd2, hb], rfl⟩) (fun G j => slotv_updr ht j) (fun _ h => h) kk
  · rcases cref_or G x with h | ⟨a, h⟩ <;> rw [h] <;> rcases hty with ⟨n, rfl⟩ | ⟨n, rfl⟩ <;> rfl
  · rcases cref_or G x with h | ⟨a, h⟩ <;> rw [h] <;> rcases hty with ⟨n, rfl⟩ | ⟨n, rfl⟩ <;> rfl
