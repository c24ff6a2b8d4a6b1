/-! ===== the wording of a select: its tokens, a blank between two words ===== -/
def tkBk (b : Int → Int) (n i : Int) (k : Nat) : List Int := (List.range k).map (fun (j : Nat) => b (tS b n i + j))
def wdS (b : Int → Int) (n i : Int) (m : Nat) (L : List Int) : List Int := if 0 < m ∧ ltB (gB b n (tS b n i)) = true ∧ ltB (L.getLastD (-1)) = true then L ++ [32] else L
def wdN (b : Int → Int) (n a : Int) : Nat → List Int
  | 0 => []
  | m + 1 => wdS b n (a + m) m (wdN b n a m) ++ tkBk b n (a + m) (tL b n (a + m)).toNat
theorem tkBk_len (b : Int → Int) (n i : Int) (k : Nat) : (tkBk b n i k).length = k := by simp [tkBk]
theorem tkBk_s (b : Int → Int) (n i : Int) (k : Nat) : tkBk b n i (k + 1) = tkBk b n i k ++ [b (tS b n i + k)] := by
  unfold tkBk
  rw [List.range_succ, List.map_append]
  rfl
theorem lastD_app (L : List Int) (x d : Int) : (L ++ [x]).getLastD d = x := by simp [List.getLastD_eq_getLast?]
/-- a row is a list -/
def RowL (v : VV) (o c : Int) (L : List Int) : Prop := v o 1 = L.length ∧ ∀ (i : Nat) (x : Int), L[i]? = some x → v c i = x
theorem RowL.add {v : VV} {o c : Int} {L : List Int} (h : RowL v o c L) (hne : ¬ o = c) (x : Int) : RowL (rAdd v o c x) o c (L ++ [x]) := by
  refine ⟨?_, fun i y hy => ?_⟩
  · unfold rAdd
    rw [upd2_s, h.1, List.length_append]
    show _ = (((L.length + 1 : Nat)) : Int)
    omega
  · unfold rAdd
    rw [upd2_n _ (fun q => hne q.1.symm)]
    rw [List.getElem?_append] at hy
    by_cases hi : i < L.length
    · rw [if_pos hi] at hy
      rw [upd2_n _ (fun q => by have := h.1; omega)]
      exact h.2 i y hy
    · rw [if_neg hi] at hy
      obtain ⟨hk, hv⟩ := List.getElem?_eq_some_iff.mp hy
      have hk' : i - L.length < 1 := hk
      have e : (i : Int) = v o 1 := by rw [h.1]; omega
      rw [e, upd2_s]
      have e2 : i - L.length = 0 := by omega
      rw [e2] at hy
      simpa using hy
theorem RowL.last {v : VV} {o c : Int} {L : List Int} (h : RowL v o c L) : rGet v o c (v o 1 - 1) = L.getLastD (-1) := by
  rcases List.eq_nil_or_concat L with e | ⟨L', y, e⟩
  · rw [rGet_out (by rw [h.1, e]; simp), e]; rfl
  · have e' : L = L' ++ [y] := by rw [e]; simp
    have hl : v o 1 = (L'.length : Int) + 1 := by rw [h.1, e']; simp
    rw [rGet_in (by omega), e', lastD_app]
    have := h.2 L'.length y (by rw [e']; simp)
    rw [← this, hl]
    congr 1; omega
theorem RowL.fr {v V : VV} {o c : Int} {L : List Int} {S : Int → Int → Prop} (h : RowL v o c L) (hf : Fr S v V) (h1 : ¬ S o 1) (h2 : ∀ j, ¬ S c j) : RowL V o c L := ⟨(hf o 1 h1).trans h.1, fun i x hx => (hf c i (h2 _)).trans (h.2 i x hx)⟩
/-- a token that ends in a letter is not followed by one at once -/
theorem tok_sep {b : Int → Int} {n s : Int} (h : s ≤ n) (h1 : 97 ≤ b (tEnd b n s - 1) ∧ b (tEnd b n s - 1) ≤ 122) (h2 : tEnd b n s < n) : ¬ (97 ≤ b (tEnd b n s) ∧ b (tEnd b n s) ≤ 122) := by
  rcases tcase b h with h3 | h3 | h3 | h3 | h3
  · obtain ⟨q1, -, -, -, -, -, q2⟩ := h3; omega
  · obtain ⟨-, -, -, -, q, -⟩ := h3
    obtain ⟨-, -, -, r4⟩ := rEnd_spec b ltB h
    rw [q] at h2 ⊢
    exact fun z => r4 h2 (ltB_iff.mpr z)
  · obtain ⟨q1, q2, -⟩ := h3
    have e : tEnd b n s = rEnd b dgB n s := by
      unfold tEnd
      rw [if_neg (by omega), if_neg (fun z => by have := ltB_iff.mp z; omega), if_pos (dgB_iff.mpr q2)]
    obtain ⟨r1, r2, r3, r4⟩ := rEnd_spec b dgB h
    have hb := (tEnd_bd b h).2.1 q1
    rw [e] at h1 hb
    have := dgB_iff.mp (r3 (rEnd b dgB n s - 1) (by omega) (by omega))
    omega
  · obtain ⟨q1, q2, -, -, -, ⟨q3, q4⟩, ⟨-, q5, q6, q7⟩ | ⟨-, q6, q7⟩⟩ := h3
    · rw [q7, show qE b n s + 1 - 1 = qE b n s by omega, q6] at h1; omega
    · rw [q7] at h2 ⊢
      obtain ⟨-, -, -, r4⟩ := rEnd_spec b qtB (show s + 1 ≤ n by omega)
      exact fun z => r4 h2 (qtB_iff.mpr (Or.inl z))
  · obtain ⟨q1, ⟨q2, -⟩, -, -, -, -, q7⟩ := h3
    rw [q7, show s + 1 - 1 = s by omega] at h1
    exact absurd h1 q2
theorem tS_next {b : Int → Int} {n a : Int} (hX : TX b n) (h : 0 ≤ a) : tS b n a + tL b n a ≤ tS b n (a + 1) := by
  have h1 := (tS_bd b hX.1.1 a).2
  have h2 := (tEnd_bd b h1).1
  have h3 := (lS_bd b h2).1
  rw [tS_s b n h]
  unfold tL
  omega
theorem tL_pos {b : Int → Int} {n : Int} (hX : TX b n) (a : Int) : 0 ≤ tL b n a ∧ tS b n a + tL b n a ≤ n ∧ (tS b n a < n → 0 < tL b n a) := by
  have h1 := (tS_bd b hX.1.1 a).2
  obtain ⟨e1, e2, e3⟩ := tEnd_bd b h1
  unfold tL
  exact ⟨by omega, by omega, fun z => by have := e2 z; omega⟩
/-- the wording is no longer than the text -/
theorem wd_inv {b : Int → Int} {n N a : Int} (hX : TX b n) (hN : ∀ i, 0 ≤ i → i < N → ¬ tK b n i = 260) (ha : 0 ≤ a) : ∀ m : Nat, a + m ≤ N + 1 → ((wdN b n a m).length : Int) ≤ (if m = 0 then 0 else tS b n (a + m - 1) + tL b n (a + m - 1)) ∧ (0 < m → a + m ≤ N → (wdN b n a m).getLastD (-1) = b (tS b n (a + m - 1) + tL b n (a + m - 1) - 1)) ∧ (a + m ≤ N → ((wdS b n (a + m) m (wdN b n a m)).length : Int) ≤ tS b n (a + m))
  | 0, h => ⟨by simp [wdN], fun z => absurd z (Nat.lt_irrefl 0), fun _ => by
      unfold wdS
      rw [if_neg (fun z => absurd z.1 (Nat.lt_irrefl 0))]
      exact (tS_bd b hX.1.1 _).1⟩
  | m + 1, h => by
    obtain ⟨i1, i2, i3⟩ := wd_inv hX hN ha m (by omega)
    have e1 : a + ((m + 1 : Nat) : Int) - 1 = a + m := by omega
    have e2 : a + ((m + 1 : Nat) : Int) = a + m + 1 := by omega
    rw [if_neg (Nat.succ_ne_zero m), e1, e2]
    obtain ⟨t1, t2, t3⟩ := tL_pos hX (a + m)
    have hsx := i3 (by omega)
    have hlen : ((wdN b n a (m + 1)).length : Int) ≤ tS b n (a + m) + tL b n (a + m) := by
      show ((wdS b n (a + m) m (wdN b n a m) ++ tkBk b n (a + m) (tL b n (a + m)).toNat).length : Int) ≤ _
      rw [List.length_append, tkBk_len]
      omega
    have hlast : a + m + 1 ≤ N → (wdN b n a (m + 1)).getLastD (-1) = b (tS b n (a + m) + tL b n (a + m) - 1) := fun h2 => by
      have hlt := (tK_in b hX (show 0 ≤ a + (m : Int) by omega) (hN (a + m) (by omega) (by omega))).1
      have ht := t3 hlt
      obtain ⟨k, hk⟩ : ∃ k : Nat, (tL b n (a + m)).toNat = k + 1 := ⟨(tL b n (a + m)).toNat - 1, by omega⟩
      show (wdS b n (a + m) m (wdN b n a m) ++ tkBk b n (a + m) (tL b n (a + m)).toNat).getLastD (-1) = _
      rw [hk, tkBk_s, ← List.append_assoc, lastD_app]
      congr 1; omega
    refine ⟨hlen, fun _ h2 => hlast h2, fun h2 => ?_⟩
    have hn := tS_next hX (show 0 ≤ a + (m : Int) by omega)
    unfold wdS
    by_cases hc : 0 < m + 1 ∧ ltB (gB b n (tS b n (a + m + 1))) = true ∧ ltB ((wdN b n a (m + 1)).getLastD (-1)) = true
    · rw [if_pos hc]
      obtain ⟨-, c1, c2⟩ := hc
      rw [hlast h2] at c2
      have c1' := ltB_iff.mp c1
      have c2' := ltB_iff.mp c2
      have hg : 0 ≤ tS b n (a + m + 1) ∧ tS b n (a + m + 1) < n := by
        by_cases z : 0 ≤ tS b n (a + m + 1) ∧ tS b n (a + m + 1) < n
        · exact z
        · rw [gB_out z] at c1'; omega
      rw [gB_in hg] at c1'
      have h1 := (tS_bd b hX.1.1 (a + m)).2
      have e3 : tS b n (a + m) + tL b n (a + m) = tEnd b n (tS b n (a + m)) := by unfold tL; omega
      rw [e3] at c2' hn hlen
      have hne : ¬ tEnd b n (tS b n (a + m)) = tS b n (a + m + 1) := fun z => tok_sep h1 c2' (by omega) (by rw [z]; exact c1')
      rw [List.length_append]
      show (((wdN b n a (m + 1)).length + 1 : Nat) : Int) ≤ _
      omega
    · rw [if_neg hc]; omega
/-! ===== the class: a wording told ===== -/
def WdP (X : XX) (v : VV) (L : List Int) (o1 : Option AV) (Y : XX) (w : VV) : Prop := o1 = some (2, (X.1.1 : Int)) ∧ ExtX X Y ∧ Y.1.1 = X.1.1 + 2 ∧ RowS Y X.1.1 ((X.1.1 : Int) + 1) L.length ∧ RowL w X.1.1 ((X.1.1 : Int) + 1) L ∧ (L.length ≤ 400 ∧ 0 ≤ w 15 1) ∧ Fr (fun r _ => (X.1.1 : Int) ≤ r ∨ r = 15 ∨ r = 16) v w
def S15 (r _j : Int) : Prop := r = 15 ∨ r = 16
theorem rAdd_fr {v : VV} {o c x : Int} {S : Int → Int → Prop} (h1 : S o 1) (h2 : ∀ j, S c j) : Fr S v (rAdd v o c x) := (Fr.rf.up (h2 _)).up h1
set_option maxRecDepth 100000 in
set_option maxHeartbeats 4000000 in
theorem k_wordingFrom {X : XX} {v : VV} {b : Int → Int} {n N a : Int} (hW : SW X) (hT : TOK b n N v) (ha : 0 ≤ a ∧ a ≤ N) (h15 : 0 ≤ v 15 1) : Con mX8_wordingFrom 4 2 402 [(2, 5), (0, a)] X v (fun o1 Y w => WdP X v (wdN b n a (N + 1 - a).toNat) o1 Y w) := by
  have hX := hT.1
  have hn4 := hX.1
  have hN2 := hT.2.1
  have hTf : ∀ V, Fr S15 v V → TOK b n N V := fun V hV => hT.fr hV (fun r j q => by unfold TOs at q; unfold S15; omega)
  have hBf : ∀ V, Fr S15 v V → BY b n V := fun V hV => ⟨hX, (hTf V hV).2.2.2.2.2.1, (hTf V hV).2.2.2.2.2.2⟩
  have hinv := fun m h => wd_inv hX hN2.2.2.2 ha.1 m h
  -- the bytes of a token
  have k83 : ∀ (m : Nat), a + m ≤ N → (∀ V, Fr S15 v V → RowL V 15 16 (wdN b n a (m + 1)) → Ex mX8_wordingFrom 4 10 [(2, 5), (0, a), (0, a + (m : Int) + 1), (3, 0), (3, 0)] [] X V 2 402 (fun o1 Y w => WdP X v (wdN b n a (N + 1 - a).toNat) o1 Y w)) → ∀ (k : Int) (V : VV), (0 ≤ k ∧ k ≤ tL b n (a + m)) → Fr S15 v V → RowL V 15 16 (wdS b n (a + m) m (wdN b n a m) ++ tkBk b n (a + m) k.toNat) → Ex mX8_wordingFrom 4 83 [(2, 5), (0, a), (0, a + (m : Int)), (0, tS b n (a + m)), (0, k)] [] X V 2 402 (fun o1 Y w => WdP X v (wdN b n a (N + 1 - a).toNat) o1 Y w) := by
    intro m hm next
    refine loop2 (fun (k : Int) (_ : VV) => (tL b n (a + m) - k).toNat) (fun (k : Int) (V : VV) => (0 ≤ k ∧ k ≤ tL b n (a + m)) → Fr S15 v V → RowL V 15 16 (wdS b n (a + m) m (wdN b n a m) ++ tkBk b n (a + m) k.toNat) → Ex mX8_wordingFrom 4 83 [(2, 5), (0, a), (0, a + (m : Int)), (0, tS b n (a + m)), (0, k)] [] X V 2 402 (fun o1 Y w => WdP X v (wdN b n a (N + 1 - a).toNat) o1 Y w)) (fun k V ih => ?_)
    intro hk hf hR
    obtain ⟨t1, t2, t3⟩ := tL_pos hX (a + m)
    have hs0 := (tS_bd b hX.1.1 (a + m)).1
    have hsx := (hinv m (by omega)).2.2 hm
    refine bX8_wordingFrom_83 a (a + m) (tS b n (a + m)) k (Nat.le_refl _) hW (fun _ _ _ _ => ⟨_, k_long hW (hTf V hf) (by omega) hm, fun r45 w46 hP => ?_⟩)
    obtain ⟨rfl, hr⟩ := hP
    obtain rfl : r45 = tL b n (a + m) := by simpa using hr
    refine ⟨fun g => ⟨⟨by omega, by omega⟩, ?_⟩, fun g => ⟨⟨by omega, by omega⟩, _, k_byte hW (hBf w46 hf) _, fun r49 w50 hP => ?_⟩⟩
    · have e : k = tL b n (a + m) := by omega
      rw [e] at hR
      exact next w46 hf hR
    · obtain ⟨rfl, hr49⟩ := hP
      obtain rfl : r49 = b (tS b n (a + m) + k) := by rw [gB_in (by omega)] at hr49; simpa using hr49
      have hl : w50 15 1 ≤ tS b n (a + m) + k := by
        rw [hR.1, List.length_append, tkBk_len]; omega
      have hl0 : 0 ≤ w50 15 1 := by rw [hR.1]; omega
      refine ⟨_, k_add hW (rowS15 hW) (by decide) ⟨hl0, by show w50 15 1 < (400 : Int); omega⟩ _, fun w54 hP => ⟨⟨by omega, by omega⟩, ?_⟩⟩
      have e54 : w54 = rAdd w50 15 16 (b (tS b n (a + m) + k)) := hP
      rw [e54]
      refine ih (k + 1) _ (by omega) ⟨by omega, by omega⟩ (hf.via (rAdd_fr (S := S15) (Or.inl rfl) (fun _ => Or.inr rfl)) (fun _ _ q => q) (fun _ _ q => q)) ?_
      have hR2 := hR.add (by decide) (b (tS b n (a + m) + k))
      rw [List.append_assoc] at hR2
      rw [show (k + 1).toNat = k.toNat + 1 by omega, tkBk_s, Int.toNat_of_nonneg hk.1]
      exact hR2
  have k10 : ∀ (m : Nat) (V : VV), a + m ≤ N + 1 → Fr S15 v V → RowL V 15 16 (wdN b n a m) → Ex mX8_wordingFrom 4 10 [(2, 5), (0, a), (0, a + (m : Int)), (3, 0), (3, 0)] [] X V 2 402 (fun o1 Y w => WdP X v (wdN b n a (N + 1 - a).toNat) o1 Y w) := by
    refine loop2 (fun (m : Nat) (_ : VV) => (N + 1 - a - m).toNat) (fun (m : Nat) (V : VV) => a + m ≤ N + 1 → Fr S15 v V → RowL V 15 16 (wdN b n a m) → Ex mX8_wordingFrom 4 10 [(2, 5), (0, a), (0, a + (m : Int)), (3, 0), (3, 0)] [] X V 2 402 (fun o1 Y w => WdP X v (wdN b n a (N + 1 - a).toNat) o1 Y w)) (fun m V ih => ?_)
    intro hm hf hR
    have hTV := hTf V hf
    have h6 : V 6 1 = N + 1 := hTV.2.2.1.1
    refine bX8_wordingFrom_10 a (a + m) (Nat.le_refl _) hW (fun _ _ => ⟨_, k_size hW (rowS6 hW), fun r6 w7 hP => ?_⟩)
    obtain ⟨rfl, hr⟩ := hP
    obtain rfl : r6 = N + 1 := by rw [h6] at hr; simpa using hr
    refine ⟨fun g => ?_, fun g => ?_⟩
    · have em : m = (N + 1 - a).toNat := by omega
      have hlen : ((wdN b n a m).length : Int) ≤ 400 := by
        have h1 := (hinv m hm).1
        by_cases z : m = 0
        · rw [if_pos z] at h1; omega
        · rw [if_neg z] at h1
          have := tL_pos hX (a + m - 1)
          omega
      have hcp := k_copy hW (rowS15 hW) (v := w7) (by decide) ⟨by rw [hR.1]; omega, by rw [hR.1]; exact hlen⟩
      have e15 : (w7 15 1).toNat = (wdN b n a m).length := by rw [hR.1]; omega
      refine ⟨2, 2 + (w7 15 1).toNat, by omega, by omega, _, hcp, fun r10 Y w11 hP => ?_⟩
      obtain ⟨p1, p2, p3, p4, p5, p6, p7⟩ := hP
      refine ⟨hW.ext p2, ?_⟩
      rw [e15] at p4
      rw [← em]
      refine ⟨p1, p2, p3, p4, ⟨by rw [p5]; exact hR.1, fun i x hx => ?_⟩, ⟨by omega, by rw [p7 15 1 (by have h87 := hW.1; show ¬ (X.1.1 : Int) ≤ 15; omega), hR.1]; omega⟩, fun r j hn => ?_⟩
      · have hi := (List.getElem?_eq_some_iff.mp hx).1
        rw [p6 i (by omega) (by rw [hR.1]; omega)]
        exact hR.2 i x hx
      · have hn' : ¬ ((X.1.1 : Int) ≤ r ∨ r = 15 ∨ r = 16) := hn
        rw [p7 r j (fun q => hn' (Or.inl q)), hf r j (by unfold S15; omega)]
    · have hmN : a + m ≤ N := by omega
      have next : ∀ V, Fr S15 v V → RowL V 15 16 (wdN b n a (m + 1)) → Ex mX8_wordingFrom 4 10 [(2, 5), (0, a), (0, a + (m : Int) + 1), (3, 0), (3, 0)] [] X V 2 402 (fun o1 Y w => WdP X v (wdN b n a (N + 1 - a).toNat) o1 Y w) := fun V' hf' hR' => by
        have h := ih (m + 1) V' (by omega) (by omega) hf' hR'
        rw [show a + ((m + 1 : Nat) : Int) = a + m + 1 by omega] at h
        exact h
      have tL0 := (tL_pos hX (a + m)).1
      have hsx := (hinv m hm).2.2 hmN
      have hs := tS_bd b hX.1.1 (a + m)
      -- on to the bytes, with or without a blank
      have go : ∀ V, Fr S15 v V → RowL V 15 16 (wdS b n (a + m) m (wdN b n a m)) → Ex mX8_wordingFrom 4 83 [(2, 5), (0, a), (0, a + (m : Int)), (0, tS b n (a + m)), (0, 0)] [] X V 2 402 (fun o1 Y w => WdP X v (wdN b n a (N + 1 - a).toNat) o1 Y w) := fun V' hf' hR' => by
        refine k83 m hmN next 0 V' ⟨Int.le_refl _, tL0⟩ hf' ?_
        have e : tkBk b n (a + m) (0 : Int).toNat = [] := rfl
        rw [e, List.append_nil]; exact hR'
      have no : ¬ (0 < m ∧ ltB (gB b n (tS b n (a + m))) = true ∧ ltB ((wdN b n a m).getLastD (-1)) = true) → RowL w7 15 16 (wdS b n (a + m) m (wdN b n a m)) := fun z => by unfold wdS; rw [if_neg z]; exact hR
      refine ⟨_, k_start hW hTV (by omega) hmN, fun r17 w18 hP => ?_⟩
      obtain ⟨rfl, hr17⟩ := hP
      obtain rfl : r17 = tS b n (a + m) := by simpa using hr17
      refine ⟨fun g2 => go _ hf (no (fun z => by have := z.1; omega)), fun g2 => ⟨_, k_byte hW (hBf _ hf) _, fun r21 w22 hP => ?_⟩⟩
      obtain ⟨rfl, hr21⟩ := hP
      obtain rfl : r21 = gB b n (tS b n (a + m)) := by simpa using hr21
      refine ⟨_, k_isLetter hW _, fun r25 w26 hP => ?_⟩
      obtain ⟨rfl, hr25⟩ := hP
      obtain rfl : r25 = bI (97 ≤ gB b n (tS b n (a + m)) ∧ gB b n (tS b n (a + m)) ≤ 122) := by simpa using hr25
      refine ⟨fun g3 => go _ hf (no (fun z => bI_0.mp g3 (ltB_iff.mp z.2.1))), fun g3 => ⟨_, k_size hW (rowS15 hW), fun r29 w30 hP => ?_⟩⟩
      rw [bI_n0] at g3
      obtain ⟨rfl, hr29⟩ := hP
      obtain rfl : r29 = w30 15 1 := by simpa using hr29
      have hl15 : w30 15 1 ≤ 400 := by
        have h1 : w30 15 1 = ((wdN b n a m).length : Int) := hR.1
        have h2 : ((wdN b n a m).length : Int) ≤ ((wdS b n (a + m) m (wdN b n a m)).length : Int) := by
          unfold wdS; split
          · rw [List.length_append]; omega
          · exact Int.le_refl _
        omega
      have hl0 : 0 ≤ w30 15 1 := by rw [hR.1]; omega
      refine ⟨fun _ => ⟨by omega, by omega⟩, _, k_get hW (rowS15 hW) hl15 _, fun r33 w34 hP => ?_⟩
      obtain ⟨rfl, hr33⟩ := hP
      obtain rfl : r33 = (wdN b n a m).getLastD (-1) := by rw [hR.last] at hr33; simpa using hr33
      refine ⟨_, k_isLetter hW _, fun r37 w38 hP => ?_⟩
      obtain ⟨rfl, hr37⟩ := hP
      obtain rfl : r37 = bI (97 ≤ (wdN b n a m).getLastD (-1) ∧ (wdN b n a m).getLastD (-1) ≤ 122) := by simpa using hr37
      refine ⟨fun g4 => go _ hf (no (fun z => bI_0.mp g4 (ltB_iff.mp z.2.2))), fun g4 => ?_⟩
      rw [bI_n0] at g4
      have hyes : 0 < m ∧ ltB (gB b n (tS b n (a + m))) = true ∧ ltB ((wdN b n a m).getLastD (-1)) = true := ⟨by omega, ltB_iff.mpr g3, ltB_iff.mpr g4⟩
      have eS : wdS b n (a + m) m (wdN b n a m) = wdN b n a m ++ [32] := by unfold wdS; rw [if_pos hyes]
      rw [eS, List.length_append] at hsx
      have hsx' : (((wdN b n a m).length + 1 : Nat) : Int) ≤ tS b n (a + m) := hsx
      refine ⟨_, k_add hW (rowS15 hW) (by decide) ⟨by rw [hR.1]; omega, by rw [hR.1]; show ((wdN b n a m).length : Int) < (400 : Int); omega⟩ _, fun w42 hP => ?_⟩
      have e42 : w42 = rAdd w38 15 16 32 := hP
      rw [e42]
      refine go _ (hf.via (rAdd_fr (S := S15) (Or.inl rfl) (fun _ => Or.inr rfl)) (fun _ _ q => q) (fun _ _ q => q)) ?_
      rw [eS]
      exact hR.add (by decide) 32
  refine Con.of (by decide +kernel) (fun q hq => ?_) (Nat.le_of_ble_eq_true rfl) ?_
  · rcases List.mem_cons.mp hq with rfl | hq
    · exact Nat.le_of_ble_eq_true rfl
    · rw [List.mem_singleton.mp hq]; exact Nat.le_of_ble_eq_true rfl
  show Ex mX8_wordingFrom 4 0 [(2, 5), (0, a), (3, 0), (3, 0), (3, 0)] [] X v 2 402 _
  refine bX8_wordingFrom_0 a (Nat.le_refl _) hW (fun _ => ⟨_, k_cut hW (rowS15 hW) 0, fun w3 hP => ?_⟩)
  have e3 : w3 = rCut v 15 0 := hP
  have h := k10 0 w3 (by omega) (by rw [e3]; exact fun r j hn => rCut_n (fun q => hn (Or.inl q.1))) ⟨by rw [e3]; exact rCut_0 h15, fun i x hx => by simp [wdN] at hx⟩
  rw [show a + ((0 : Nat) : Int) = a by omega] at h
  exact h
/-- the wording of the draft: a source's is left empty -/
def WgP (X : XX) (v : VV) (L : List Int) (o1 : Option AV) (Y : XX) (w : VV) : Prop := WdP X v L o1 Y w
set_option maxRecDepth 100000 in
set_option maxHeartbeats 4000000 in
theorem k_wording {X : XX} {v : VV} {b : Int → Int} {n N a : Int} (hW : SW X) (hT : TOK b n N v) (h8 : v 4 8 = a) (ha : 0 ≤ a ∧ a ≤ N) (h15 : 0 ≤ v 15 1) : Con mX3_wording 5 2 402 [(2, 4)] X v (fun o1 Y w => (v 4 6 = 0 → WdP X v [] o1 Y w) ∧ (¬ v 4 6 = 0 → WdP X v (wdN b n a (N + 1 - a).toNat) o1 Y w)) := by
  refine Con.of (by decide +kernel) (fun q hq => ?_) (Nat.le_of_ble_eq_true rfl) ?_
  · rw [List.mem_singleton.mp hq]; exact Nat.le_of_ble_eq_true rfl
  show Ex mX3_wording 5 0 [(2, 4)] [] X v 2 402 _
  refine bX3_wording_0 (Nat.le_refl _) hW ⟨fun g => ?_, fun g => ?_⟩
  · rw [h8]
    refine ⟨2, 402, Nat.le_refl _, Nat.le_refl _, _, k_wordingFrom hW hT ha h15, fun r2 Y w hP => ⟨hW.ext hP.2.1, fun z => absurd z g, fun _ => hP⟩⟩
  · refine ⟨⟨by decide, by decide⟩, 1, 0, by decide, by decide, _, k_rowInit (X := nX X 6 0) (v := nV X v) (o := (X.1.1 : Int)) (n := 0) (nX_me X 6 0) (nX_in X 6 0) (by decide), fun Y w hP => ?_⟩
    obtain ⟨rfl, rfl⟩ := hP
    have hE : ExtX X (rowX (nX X 6 0) X.1.1 0) := ExtX.rowX
    have hS : RowS (rowX (nX X 6 0) X.1.1 0) X.1.1 ((X.1.1 : Int) + 1) 0 := rowX_S (X := nX X 6 0) (o := (X.1.1 : Int)) (n := 0) (nX_me X 6 0) (nX_in X 6 0)
    refine ⟨hW.ext hE, fun _ => ⟨rfl, hE, rfl, hS, ⟨?_, fun i x hx => by simp at hx⟩, ⟨by decide, by rw [nV_n _ _ (by show ¬ (15 : Int) = ((X.1.1 + 1 : Nat) : Int); have h87 := hW.1; omega), nV_n _ _ (by have h87 := hW.1; omega)]; exact h15⟩, fun r j hn => ?_⟩, fun z => absurd g z⟩
    · rw [nV_n _ _ (by show ¬ (X.1.1 : Int) = ((X.1.1 + 1 : Nat) : Int); omega)]; exact nV_s _ _ _
    · have hn' : ¬ ((X.1.1 : Int) ≤ r ∨ r = 15 ∨ r = 16) := hn
      rw [nV_n _ _ (by show ¬ r = ((X.1.1 + 1 : Nat) : Int); omega), nV_n _ _ (by omega)]
