/-! ===== the first token of a wording ===== -/
def sgL (b : Int → Int) (s : Int) (k : Nat) : List Int := (List.range k).map (fun (j : Nat) => b (s + j))
theorem sgL_s (b : Int → Int) (s : Int) (k : Nat) : sgL b s (k + 1) = b s :: sgL b (s + 1) k := by
  unfold sgL
  rw [List.range_succ_eq_map, List.map_cons, List.map_map]
  congr 1
  · congr 1; show s + ((0 : Nat) : Int) = s; omega
  · refine List.map_congr_left (fun j _ => ?_)
    show b (s + ((j + 1 : Nat) : Int)) = b (s + 1 + (j : Int))
    congr 1; omega
theorem sgL_e (b : Int → Int) (s : Int) (k : Nat) : sgL b s (k + 1) = sgL b s k ++ [b (s + k)] := by
  unfold sgL
  rw [List.range_succ, List.map_append]
  rfl
theorem sgL_mem {b : Int → Int} {s : Int} {k : Nat} {x : Int} (h : x ∈ sgL b s k) : ∃ j : Nat, j < k ∧ x = b (s + j) := by
  unfold sgL at h
  obtain ⟨j, hj, e⟩ := List.mem_map.mp h
  exact ⟨j, List.mem_range.mp hj, e.symm⟩
theorem tkBk_sg (b : Int → Int) (n i : Int) (k : Nat) : tkBk b n i k = sgL b (tS b n i) k := rfl
theorem tw_all {p : Int → Bool} : ∀ (L R : List Int), (∀ x, x ∈ L → p x = true) → (∀ x, R.head? = some x → p x = false) → (L ++ R).takeWhile p = L
  | [], [], _, _ => rfl
  | [], y :: R, _, hR => by
    show (y :: R).takeWhile p = []
    rw [List.takeWhile_cons, hR y rfl]
    rfl
  | x :: L, R, hL, hR => by
    show (x :: (L ++ R)).takeWhile p = x :: L
    rw [List.takeWhile_cons, hL x (List.mem_cons_self ..), if_pos rfl, tw_all L R (fun y hy => hL y (List.mem_cons_of_mem _ hy)) hR]
def lexF (S : List Int) : List Int := if ltB (S.headD 0) = true then S.takeWhile ltB else if dgB (S.headD 0) = true then S.takeWhile dgB else if S.headD 0 = 39 then 39 :: ((S.drop 1).takeWhile qtB ++ [39]) else S.take 1
/-- a token of a text, whole: its first byte, and what may stand behind it -/
def tkGo (b : Int → Int) (n i : Int) (R : List Int) : Prop := ∀ x, R.head? = some x → (ltB (b (tS b n i)) = true → ltB x = false) ∧ (dgB (b (tS b n i)) = true → dgB x = false)
theorem tk_cons {b : Int → Int} {n i : Int} (hX : TX b n) (h : tS b n i < n) : ∃ m : Nat, (tL b n i).toNat = m + 1 ∧ tkBk b n i (tL b n i).toNat = b (tS b n i) :: sgL b (tS b n i + 1) m := by
  have ht := (tL_pos hX i).2.2 h
  refine ⟨(tL b n i).toNat - 1, by omega, ?_⟩
  rw [tkBk_sg, show (tL b n i).toNat = (tL b n i).toNat - 1 + 1 by omega, sgL_s]
  rfl
theorem lex_tk {b : Int → Int} {n i : Int} {R : List Int} (hX : TX b n) (h : tS b n i < n) (h9 : ¬ tK b n i = 259) (hR : tkGo b n i R) : lexF (tkBk b n i (tL b n i).toNat ++ R) = tkBk b n i (tL b n i).toNat := by
  obtain ⟨m, em, ek⟩ := tk_cons hX h
  have hh : (tkBk b n i (tL b n i).toNat ++ R).headD 0 = b (tS b n i) := by rw [ek]; rfl
  have hall : ∀ x, x ∈ tkBk b n i (tL b n i).toNat → ∃ j : Int, tS b n i ≤ j ∧ j < tEnd b n (tS b n i) ∧ x = b j := fun x hx => by
    rw [tkBk_sg] at hx
    obtain ⟨j, j1, j2⟩ := sgL_mem hx
    have hl : tL b n i = tEnd b n (tS b n i) - tS b n i := rfl
    exact ⟨tS b n i + j, by omega, by omega, j2⟩
  have hsn := (tS_bd b hX.1.1 i).2
  unfold lexF
  rw [hh]
  rcases tcase b hsn with q | q | q | q | q
  · obtain ⟨q1, -⟩ := q; omega
  · obtain ⟨q1, q2, -, -, q5, -⟩ := q
    have hl := ltB_iff.mpr q2
    rw [if_pos hl]
    refine tw_all _ _ (fun x hx => ?_) (fun x hx => (hR x hx).1 hl)
    obtain ⟨j, j0, j1, rfl⟩ := hall x hx
    rw [q5] at j1
    exact (rEnd_spec b ltB hsn).2.2.1 j j0 j1
  · obtain ⟨q1, q2, -⟩ := q
    have hd := dgB_iff.mpr q2
    have hl : ¬ ltB (b (tS b n i)) = true := fun z => by have := ltB_iff.mp z; omega
    have e : tEnd b n (tS b n i) = rEnd b dgB n (tS b n i) := by
      unfold tEnd
      rw [if_neg (by omega), if_neg hl, if_pos hd]
    rw [if_neg hl, if_pos hd]
    refine tw_all _ _ (fun x hx => ?_) (fun x hx => (hR x hx).2 hd)
    obtain ⟨j, j0, j1, rfl⟩ := hall x hx
    rw [e] at j1
    exact (rEnd_spec b dgB hsn).2.2.1 j j0 j1
  · obtain ⟨q1, q2, -, -, -, ⟨q6, q7⟩, q8⟩ := q
    have hl : ¬ ltB (b (tS b n i)) = true := fun z => by have := ltB_iff.mp z; omega
    have hd : ¬ dgB (b (tS b n i)) = true := fun z => by have := dgB_iff.mp z; omega
    rw [if_neg hl, if_neg hd, if_pos q2]
    rcases q8 with ⟨-, r1, r2, r3⟩ | ⟨r1, -⟩
    · have hl2 : tL b n i = tEnd b n (tS b n i) - tS b n i := rfl
      obtain ⟨k, hk⟩ : ∃ k : Nat, m = k + 1 := ⟨m - 1, by omega⟩
      have eq39 : b (tS b n i + 1 + k) = 39 := by rw [← r2]; congr 1; omega
      have etk : tkBk b n i (tL b n i).toNat = 39 :: (sgL b (tS b n i + 1) k ++ [39]) := by
        rw [ek, hk, sgL_e, q2, eq39]
      rw [etk]
      show 39 :: (((sgL b (tS b n i + 1) k ++ [39]) ++ R).takeWhile qtB ++ [39]) = _
      rw [List.append_assoc, tw_all (p := qtB) (sgL b (tS b n i + 1) k) ([39] ++ R) (fun x hx => ?_) (fun x hx => ?_)]
      · obtain ⟨j, j1, rfl⟩ := sgL_mem hx
        exact (rEnd_spec b qtB (show tS b n i + 1 ≤ n by omega)).2.2.1 _ (by omega) (by show _ < qE b n (tS b n i); omega)
      · obtain rfl : 39 = x := by simpa using hx
        rfl
    · exact absurd r1 h9
  · obtain ⟨q1, ⟨q2, q3, q4⟩, -, -, -, -, q7⟩ := q
    have hl : ¬ ltB (b (tS b n i)) = true := fun z => q2 (ltB_iff.mp z)
    have hd : ¬ dgB (b (tS b n i)) = true := fun z => q3 (dgB_iff.mp z)
    have hl2 : tL b n i = tEnd b n (tS b n i) - tS b n i := rfl
    rw [if_neg hl, if_neg hd, if_neg q4]
    have e0 : m = 0 := by omega
    rw [ek, e0]
    rfl
/-- a token doesn't begin with a blank -/
theorem tS_nb {b : Int → Int} {n i : Int} (hX : TX b n) (h0 : 0 ≤ i) (h : tS b n i < n) : ¬ b (tS b n i) = 32 := fun z => by
  have hb : ∀ p : Int, p ≤ n → lS b n p < n → ¬ bkB (b (lS b n p)) = true := fun p hp hlt => (rEnd_spec b bkB hp).2.2.2 hlt
  have key : ¬ bkB (b (tS b n i)) = true := by
    by_cases q : i = 0
    · subst q
      rw [tS_0] at h ⊢
      exact hb 0 hX.1.1 h
    · have e := tS_s b n (show 0 ≤ i - 1 by omega)
      rw [show i - 1 + 1 = i by omega] at e
      rw [e] at h ⊢
      exact hb _ (tEnd_bd b (tS_bd b hX.1.1 (i - 1)).2).1 h
  rw [z] at key
  exact key rfl
/-! ===== a wording tells its tokens ===== -/
/-- the tokens a .. a + M - 1, of a text whose tokens may be told -/
def TkG (b : Int → Int) (n a : Int) (M : Nat) : Prop := 0 ≤ a ∧ ∀ i : Int, a ≤ i → i < a + M → tS b n i < n ∧ ¬ tK b n i = 259 ∧ (i + 1 < a + M → tK b n i = 257 → ¬ tK b n (i + 1) = 257)
theorem wdS_or (b : Int → Int) (n i : Int) (m : Nat) (L : List Int) : (wdS b n i m L = L ∧ ¬ (0 < m ∧ ltB (gB b n (tS b n i)) = true ∧ ltB (L.getLastD (-1)) = true)) ∨ (wdS b n i m L = L ++ [32] ∧ (0 < m ∧ ltB (gB b n (tS b n i)) = true ∧ ltB (L.getLastD (-1)) = true)) := by
  unfold wdS
  by_cases q : 0 < m ∧ ltB (gB b n (tS b n i)) = true ∧ ltB (L.getLastD (-1)) = true
  · right; rw [if_pos q]; exact ⟨rfl, q⟩
  · left; rw [if_neg q]; exact ⟨rfl, q⟩
/-- what follows m tokens of a wording -/
def HdW (b : Int → Int) (n i : Int) (m : Nat) (L : List Int) (x : Int) : Prop := x = 32 ∨ (x = b (tS b n i) ∧ ¬ (0 < m ∧ ltB (gB b n (tS b n i)) = true ∧ ltB (L.getLastD (-1)) = true))
theorem wd_ext {b : Int → Int} {n a : Int} (hX : TX b n) {M : Nat} (hg : TkG b n a M) : ∀ (k m : Nat), m + k ≤ M → ∃ R, wdN b n a (m + k) = wdN b n a m ++ R ∧ ∀ x, R.head? = some x → 0 < k ∧ HdW b n (a + m) m (wdN b n a m) x
  | 0, m, _ => ⟨[], (List.append_nil _).symm, fun x hx => absurd hx (by simp)⟩
  | k + 1, m, h => by
    obtain ⟨R, e1, -⟩ := wd_ext hX hg k (m + 1) (by omega)
    have hlt := (hg.2 (a + m) (by omega) (by omega)).1
    obtain ⟨m', -, ek⟩ := tk_cons hX hlt
    have e2 : wdN b n a (m + (k + 1)) = wdS b n (a + m) m (wdN b n a m) ++ tkBk b n (a + m) (tL b n (a + m)).toNat ++ R := by
      rw [show m + (k + 1) = m + 1 + k by omega, e1]
      rfl
    rcases wdS_or b n (a + m) m (wdN b n a m) with ⟨w1, w2⟩ | ⟨w1, w2⟩
    · refine ⟨tkBk b n (a + m) (tL b n (a + m)).toNat ++ R, by rw [e2, w1, List.append_assoc], fun x hx => ⟨by omega, Or.inr ⟨?_, w2⟩⟩⟩
      rw [ek] at hx
      exact (Option.some.inj hx).symm
    · refine ⟨[32] ++ (tkBk b n (a + m) (tL b n (a + m)).toNat ++ R), by rw [e2, w1, List.append_assoc, List.append_assoc], fun x hx => ⟨by omega, Or.inl ?_⟩⟩
      exact (Option.some.inj hx).symm
theorem dg_kind {b : Int → Int} {n i : Int} (hX : TX b n) (h : tS b n i < n) : dgB (b (tS b n i)) = true ↔ tK b n i = 257 := by
  have h0 := (tS_bd b hX.1.1 i).1
  unfold tK
  rw [dgB_iff]
  rcases tcase b (tS_bd b hX.1.1 i).2 with q | q | q | q | q
  · obtain ⟨q1, -⟩ := q; omega
  · obtain ⟨-, q2, -, -, -, q6⟩ := q
    have := wKind_cases (lWord b n (tS b n i)); omega
  · obtain ⟨-, q2, -, -, q5, -⟩ := q; omega
  · obtain ⟨-, q2, -, -, -, -, q8⟩ := q; omega
  · obtain ⟨q1, q2, -, -, -, q6, -⟩ := q
    have := hX.2 _ h0 q1; omega
/-- the token behind m of them, told by what stands there -/
theorem wd_tok {b : Int → Int} {n a : Int} (hX : TX b n) {M : Nat} (hg : TkG b n a M) {m : Nat} (hm : m < M) : ∃ S R : List Int, wdN b n a M = wdN b n a m ++ S ∧ (S = tkBk b n (a + m) (tL b n (a + m)).toNat ++ R ∨ S = 32 :: (tkBk b n (a + m) (tL b n (a + m)).toNat ++ R)) ∧ tkGo b n (a + m) R := by
  obtain ⟨R, e1, hR⟩ := wd_ext hX hg (M - (m + 1)) (m + 1) (by omega)
  rw [show m + 1 + (M - (m + 1)) = M by omega] at e1
  obtain ⟨hlt, h9, h57⟩ := hg.2 (a + m) (by omega) (by omega)
  obtain ⟨m', em', ek⟩ := tk_cons hX hlt
  have hgo : tkGo b n (a + m) R := fun x hx => by
    obtain ⟨hk, hh⟩ := hR x hx
    rcases hh with rfl | ⟨rfl, hno⟩
    · exact ⟨fun _ => rfl, fun _ => rfl⟩
    · have hlt2 := (hg.2 (a + m + 1) (by omega) (by omega)).1
      rw [show a + ((m + 1 : Nat) : Int) = a + m + 1 by omega] at hno ⊢
      refine ⟨fun hl => ?_, fun hd => ?_⟩
      · cases hx2 : ltB (b (tS b n (a + m + 1))) with
        | false => rfl
        | true =>
          exfalso
          refine hno ⟨by omega, ?_, ?_⟩
          · rw [gB_in ⟨(tS_bd b hX.1.1 _).1, hlt2⟩]; exact hx2
          · have e3 : wdN b n a (m + 1) = wdS b n (a + m) m (wdN b n a m) ++ tkBk b n (a + m) (tL b n (a + m)).toNat := rfl
            rw [e3, em', tkBk_s, ← List.append_assoc, lastD_app]
            rcases tcase b (tS_bd b hX.1.1 (a + m)).2 with q | q | q | q | q
            · obtain ⟨q1, -⟩ := q; omega
            · obtain ⟨-, -, -, -, q5, -⟩ := q
              have hl2 : tL b n (a + m) = tEnd b n (tS b n (a + m)) - tS b n (a + m) := rfl
              exact (rEnd_spec b ltB (tS_bd b hX.1.1 (a + m)).2).2.2.1 _ (by omega) (by rw [← q5]; omega)
            · obtain ⟨-, q2, -⟩ := q; have := ltB_iff.mp hl; omega
            · obtain ⟨-, q2, -⟩ := q; have := ltB_iff.mp hl; omega
            · obtain ⟨-, q2, -⟩ := q; exact absurd (ltB_iff.mp hl) q2.1
      · cases hx2 : dgB (b (tS b n (a + m + 1))) with
        | false => rfl
        | true => exact absurd ((dg_kind hX hlt2).mp hx2) (h57 (by omega) ((dg_kind hX hlt).mp hd))
  have e2 : wdN b n a M = wdS b n (a + m) m (wdN b n a m) ++ tkBk b n (a + m) (tL b n (a + m)).toNat ++ R := e1
  rcases wdS_or b n (a + m) m (wdN b n a m) with ⟨w1, -⟩ | ⟨w1, -⟩
  · exact ⟨tkBk b n (a + m) (tL b n (a + m)).toNat ++ R, R, by rw [e2, w1, List.append_assoc], Or.inl rfl, hgo⟩
  · exact ⟨32 :: (tkBk b n (a + m) (tL b n (a + m)).toNat ++ R), R, by rw [e2, w1, List.append_assoc, List.append_assoc]; rfl, Or.inr rfl, hgo⟩
def dBk (S : List Int) : List Int := if S.headD 0 = 32 then S.drop 1 else S
theorem dBk_tk {b : Int → Int} {n i : Int} {S R : List Int} (hX : TX b n) (h0 : 0 ≤ i) (h : tS b n i < n) (hS : S = tkBk b n i (tL b n i).toNat ++ R ∨ S = 32 :: (tkBk b n i (tL b n i).toNat ++ R)) : dBk S = tkBk b n i (tL b n i).toNat ++ R := by
  rcases hS with rfl | rfl
  · obtain ⟨m, -, ek⟩ := tk_cons hX h
    have e : (tkBk b n i (tL b n i).toNat ++ R).headD 0 = b (tS b n i) := by rw [ek]; rfl
    unfold dBk
    rw [e, if_neg (tS_nb hX h0 h)]
  · rfl
theorem tk_same {b b' : Int → Int} {n n' i i' : Int} (hX : TX b n) (hX' : TX b' n') (h : tkBk b n i (tL b n i).toNat = tkBk b' n' i' (tL b' n' i').toNat) : tL b n i = tL b' n' i' ∧ ∀ k : Int, 0 ≤ k → k < tL b n i → b (tS b n i + k) = b' (tS b' n' i' + k) := by
  have t1 := (tL_pos hX i).1
  have t2 := (tL_pos hX' i').1
  have hl : (tL b n i).toNat = (tL b' n' i').toNat := by
    have := congrArg List.length h
    rwa [tkBk_len, tkBk_len] at this
  refine ⟨by omega, fun k k0 k1 => ?_⟩
  rw [← hl] at h
  have hk : k.toNat < (tL b n i).toNat := by omega
  have e := congrArg (fun L => L[k.toNat]?) h
  have g : ∀ (c : Int → Int) (s : Int), ((List.range (tL b n i).toNat).map (fun (j : Nat) => c (s + j)))[k.toNat]? = some (c (s + k)) := fun c s => by
    rw [List.getElem?_map, List.getElem?_range hk]
    show some (c (s + (k.toNat : Int))) = _
    rw [Int.toNat_of_nonneg k0]
  have e' : ((List.range (tL b n i).toNat).map (fun (j : Nat) => b (tS b n i + j)))[k.toNat]? = ((List.range (tL b n i).toNat).map (fun (j : Nat) => b' (tS b' n' i' + j)))[k.toNat]? := e
  rw [g, g] at e'
  exact Option.some.inj e'
theorem wd_dec {b b' : Int → Int} {n n' a : Int} (hX : TX b n) (hX' : TX b' n') {M M' : Nat} (hg : TkG b n a M) (hg' : TkG b' n' a M') (he : wdN b n a M = wdN b' n' a M') : ∀ m : Nat, m ≤ M → m ≤ M' → ∀ i : Nat, i < m → tL b n (a + i) = tL b' n' (a + i) ∧ ∀ k : Int, 0 ≤ k → k < tL b n (a + i) → b (tS b n (a + i) + k) = b' (tS b' n' (a + i) + k)
  | 0, _, _, i, hi => absurd hi (Nat.not_lt_zero i)
  | m + 1, h, h', i, hi => by
    have ih := wd_dec hX hX' hg hg' he m (by omega) (by omega)
    by_cases q : i < m
    · exact ih i q
    · obtain rfl : i = m := by omega
      have e0 := wd_eq hX hX' ih i (Nat.le_refl _)
      obtain ⟨S, R, s1, s2, s3⟩ := wd_tok hX hg (show i < M by omega)
      obtain ⟨S', R', s1', s2', s3'⟩ := wd_tok hX' hg' (show i < M' by omega)
      obtain ⟨g1, g2, -⟩ := hg.2 (a + i) (by omega) (by omega)
      obtain ⟨g1', g2', -⟩ := hg'.2 (a + i) (by omega) (by omega)
      have eS : S = S' := by
        rw [s1, s1', e0] at he
        exact List.append_cancel_left he
      have ed := dBk_tk hX (show 0 ≤ a + (i : Int) by have := hg.1; omega) g1 s2
      have ed' := dBk_tk hX' (show 0 ≤ a + (i : Int) by have := hg.1; omega) g1' s2'
      rw [eS, ed'] at ed
      have l1 := lex_tk hX g1 g2 s3
      have l2 := lex_tk hX' g1' g2' s3'
      rw [ed] at l2
      exact tk_same hX hX' (l1.symm.trans l2)
theorem wd_cnt {b b' : Int → Int} {n n' a : Int} (hX : TX b n) (hX' : TX b' n') {M M' : Nat} (hg : TkG b n a M) (hg' : TkG b' n' a M') (he : wdN b n a M = wdN b' n' a M') : ¬ M < M' := fun hlt => by
  have e0 := wd_eq hX hX' (wd_dec hX hX' hg hg' he M (Nat.le_refl _) (by omega)) M (Nat.le_refl _)
  obtain ⟨S', R', s1', s2', -⟩ := wd_tok hX' hg' hlt
  have g1' := (hg'.2 (a + M) (by omega) (by omega)).1
  obtain ⟨m', -, ek⟩ := tk_cons hX' g1'
  rw [s1', ← e0] at he
  have hl := congrArg List.length he
  rw [List.length_append] at hl
  have : 0 < S'.length := by
    rcases s2' with rfl | rfl
    · rw [ek]; exact Nat.zero_lt_succ _
    · exact Nat.zero_lt_succ _
  omega
