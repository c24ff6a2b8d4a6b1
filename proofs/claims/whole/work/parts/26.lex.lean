/-! ===== words of a text ===== -/
def rE (b : Int → Int) (p : Int → Bool) (n : Int) : Nat → Int → Int
  | 0, x => x
  | f + 1, x => if x < n ∧ p (b x) = true then rE b p n f (x + 1) else x
/-- the end of the run of p from x on -/
def rEnd (b : Int → Int) (p : Int → Bool) (n x : Int) : Int := rE b p n (n - x).toNat x
def RunTo (b : Int → Int) (p : Int → Bool) (n x e : Int) : Prop := x ≤ e ∧ e ≤ n ∧ (∀ i, x ≤ i → i < e → p (b i) = true) ∧ (e < n → ¬ p (b e) = true)
theorem rE_spec (b : Int → Int) (p : Int → Bool) (n : Int) : ∀ (f : Nat) (x : Int), n - x ≤ f → x ≤ n → RunTo b p n x (rE b p n f x)
  | 0, x, h1, h2 => ⟨Int.le_refl _, h2, fun i a c => by unfold rE at c; omega, fun h => by unfold rE at h; omega⟩
  | f + 1, x, h1, h2 => by
    unfold rE
    by_cases hc : x < n ∧ p (b x) = true
    · rw [if_pos hc]
      obtain ⟨a1, a2, a3, a4⟩ := rE_spec b p n f (x + 1) (by omega) (by omega)
      exact ⟨by omega, a2, fun i i0 i1 => by
        by_cases hi : i = x
        · rw [hi]; exact hc.2
        · exact a3 i (by omega) i1, a4⟩
    · rw [if_neg hc]
      exact ⟨Int.le_refl _, h2, fun i a c => by omega, fun h q => hc ⟨h, q⟩⟩
theorem rEnd_spec (b : Int → Int) (p : Int → Bool) {n x : Int} (h : x ≤ n) : RunTo b p n x (rEnd b p n x) := rE_spec b p n _ x (by omega) h
theorem RunTo.unique {b : Int → Int} {p : Int → Bool} {n x e e' : Int} (h : RunTo b p n x e) (h' : RunTo b p n x e') : e = e' := by
  obtain ⟨a1, a2, a3, a4⟩ := h
  obtain ⟨c1, c2, c3, c4⟩ := h'
  rcases Int.lt_trichotomy e e' with q | q | q
  · exact absurd (c3 e a1 q) (a4 (by omega))
  · exact q
  · exact absurd (a3 e' c1 q) (c4 (by omega))
theorem RunTo.eq {b : Int → Int} {p : Int → Bool} {n x e : Int} (h : RunTo b p n x e) : e = rEnd b p n x := h.unique (rEnd_spec b p (Int.le_trans h.1 h.2.1))
theorem rEnd_congr {b b' : Int → Int} {p : Int → Bool} {n x : Int} (h : x ≤ n) (hb : ∀ i, x ≤ i → i < n → b' i = b i) : rEnd b' p n x = rEnd b p n x := by
  obtain ⟨a1, a2, a3, a4⟩ := rEnd_spec b p h
  refine (RunTo.eq ⟨a1, a2, fun i i0 i1 => by rw [hb i i0 (by omega)]; exact a3 i i0 i1, fun q => by rw [hb _ a1 q]; exact a4 q⟩).symm
def ltB (x : Int) : Bool := decide (97 ≤ x) && decide (x ≤ 122)
def dgB (x : Int) : Bool := decide (48 ≤ x) && decide (x ≤ 57)
def bkB (x : Int) : Bool := decide (x = 10) || decide (x = 32)
def qtB (x : Int) : Bool := ltB x || decide (x = 32)
theorem ltB_iff {x : Int} : ltB x = true ↔ 97 ≤ x ∧ x ≤ 122 := by simp [ltB]
theorem dgB_iff {x : Int} : dgB x = true ↔ 48 ≤ x ∧ x ≤ 57 := by simp [dgB]
theorem bkB_iff {x : Int} : bkB x = true ↔ x = 10 ∨ x = 32 := by simp [bkB]
theorem qtB_iff {x : Int} : qtB x = true ↔ (97 ≤ x ∧ x ≤ 122) ∨ x = 32 := by simp [qtB, ltB]
/-- where the next word begins -/
def lS (b : Int → Int) (n p : Int) : Int := rEnd b bkB n p
/-- where the reference stands behind the word that begins at s -/
def lE (b : Int → Int) (n s : Int) : Int := if s = n then n else if ltB (b s) = true then rEnd b ltB n s else if dgB (b s) = true then rEnd b dgB n s else s + 1
def lNow (b : Int → Int) (n s : Int) : Int := if s = n then 0 else if ltB (b s) = true then 1 else if dgB (b s) = true then 2 else if b s = 39 then 3 else if b s < 32 then -1 else b s
def lOver (b : Int → Int) (n s : Int) : Int := if s = n then -1 else if ltB (b s) = true then (if rEnd b ltB n s - s ≤ 8 then -1 else s + 8) else if dgB (b s) = true then (if rEnd b dgB n s - s ≤ 4 then -1 else s + 4) else -1
def lWord (b : Int → Int) (n s : Int) : Int := if s = n then 0 else if ltB (b s) = true then (if rEnd b ltB n s - s ≤ 8 then cdm 27 (fun i => b (s + i)) (rEnd b ltB n s - s).toNat else 0) else 0
theorem p27_pos : ∀ n : Nat, (0 : Int) < 27 ^ n
  | 0 => by decide
  | n + 1 => by rw [Int.pow_succ]; have := p27_pos n; omega
theorem p27_mono (a : Nat) : ∀ k : Nat, (27 : Int) ^ a ≤ 27 ^ (a + k)
  | 0 => Int.le_refl _
  | k + 1 => by
    have h := p27_mono a k
    have hp := p27_pos (a + k)
    rw [show a + (k + 1) = (a + k) + 1 from rfl, Int.pow_succ]
    omega
theorem p27_8 {a : Nat} (h : a ≤ 8) : (27 : Int) ^ a ≤ 27 ^ 8 := by
  have := p27_mono a (8 - a)
  rw [show a + (8 - a) = 8 by omega] at this
  exact this
def SN (r j : Int) : Prop := r = 47 ∧ (j = 23 ∨ j = 29 ∨ j = 30 ∨ j = 31 ∨ j = 32)
/-- behind next() -/
def NX (v v1 : VV) : Prop := v1 47 30 = lS (v 68) (v 47 24) (v 47 23) ∧ v1 47 23 = lE (v 68) (v 47 24) (lS (v 68) (v 47 24) (v 47 23)) ∧ v1 47 29 = lNow (v 68) (v 47 24) (lS (v 68) (v 47 24) (v 47 23)) ∧ v1 47 31 = lOver (v 68) (v 47 24) (lS (v 68) (v 47 24) (v 47 23)) ∧ v1 47 32 = lWord (v 68) (v 47 24) (lS (v 68) (v 47 24) (v 47 23)) ∧ Fr SN v v1
set_option maxRecDepth 100000 in
set_option maxHeartbeats 4000000 in
theorem l_wordFrom {X : XX} {v : VV} {Q : QQ} {d mc ms : Nat} (hW : SW X) (a1 a2 : Int) (h0 : 0 ≤ a1) (h1 : a1 ≤ a2) (h8 : a2 - a1 ≤ 8) (h4 : a2 ≤ 400) (hlt : ∀ i, a1 ≤ i → i < a2 → 97 ≤ v 68 i ∧ v 68 i ≤ 122) (hd : 0 ≤ d) (hQ : Q (some (1, cdm 27 (fun i => v 68 (a1 + i)) (a2 - a1).toNat)) X v) :
    ∀ (x5 : Int), (a1 ≤ x5 ∧ x5 ≤ a2) → Ex mX11_wordFrom d 5 [(2, 47), (0, a1), (0, a2), (1, cdm 27 (fun i => v 68 (a1 + i)) (x5 - a1).toNat), (3, 0), (0, x5)] [] X v mc ms Q := by
  refine loop1 (fun x5 => (a2 - x5).toNat) (fun x5 => (a1 ≤ x5 ∧ x5 ≤ a2) → Ex mX11_wordFrom d 5 [(2, 47), (0, a1), (0, a2), (1, cdm 27 (fun i => v 68 (a1 + i)) (x5 - a1).toNat), (3, 0), (0, x5)] [] X v mc ms Q) (fun x5 ih => ?_)
  intro hk
  have hbd := cdm_bd (m := 27) (by decide) (f := fun i => v 68 (a1 + i)) (x5 - a1).toNat (fun i i0 i1 => hlt _ (by omega) (by omega))
  have hp : (27 : Int) ^ (x5 - a1).toNat ≤ 27 ^ 8 := p27_8 (by omega)
  refine bX11_wordFrom_5 a1 a2 _ x5 hd hW (fun _ _ _ => ⟨fun g => ?_, fun g => ⟨⟨by omega, by omega⟩, fun g2 => ?_, fun g2 => ?_⟩⟩)
  · rw [show x5 = a2 by omega]; exact hQ
  · rw [show x5 = a2 by omega]; exact hQ
  · have hl := hlt x5 hk.1 g
    have e27 : (27 : Int) ^ 8 = 282429536481 := by decide
    rw [e27] at hp
    have hst : 27 * cdm 27 (fun i => v 68 (a1 + i)) (x5 - a1).toNat + v 68 x5 - 97 + 1 = cdm 27 (fun i => v 68 (a1 + i)) (x5 + 1 - a1).toNat := by
      rw [show (x5 + 1 - a1).toNat = (x5 - a1).toNat + 1 by omega]
      show _ = 27 * cdm 27 (fun i => v 68 (a1 + i)) (x5 - a1).toNat + (v 68 (a1 + ((x5 - a1).toNat : Int)) - 96)
      rw [show a1 + ((x5 - a1).toNat : Int) = x5 by omega]
      omega
    refine ⟨⟨by omega, by omega⟩, ⟨by omega, by omega⟩, ⟨by omega, by omega⟩, ⟨by omega, by omega⟩, ⟨by omega, by omega⟩, ⟨by omega, by omega⟩, ?_⟩
    rw [hst]
    exact ih (x5 + 1) (by omega) ⟨by omega, by omega⟩
theorem c_wordFrom {X : XX} {v : VV} (hW : SW X) (a1 a2 : Int) (h0 : 0 ≤ a1) (h1 : a1 ≤ a2) (h8 : a2 - a1 ≤ 8) (h4 : a2 ≤ 400) (hlt : ∀ i, a1 ≤ i → i < a2 → 97 ≤ v 68 i ∧ v 68 i ≤ 122) : CX mX11_wordFrom 0 [(2, 47), (0, a1), (0, a2)] X v (fun o v1 => v1 = v ∧ o = some (1, cdm 27 (fun i => v 68 (a1 + i)) (a2 - a1).toNat)) := by
  refine CX.of (by decide +kernel) rfl rfl rfl (bX11_wordFrom_0 a1 a2 (Nat.le_refl _) hW (fun _ _ => ?_))
  have h := l_wordFrom (Q := fun o X1 v1 => X1 = X ∧ (v1 = v ∧ o = some (1, cdm 27 (fun i => v 68 (a1 + i)) (a2 - a1).toNat))) (mc := 0) (ms := 0) (d := 0) hW a1 a2 h0 h1 h8 h4 hlt (Nat.le_refl _) ⟨rfl, rfl, rfl⟩ a1 ⟨Int.le_refl _, h1⟩
  rw [Int.sub_self] at h
  exact h
set_option maxRecDepth 100000 in
set_option maxHeartbeats 4000000 in
/-- blanks are passed -/
theorem l_next0 {X : XX} {v : VV} {Q : QQ} {d mc ms : Nat} (hW : SW X) (hn : v 47 24 ≤ 400) (h0 : 0 ≤ v 47 23) (hd : 1 ≤ d) (hQ : Ex mX11_next d 39 [(2, 47)] [] X (upd2 v 47 23 (lS (v 68) (v 47 24) (v 47 23))) mc ms Q) :
    ∀ (x : Int), (v 47 23 ≤ x ∧ x ≤ v 47 24) → (∀ i, v 47 23 ≤ i → i < x → bkB (v 68 i) = true) → Ex mX11_next d 0 [(2, 47)] [] X (upd2 v 47 23 x) mc ms Q := by
  refine loop1 (fun x => (v 47 24 - x).toNat) (fun x => (v 47 23 ≤ x ∧ x ≤ v 47 24) → (∀ i, v 47 23 ≤ i → i < x → bkB (v 68 i) = true) → Ex mX11_next d 0 [(2, 47)] [] X (upd2 v 47 23 x) mc ms Q) (fun x ih => ?_)
  intro hk hp
  have e24 : upd2 v 47 23 x 47 24 = v 47 24 := upd2_n _ (by omega)
  have e68 : ∀ j, upd2 v 47 23 x 68 j = v 68 j := fun j => upd2_n _ (by omega)
  refine bX11_next_0 hd hW ?_
  rw [upd2_s, e24, e68]
  refine ⟨fun g => ?_, fun g => ⟨⟨by omega, by omega⟩, _, c_isBlank hW _, fun r2 w3 hP => ?_⟩⟩
  · have e : x = lS (v 68) (v 47 24) (v 47 23) := RunTo.eq ⟨hk.1, hk.2, hp, fun q => by omega⟩
    rw [e]; exact hQ
  · obtain ⟨rfl, hr⟩ := hP
    obtain rfl : r2 = bI (v 68 x = 10 ∨ v 68 x = 32) := by simpa using hr
    refine ⟨fun g2 => ?_, fun g2 => ?_⟩
    · rw [bI_0] at g2
      have e : x = lS (v 68) (v 47 24) (v 47 23) := RunTo.eq ⟨hk.1, hk.2, hp, fun q z => g2 (bkB_iff.mp z)⟩
      rw [e]; exact hQ
    · rw [bI_n0] at g2
      rw [upd2_s, upd2_uu]
      exact ⟨fun _ => ⟨by omega, by omega⟩, ih (x + 1) (by omega) ⟨by omega, by omega⟩ (fun i i0 i1 => by
        by_cases hi : i = x
        · rw [hi]; exact bkB_iff.mpr g2
        · exact hp i i0 (by omega))⟩
def LXs (v V : VV) (s x c : Int) : Prop := V 47 23 = x ∧ V 47 30 = s ∧ V 47 31 = -1 ∧ V 47 32 = 0 ∧ V 47 29 = c ∧ Fr SN v V
def NX39 (v v1 : VV) (s : Int) : Prop := v1 47 30 = s ∧ v1 47 23 = lE (v 68) (v 47 24) s ∧ v1 47 29 = lNow (v 68) (v 47 24) s ∧ v1 47 31 = lOver (v 68) (v 47 24) s ∧ v1 47 32 = lWord (v 68) (v 47 24) s ∧ Fr SN v v1
theorem SN_n (r j : Int) (h : ¬ r = 47 ∨ j = 24) : ¬ SN r j := by unfold SN; omega
set_option maxRecDepth 100000 in
set_option maxHeartbeats 4000000 in
theorem l_next96 {X : XX} {v : VV} {Q : QQ} {d mc ms : Nat} (hW : SW X) (hn : v 47 24 ≤ 400) (s : Int) (h0 : 0 ≤ s) (hd : 1 ≤ d) (hQ : ∀ V, LXs v V s (rEnd (v 68) ltB (v 47 24) s) 1 → Ex mX11_next d 135 [(2, 47)] [] X V mc ms Q) :
    ∀ (x : Int) (V : VV), (s ≤ x ∧ x ≤ v 47 24) → (∀ i, s ≤ i → i < x → ltB (v 68 i) = true) → LXs v V s x 1 → Ex mX11_next d 96 [(2, 47)] [] X V mc ms Q := by
  refine loop2 (fun (x : Int) (V : VV) => (v 47 24 - x).toNat) (fun (x : Int) (V : VV) => (s ≤ x ∧ x ≤ v 47 24) → (∀ i, s ≤ i → i < x → ltB (v 68 i) = true) → LXs v V s x 1 → Ex mX11_next d 96 [(2, 47)] [] X V mc ms Q) (fun x V ih => ?_)
  intro hk hp hL
  obtain ⟨l1, l2, l3, l4, l5, l6⟩ := hL
  have e24 : V 47 24 = v 47 24 := l6 47 24 (SN_n _ _ (by omega))
  have e68 : ∀ j, V 68 j = v 68 j := fun j => l6 68 j (SN_n _ _ (by omega))
  refine bX11_next_96 hd hW ?_
  rw [l1, e24, e68]
  refine ⟨fun g => ?_, fun g => ⟨⟨by omega, by omega⟩, _, c_isLetter hW _, fun rr ww hP => ?_⟩⟩
  · refine hQ V ⟨?_, l2, l3, l4, l5, l6⟩
    rw [l1]; exact RunTo.eq ⟨hk.1, hk.2, hp, fun q => by omega⟩
  · obtain ⟨rfl, hr⟩ := hP
    obtain rfl : rr = bI (97 ≤ v 68 x ∧ v 68 x ≤ 122) := by simpa using hr
    refine ⟨fun g2 => ?_, fun g2 => ?_⟩
    · rw [bI_0] at g2
      refine hQ _ ⟨?_, l2, l3, l4, l5, l6⟩
      rw [l1]; exact RunTo.eq ⟨hk.1, hk.2, hp, fun q z => g2 (ltB_iff.mp z)⟩
    · rw [bI_n0] at g2
      rw [l1]
      refine ⟨fun _ => ⟨by omega, by omega⟩, ih (x + 1) _ (by omega) ⟨by omega, by omega⟩ (fun i i0 i1 => ?_) ⟨upd2_s _ _ _ _, by rw [upd2_n _ (by omega)]; exact l2, by rw [upd2_n _ (by omega)]; exact l3, by rw [upd2_n _ (by omega)]; exact l4, by rw [upd2_n _ (by omega)]; exact l5, l6.up (by unfold SN; omega)⟩⟩
      by_cases hi : i = x
      · rw [hi]; exact ltB_iff.mpr g2
      · exact hp i i0 (by omega)
set_option maxRecDepth 100000 in
set_option maxHeartbeats 4000000 in
theorem l_next202 {X : XX} {v : VV} {Q : QQ} {d mc ms : Nat} (hW : SW X) (hn : v 47 24 ≤ 400) (s : Int) (h0 : 0 ≤ s) (hd : 1 ≤ d) (hQ : ∀ V, LXs v V s (rEnd (v 68) dgB (v 47 24) s) 2 → Ex mX11_next d 241 [(2, 47)] [] X V mc ms Q) :
    ∀ (x : Int) (V : VV), (s ≤ x ∧ x ≤ v 47 24) → (∀ i, s ≤ i → i < x → dgB (v 68 i) = true) → LXs v V s x 2 → Ex mX11_next d 202 [(2, 47)] [] X V mc ms Q := by
  refine loop2 (fun (x : Int) (V : VV) => (v 47 24 - x).toNat) (fun (x : Int) (V : VV) => (s ≤ x ∧ x ≤ v 47 24) → (∀ i, s ≤ i → i < x → dgB (v 68 i) = true) → LXs v V s x 2 → Ex mX11_next d 202 [(2, 47)] [] X V mc ms Q) (fun x V ih => ?_)
  intro hk hp hL
  obtain ⟨l1, l2, l3, l4, l5, l6⟩ := hL
  have e24 : V 47 24 = v 47 24 := l6 47 24 (SN_n _ _ (by omega))
  have e68 : ∀ j, V 68 j = v 68 j := fun j => l6 68 j (SN_n _ _ (by omega))
  refine bX11_next_202 hd hW ?_
  rw [l1, e24, e68]
  refine ⟨fun g => ?_, fun g => ⟨⟨by omega, by omega⟩, _, c_isDigit hW _, fun rr ww hP => ?_⟩⟩
  · refine hQ V ⟨?_, l2, l3, l4, l5, l6⟩
    rw [l1]; exact RunTo.eq ⟨hk.1, hk.2, hp, fun q => by omega⟩
  · obtain ⟨rfl, hr⟩ := hP
    obtain rfl : rr = bI (48 ≤ v 68 x ∧ v 68 x ≤ 57) := by simpa using hr
    refine ⟨fun g2 => ?_, fun g2 => ?_⟩
    · rw [bI_0] at g2
      refine hQ _ ⟨?_, l2, l3, l4, l5, l6⟩
      rw [l1]; exact RunTo.eq ⟨hk.1, hk.2, hp, fun q z => g2 (dgB_iff.mp z)⟩
    · rw [bI_n0] at g2
      rw [l1]
      refine ⟨fun _ => ⟨by omega, by omega⟩, ih (x + 1) _ (by omega) ⟨by omega, by omega⟩ (fun i i0 i1 => ?_) ⟨upd2_s _ _ _ _, by rw [upd2_n _ (by omega)]; exact l2, by rw [upd2_n _ (by omega)]; exact l3, by rw [upd2_n _ (by omega)]; exact l4, by rw [upd2_n _ (by omega)]; exact l5, l6.up (by unfold SN; omega)⟩⟩
      by_cases hi : i = x
      · rw [hi]; exact dgB_iff.mpr g2
      · exact hp i i0 (by omega)
set_option maxRecDepth 100000 in
set_option maxHeartbeats 4000000 in
theorem l_next39 {X : XX} {v : VV} {Q : QQ} {d mc ms : Nat} (hW : SW X) (hn : v 47 24 ≤ 400) (s : Int) (h0 : 0 ≤ s) (h1 : s ≤ v 47 24) (hs : v 47 23 = s) (hd : 1 ≤ d) (hQ : ∀ v1, NX39 v v1 s → Q none X v1) : Ex mX11_next d 39 [(2, 47)] [] X v mc ms Q := by
  have f0 : Fr SN v (upd2 (upd2 (upd2 v 47 30 s) 47 31 (-1)) 47 32 0) := ((Fr.rf.up (by unfold SN; omega)).up (by unfold SN; omega)).up (by unfold SN; omega)
  refine bX11_next_39 hd hW ?_
  rw [hs]
  refine ⟨fun g => ?_, fun g => ?_⟩
  · refine ⟨⟨h0, by omega⟩, _, c_isLetter hW _, fun r6 w7 hP => ?_⟩
    obtain ⟨rfl, hr⟩ := hP
    obtain rfl : r6 = bI (97 ≤ v 68 s ∧ v 68 s ≤ 122) := by simpa using hr
    have k23 : upd2 (upd2 (upd2 v 47 30 s) 47 31 (-1)) 47 32 0 47 23 = s := by rw [upd2_n _ (by omega), upd2_n _ (by omega), upd2_n _ (by omega)]; exact hs
    have k68 : upd2 (upd2 (upd2 v 47 30 s) 47 31 (-1)) 47 32 0 68 s = v 68 s := by rw [upd2_n _ (by omega), upd2_n _ (by omega), upd2_n _ (by omega)]
    have k30 : upd2 (upd2 (upd2 v 47 30 s) 47 31 (-1)) 47 32 0 47 30 = s := by rw [upd2_n _ (by omega), upd2_n _ (by omega), upd2_s]
    have k31 : upd2 (upd2 (upd2 v 47 30 s) 47 31 (-1)) 47 32 0 47 31 = -1 := by rw [upd2_n _ (by omega), upd2_s]
    have k32 : upd2 (upd2 (upd2 v 47 30 s) 47 31 (-1)) 47 32 0 47 32 = 0 := upd2_s _ _ _ _
    generalize upd2 (upd2 (upd2 v 47 30 s) 47 31 (-1)) 47 32 0 = u at *
    rw [k23, k68]
    have mk : ∀ c, LXs v (upd2 u 47 29 c) s s c := fun c => ⟨by rw [upd2_n _ (by omega)]; exact k23, by rw [upd2_n _ (by omega)]; exact k30, by rw [upd2_n _ (by omega)]; exact k31, by rw [upd2_n _ (by omega)]; exact k32, upd2_s _ _ _ _, f0.up (by unfold SN; omega)⟩
    have fin1 : ∀ c, ¬ (97 ≤ v 68 s ∧ v 68 s ≤ 122) → ¬ (48 ≤ v 68 s ∧ v 68 s ≤ 57) → (c = if v 68 s = 39 then 3 else if v 68 s < 32 then -1 else v 68 s) → Q none X (upd2 (upd2 u 47 29 c) 47 23 (s + 1)) := fun c n1 n2 hc => by
      have z1 : ¬ ltB (v 68 s) = true := fun z => n1 (ltB_iff.mp z)
      have z2 : ¬ dgB (v 68 s) = true := fun z => n2 (dgB_iff.mp z)
      refine hQ _ ⟨?_, ?_, ?_, ?_, ?_, (f0.up (by unfold SN; omega)).up (by unfold SN; omega)⟩
      · rw [upd2_n _ (by omega), upd2_n _ (by omega)]; exact k30
      · rw [upd2_s]; unfold lE; rw [if_neg g, if_neg z1, if_neg z2]
      · rw [upd2_n _ (by omega), upd2_s]; unfold lNow; rw [if_neg g, if_neg z1, if_neg z2]; exact hc
      · rw [upd2_n _ (by omega), upd2_n _ (by omega)]; unfold lOver; rw [if_neg g, if_neg z1, if_neg z2]; exact k31
      · rw [upd2_n _ (by omega), upd2_n _ (by omega)]; unfold lWord; rw [if_neg g, if_neg z1]; exact k32
    refine ⟨fun g2 => ?_, fun g2 => ?_⟩
    · rw [bI_0] at g2
      refine ⟨⟨h0, by omega⟩, _, c_isDigit hW _, fun r10 w11 hP => ?_⟩
      obtain ⟨rfl, hr⟩ := hP
      obtain rfl : r10 = bI (48 ≤ v 68 s ∧ v 68 s ≤ 57) := by simpa using hr
      rw [k23, k68]
      refine ⟨fun g3 => ?_, fun g3 => ?_⟩
      · rw [bI_0] at g3
        refine ⟨⟨h0, by omega⟩, fun g4 => ⟨⟨h0, by omega⟩, fun g5 => ⟨⟨h0, by omega⟩, fun _ => ⟨by omega, by omega⟩, ?_⟩, fun g5 => ⟨fun _ => ⟨by omega, by omega⟩, ?_⟩⟩, fun g4 => ⟨fun _ => ⟨by omega, by omega⟩, ?_⟩⟩
        · exact fin1 _ g2 g3 (by rw [if_neg g4, if_neg (by omega)])
        · exact fin1 _ g2 g3 (by rw [if_neg g4, if_pos g5])
        · exact fin1 _ g2 g3 (by rw [if_pos g4])
      · rw [bI_n0] at g3
        have z1 : ¬ ltB (v 68 s) = true := fun z => g2 (ltB_iff.mp z)
        have z2 : dgB (v 68 s) = true := dgB_iff.mpr g3
        refine l_next202 hW hn s h0 hd (fun V hV => ?_) s _ ⟨Int.le_refl _, h1⟩ (fun i i0 i1 => by omega) (mk 2)
        obtain ⟨l1, l2, l3, l4, l5, l6⟩ := hV
        obtain ⟨q1, q2, -, -⟩ := rEnd_spec (v 68) dgB h1
        refine bX11_next_241 hd hW ?_
        rw [l1, l2]
        refine ⟨fun _ _ => ⟨by omega, by omega⟩, fun g5 => hQ _ ⟨l2, ?_, ?_, ?_, ?_, l6⟩, fun g5 => ⟨fun _ => ⟨by omega, by omega⟩, hQ _ ⟨?_, ?_, ?_, ?_, ?_, l6.up (by unfold SN; omega)⟩⟩⟩
        · rw [l1]; unfold lE; rw [if_neg g, if_neg z1, if_pos z2]
        · rw [l5]; unfold lNow; rw [if_neg g, if_neg z1, if_pos z2]
        · rw [l3]; unfold lOver; rw [if_neg g, if_neg z1, if_pos z2, if_pos g5]
        · rw [l4]; unfold lWord; rw [if_neg g, if_neg z1]
        · rw [upd2_n _ (by omega)]; exact l2
        · rw [upd2_n _ (by omega), l1]; unfold lE; rw [if_neg g, if_neg z1, if_pos z2]
        · rw [upd2_n _ (by omega), l5]; unfold lNow; rw [if_neg g, if_neg z1, if_pos z2]
        · rw [upd2_s]; unfold lOver; rw [if_neg g, if_neg z1, if_pos z2, if_neg (by omega)]
        · rw [upd2_n _ (by omega), l4]; unfold lWord; rw [if_neg g, if_neg z1]
    · rw [bI_n0] at g2
      have z1 : ltB (v 68 s) = true := ltB_iff.mpr g2
      refine l_next96 hW hn s h0 hd (fun V hV => ?_) s _ ⟨Int.le_refl _, h1⟩ (fun i i0 i1 => by omega) (mk 1)
      obtain ⟨l1, l2, l3, l4, l5, l6⟩ := hV
      obtain ⟨q1, q2, q3, -⟩ := rEnd_spec (v 68) ltB h1
      refine bX11_next_135 hd hW ?_
      rw [l1, l2]
      have eV : ∀ j, V 68 j = v 68 j := fun j => l6 68 j (SN_n _ _ (by omega))
      refine ⟨fun _ _ => ⟨by omega, by omega⟩, fun g5 => ⟨_, c_wordFrom hW _ _ h0 q1 g5 (by omega) (fun i i0 i1 => by rw [eV]; exact ltB_iff.mp (q3 i i0 i1)), fun r18 w19 hP => ?_⟩, fun g5 => ⟨fun _ => ⟨by omega, by omega⟩, hQ _ ⟨?_, ?_, ?_, ?_, ?_, l6.up (by unfold SN; omega)⟩⟩⟩
      · obtain ⟨rfl, hr⟩ := hP
        obtain rfl : r18 = cdm 27 (fun i => w19 68 (s + i)) (rEnd (v 68) ltB (v 47 24) s - s).toNat := by simpa using hr
        refine hQ _ ⟨?_, ?_, ?_, ?_, ?_, l6.up (by unfold SN; omega)⟩
        · rw [upd2_n _ (by omega)]; exact l2
        · rw [upd2_n _ (by omega), l1]; unfold lE; rw [if_neg g, if_pos z1]
        · rw [upd2_n _ (by omega), l5]; unfold lNow; rw [if_neg g, if_pos z1]
        · rw [upd2_n _ (by omega), l3]; unfold lOver; rw [if_neg g, if_pos z1, if_pos g5]
        · rw [upd2_s]; unfold lWord; rw [if_neg g, if_pos z1, if_pos g5]
          exact cdm_congr _ (fun i _ _ => eV _)
      · rw [upd2_n _ (by omega)]; exact l2
      · rw [upd2_n _ (by omega), l1]; unfold lE; rw [if_neg g, if_pos z1]
      · rw [upd2_n _ (by omega), l5]; unfold lNow; rw [if_neg g, if_pos z1]
      · rw [upd2_s]; unfold lOver; rw [if_neg g, if_pos z1, if_neg (by omega)]
      · rw [upd2_n _ (by omega), l4]; unfold lWord; rw [if_neg g, if_pos z1, if_neg (by omega)]
  · refine hQ _ ⟨?_, ?_, ?_, ?_, ?_, f0.up (by unfold SN; omega)⟩
    · rw [upd2_n _ (by omega), upd2_n _ (by omega), upd2_n _ (by omega), upd2_s]
    · rw [upd2_n _ (by omega), upd2_n _ (by omega), upd2_n _ (by omega), upd2_n _ (by omega), hs]; unfold lE; rw [if_pos g]; exact g
    · rw [upd2_s]; unfold lNow; rw [if_pos g]
    · rw [upd2_n _ (by omega), upd2_n _ (by omega), upd2_s]; unfold lOver; rw [if_pos g]
    · rw [upd2_n _ (by omega), upd2_s]; unfold lWord; rw [if_pos g]
set_option maxRecDepth 100000 in
set_option maxHeartbeats 4000000 in
theorem c_next {X : XX} {v : VV} (hW : SW X) (hn : v 47 24 ≤ 400) (h0 : 0 ≤ v 47 23) (h1 : v 47 23 ≤ v 47 24) : CX mX11_next 1 [(2, 47)] X v (fun o v1 => NX v v1) := by
  have hS := rEnd_spec (v 68) bkB h1
  have key : Ex mX11_next 1 0 [(2, 47)] [] X v 0 0 (fun o X1 v1 => X1 = X ∧ NX v v1) := by
    have h := l_next0 (Q := fun o X1 v1 => X1 = X ∧ NX v v1) (mc := 0) (ms := 0) (d := 1) hW hn h0 (Nat.le_refl _) ?_ (v 47 23) ⟨Int.le_refl _, h1⟩ (fun i i0 i1 => by omega)
    · rw [upd2_id] at h; exact h
    · have e24 : upd2 v 47 23 (lS (v 68) (v 47 24) (v 47 23)) 47 24 = v 47 24 := upd2_n _ (by omega)
      have e68 : upd2 v 47 23 (lS (v 68) (v 47 24) (v 47 23)) 68 = v 68 := funext fun j => upd2_n _ (by omega)
      have hs1 : v 47 23 ≤ lS (v 68) (v 47 24) (v 47 23) := hS.1
      have hs2 : lS (v 68) (v 47 24) (v 47 23) ≤ v 47 24 := hS.2.1
      refine l_next39 hW (by rw [e24]; exact hn) _ (by omega) (by rw [e24]; exact hs2) (upd2_s _ _ _ _) (Nat.le_refl _) (fun v1 hv => ?_)
      unfold NX39 at hv
      rw [e24, e68] at hv
      exact ⟨rfl, hv.1, hv.2.1, hv.2.2.1, hv.2.2.2.1, hv.2.2.2.2.1, Fr.tr (Fr.up (S := SN) Fr.rf (by unfold SN; omega)) hv.2.2.2.2.2 (fun r j hh => ⟨hh, hh⟩)⟩
  exact CX.of (by decide +kernel) rfl rfl rfl key
