/-! ===== one verdict, a source ===== -/
theorem verdict_src {X : XX} {vc vm vM v1 v2 : VV} {cC : Int → Nat} {b : Int → Int} {n T : Int} {C : Int} {ct cb fa : Int → Int} {LL : Int → List (Int × Int)} {a6 a7 : Int} (hl : LkR X vc vm cC) (h49 : vm 49 T = tW b n 1 ∧ WR (tW b n 1) (nm32 b n 1) ∧ vm 62 (400 * T + 1) = tS b n 1) (h52 : ∀ c : Int, 0 ≤ c → c < C → vm 52 (8 * T + c) = tW b n (ct c) ∧ WR (tW b n (ct c)) (nm32 b n (ct c))) (h50 : vm 50 T = 0) (h66 : vm 66 (8 * T + 7) = 0) (h46 : vc 4 6 = 0)
    (hc : FC (NCk X vc cC b n C 0 ct cb [] LL) v1) (hm : FM (NAct b n vm vM T C 0 ct fa a6 a7) v2) : v1 32 1 = v2 47 25 ∧ v1 32 2 = v2 47 26 := by
  obtain ⟨m1, m2, m3⟩ := h49
  have e1 : ∀ k p, NNm X vc b n k p ↔ NTn vm T k p := fun k p => by
    unfold NNm NTn
    rw [tC_tN hl m2, m1, m3]
  have e2 : ∀ k p, NRi b n ct C 0 k p ↔ NCo vm T ct (tS b n) C 0 k p := fun k p => by
    unfold NRi NCo
    refine and_congr Iff.rfl ⟨fun ⟨c', i', q0, q1, q2, q3, q4⟩ => ⟨c', i', q0, q1, q2, ?_, q4⟩, fun ⟨c', i', q0, q1, q2, q3, q4⟩ => ⟨c', i', q0, q1, q2, ?_, q4⟩⟩
    · obtain ⟨a1, a2⟩ := h52 i' q0 (by omega)
      obtain ⟨a3, a4⟩ := h52 c' (by omega) (by omega)
      rw [a1, a3]; exact (a2.eq a4).mpr q3
    · obtain ⟨a1, a2⟩ := h52 i' q0 (by omega)
      obtain ⟨a3, a4⟩ := h52 c' (by omega) (by omega)
      rw [a1, a3] at q3; exact (a2.eq a4).mp q3
  have e3 : ∀ k p, NCk X vc cC b n C 0 ct cb [] LL k p ↔ (NTn vm T k p ∨ NCo vm T ct (tS b n) C 0 k p) := fun k p => by
    constructor
    · rintro (((((h | h) | h) | h) | h) | ⟨h, -⟩)
      · exact Or.inl ((e1 k p).mp h)
      · exact Or.inr ((e2 k p).mp h)
      · obtain ⟨-, c', i', q0, q1, q2, -⟩ := h; omega
      · obtain ⟨-, i, q0, q1, -⟩ := h; omega
      · obtain ⟨q, h, -⟩ := h; exact absurd h List.not_mem_nil
      · exact absurd h46 h
    · rintro (h | h)
      · exact Or.inl (Or.inl (Or.inl (Or.inl (Or.inl ((e1 k p).mpr h)))))
      · exact Or.inl (Or.inl (Or.inl (Or.inl (Or.inr ((e2 k p).mpr h)))))
  have e4 : ∀ k p, NAct b n vm vM T C 0 ct fa a6 a7 k p ↔ (NTn vm T k p ∨ NCo vm T ct (tS b n) C 0 k p) := fun k p => by
    constructor
    · rintro (((((h | h) | h) | h) | ⟨h, -⟩) | ⟨h, -⟩)
      · exact Or.inl h
      · exact Or.inr h
      · obtain ⟨-, k', q0, q1, -⟩ := h; omega
      · obtain ⟨-, c', i', q0, q1, q2, -⟩ := h; omega
      · omega
      · omega
    · rintro (h | h)
      · exact Or.inl (Or.inl (Or.inl (Or.inl (Or.inl h))))
      · exact Or.inl (Or.inl (Or.inl (Or.inl (Or.inr h))))
  refine least_same (hc.cg e3) (hm.cg e4) (fun k k' p h h' _ => ?_)
  have h4 : ∀ k, (NTn vm T k p ∨ NCo vm T ct (tS b n) C 0 k p) → k = 4 := fun k h => h.elim (fun z => z.1) (fun z => z.1)
  rw [h4 k h, h4 k' h']
