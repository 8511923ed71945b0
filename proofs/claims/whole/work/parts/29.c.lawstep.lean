/-! ===== the law: one step (tools/lawstep.py) ===== -/
theorem law_step {L : Nat} {xs : Int → Int} (hL : L ≤ 3072) (hx : ∀ i, w32 (xs i) = xs i) {b : Bool} {μ : Nat → Int → Int} (hR : R b μ) {i : Int} (i0 : 0 ≤ i) (i1 : i + 6 ≤ (L : Int)) (K : ∀ b' μ', R b' μ' → EL (fun n => mRun (lawO L xs) kL_law n 981 [some (mP 1003), some (mP 0), some (mP 96), some (mI i)] [] (SH, μ', RHO b'))) : EL (fun n => mRun (lawO L xs) kL_law n 18 [some (mP 1003), some (mP 0), some (mP 96), some (mI i)] [] (SH, μ, RHO b)) := by
  have a : ∀ k, 0 ≤ k → k ≤ 5 → ∀ M, lawO L xs 9996 [mI (w32 (i + k))] M = some (xs (i + k), M) := fun k k0 k5 M => lawO_at hL i0 k0 (by omega) M
  have up : ∀ {z : Nat} {as : List mV} {M : mMem} {r : Int × mMem}, z < 9995 → mCallN 1000 z as M = some r → lawO L xs z as M = some r := fun hz h => by rw [lawO_call hz]; exact h
  have a1 := a 1 (by decide) (by decide)
  have a2 := a 2 (by decide) (by decide)
  have a3 := a 3 (by decide) (by decide)
  have a4 := a 4 (by decide) (by decide)
  have a5 := a 5 (by decide) (by decide)
  refine el_row (fun n => tL_law_18 _ n b μ i) (el_call (lawO_len _) (el_neg (by show ¬ w32 ((L : Int) - 6) < i; rw [w32_id (by omega) (by omega)]; omega) (el_call (lawO_at0 i0 (by omega) _) ?_)))
  by_cases c0 : iAnd (xs i) 31 = 0
  · obtain ⟨v, μ1, μ2, h1, h2, hR'⟩ := p_feed (xs (i + 1)) (xs (i + 2)) (xs (i + 3)) (xs (i + 4)) (xs (i + 5)) hR 1000 (by decide)
    exact el_if c0 (el_call (a1 _) (el_call (a2 _) (el_call (a3 _) (el_call (a4 _) (el_call (a5 _) (el_call (up (by decide) h1) (el_call (a1 _) (el_call (a2 _) (el_call (a3 _) (el_call (a4 _) (el_call (a5 _) (el_call (up (by decide) h2) (el_pos rfl (K b μ2 hR'))))))))))))))
  refine el_if0 c0 ?_
  by_cases c1 : iAnd (xs i) 31 = 1
  · obtain ⟨v, μ1, μ2, h1, h2, hR'⟩ := p_end (xs (i + 1)) hR 1000 (by decide)
    exact el_if c1 (el_call (a1 _) (el_call (up (by decide) h1) (el_call (a1 _) (el_call (up (by decide) h2) (el_pos rfl (K b μ2 hR'))))))
  refine el_if0 c1 ?_
  by_cases c2 : iAnd (xs i) 31 = 2
  · obtain ⟨v, μ1, μ2, b', h1, h2, hR'⟩ := p_town hR 1000 (by decide)
    exact el_if c2 (el_call (up (by decide) h1) (el_call (up (by decide) h2) (el_pos rfl (K b' μ2 hR'))))
  refine el_if0 c2 ?_
  by_cases c3 : iAnd (xs i) 31 = 3
  · obtain ⟨v, μ1, μ2, h1, h2, hR'⟩ := p_fault (xs (i + 1)) hR 1000 (by decide)
    exact el_if c3 (el_call (a1 _) (el_call (up (by decide) h1) (el_call (a1 _) (el_call (up (by decide) h2) (el_pos rfl (K b μ2 hR'))))))
  refine el_if0 c3 ?_
  by_cases c4 : iAnd (xs i) 31 = 4
  · obtain ⟨v, μ1, μ2, h1, h2, hR'⟩ := p_has (xs (i + 1)) hR 1000 (by decide)
    exact el_if c4 (el_call (a1 _) (el_call (up (by decide) h1) (el_call (a1 _) (el_call (up (by decide) h2) (el_pos rfl (K b μ2 hR'))))))
  refine el_if0 c4 ?_
  by_cases c5 : iAnd (xs i) 31 = 5
  · obtain ⟨v, μ1, μ2, h1, h2, hR'⟩ := p_letter (xs (i + 1)) (xs (i + 2)) (xs (i + 3)) hR 1000 (by decide)
    exact el_if c5 (el_call (a1 _) (el_call (a2 _) (el_call (a3 _) (el_call (up (by decide) h1) (el_call (a1 _) (el_call (a2 _) (el_call (a3 _) (el_call (up (by decide) h2) (el_pos rfl (K b μ2 hR'))))))))))
  refine el_if0 c5 ?_
  by_cases c6 : iAnd (xs i) 31 = 6
  · obtain ⟨v, μ1, μ2, h1, h2, hR'⟩ := p_gate (xs (i + 1)) (xs (i + 2)) hR 1000 (by decide)
    exact el_if c6 (el_call (a1 _) (el_call (a2 _) (el_call (up (by decide) h1) (el_call (a1 _) (el_call (a2 _) (el_call (up (by decide) h2) (el_pos rfl (K b μ2 hR'))))))))
  refine el_if0 c6 ?_
  by_cases c7 : iAnd (xs i) 31 = 7
  · obtain ⟨v, μ1, μ2, h1, h2, hR'⟩ := p_man (xs (i + 1)) (xs (i + 2)) hR 1000 (by decide)
    exact el_if c7 (el_call (a1 _) (el_call (a2 _) (el_call (up (by decide) h1) (el_call (a1 _) (el_call (a2 _) (el_call (up (by decide) h2) (el_pos rfl (K b μ2 hR'))))))))
  refine el_if0 c7 ?_
  by_cases c8 : iAnd (xs i) 31 = 8
  · obtain ⟨v, μ1, μ2, h1, h2, hR'⟩ := p_person (xs (i + 1)) (xs (i + 2)) hR 1000 (by decide)
    exact el_if c8 (el_call (a1 _) (el_call (a2 _) (el_call (up (by decide) h1) (el_call (a1 _) (el_call (a2 _) (el_call (up (by decide) h2) (el_pos rfl (K b μ2 hR'))))))))
  refine el_if0 c8 ?_
  by_cases c9 : iAnd (xs i) 31 = 9
  · obtain ⟨v, μ1, μ2, h1, h2, hR'⟩ := p_lets (xs (i + 1)) (xs (i + 2)) hR 1000 (by decide)
    exact el_if c9 (el_call (a1 _) (el_call (a2 _) (el_call (up (by decide) h1) (el_call (a1 _) (el_call (a2 _) (el_call (up (by decide) h2) (el_pos rfl (K b μ2 hR'))))))))
  refine el_if0 c9 ?_
  by_cases c10 : iAnd (xs i) 31 = 10
  · obtain ⟨v, μ1, μ2, h1, h2, hR'⟩ := p_way (xs (i + 1)) (xs (i + 2)) hR 1000 (by decide)
    exact el_if c10 (el_call (a1 _) (el_call (a2 _) (el_call (up (by decide) h1) (el_call (a1 _) (el_call (a2 _) (el_call (up (by decide) h2) (el_pos rfl (K b μ2 hR'))))))))
  refine el_if0 c10 ?_
  by_cases c11 : iAnd (xs i) 31 = 11
  · obtain ⟨v, μ1, μ2, h1, h2, hR'⟩ := p_reached (xs (i + 1)) hR 1000 (by decide)
    exact el_if c11 (el_call (a1 _) (el_call (up (by decide) h1) (el_call (a1 _) (el_call (up (by decide) h2) (el_pos rfl (K b μ2 hR'))))))
  refine el_if0 c11 ?_
  by_cases c12 : iAnd (xs i) 31 = 12
  · obtain ⟨v, μ1, μ2, h1, h2, hR'⟩ := p_go (xs (i + 1)) hR 1000 (by decide)
    exact el_if c12 (el_call (a1 _) (el_call (up (by decide) h1) (el_call (a1 _) (el_call (up (by decide) h2) (el_pos rfl (K b μ2 hR'))))))
  refine el_if0 c12 ?_
  by_cases c13 : iAnd (xs i) 31 = 13
  · obtain ⟨v, μ1, μ2, h1, h2, hR'⟩ := p_hour (xs (i + 1)) hR 1000 (by decide)
    exact el_if c13 (el_call (a1 _) (el_call (up (by decide) h1) (el_call (a1 _) (el_call (up (by decide) h2) (el_pos rfl (K b μ2 hR'))))))
  refine el_if0 c13 ?_
  by_cases c14 : iAnd (xs i) 31 = 14
  · obtain ⟨v, μ1, μ2, h1, h2, hR'⟩ := p_night hR 1000 (by decide)
    exact el_if c14 (el_call (up (by decide) h1) (el_call (up (by decide) h2) (el_pos rfl (K b μ2 hR'))))
  refine el_if0 c14 ?_
  by_cases c15 : iAnd (xs i) 31 = 15
  · skip
    refine el_if c15 (el_call (a1 _) (el_call (a2 _) (el_call (a3 _) (?_))))
    by_cases q : xs (i + 3) = 0
    · obtain ⟨v, μ1, μ2, h1, h2, hR'⟩ := p_friend (xs (i + 1)) (xs (i + 2)) 0 hR 1000 (by decide)
      exact el_pos q (el_row (fun n => tL_law_631 _ n b μ i _ _ _) (el_call (up (by decide) h1) (el_call (a1 _) (el_call (a2 _) (el_call (a3 _) (el_pos q (el_row (fun n => tL_law_658 _ n b μ1 i _ _ _ _) (el_call (up (by decide) h2) (el_pos rfl (K b μ2 hR'))))))))))
    · obtain ⟨v, μ1, μ2, h1, h2, hR'⟩ := p_friend (xs (i + 1)) (xs (i + 2)) 1 hR 1000 (by decide)
      exact el_neg q (el_row (fun n => tL_law_631 _ n b μ i _ _ _) (el_call (up (by decide) h1) (el_call (a1 _) (el_call (a2 _) (el_call (a3 _) (el_neg q (el_row (fun n => tL_law_658 _ n b μ1 i _ _ _ _) (el_call (up (by decide) h2) (el_pos rfl (K b μ2 hR'))))))))))
  refine el_if0 c15 ?_
  by_cases c16 : iAnd (xs i) 31 = 16
  · obtain ⟨v, μ1, μ2, h1, h2, hR'⟩ := p_swap (xs (i + 1)) (xs (i + 2)) hR 1000 (by decide)
    exact el_if c16 (el_call (a1 _) (el_call (a2 _) (el_call (up (by decide) h1) (el_call (a1 _) (el_call (a2 _) (el_call (up (by decide) h2) (el_pos rfl (K b μ2 hR'))))))))
  refine el_if0 c16 ?_
  by_cases c17 : iAnd (xs i) 31 = 17
  · obtain ⟨v, μ1, μ2, h1, h2, hR'⟩ := p_lots hR 1000 (by decide)
    exact el_if c17 (el_call (up (by decide) h1) (el_call (up (by decide) h2) (el_pos rfl (K b μ2 hR'))))
  refine el_if0 c17 ?_
  by_cases c18 : iAnd (xs i) 31 = 18
  · obtain ⟨v, μ1, μ2, h1, h2, hR'⟩ := p_undo hR 1000 (by decide)
    exact el_if c18 (el_call (up (by decide) h1) (el_call (up (by decide) h2) (el_pos rfl (K b μ2 hR'))))
  refine el_if0 c18 ?_
  by_cases c19 : iAnd (xs i) 31 = 19
  · obtain ⟨v, μ1, μ2, h1, h2, hR'⟩ := p_seed (xs (i + 1)) hR (hx _) 1000 (by decide)
    exact el_if c19 (el_call (a1 _) (el_call (up (by decide) h1) (el_call (a1 _) (el_call (up (by decide) h2) (el_pos rfl (K b μ2 hR'))))))
  refine el_if0 c19 ?_
  by_cases c20 : iAnd (xs i) 31 = 20
  · obtain ⟨v, μ1, μ2, h1, h2, hR'⟩ := p_burglar (xs (i + 1)) (xs (i + 2)) (xs (i + 3)) hR 1000 (by decide)
    exact el_if c20 (el_call (a1 _) (el_call (a2 _) (el_call (a3 _) (el_call (up (by decide) h1) (el_call (a1 _) (el_call (a2 _) (el_call (a3 _) (el_call (up (by decide) h2) (el_pos rfl (K b μ2 hR'))))))))))
  refine el_if0 c20 ?_
  by_cases c21 : iAnd (xs i) 31 = 21
  · obtain ⟨v, μ1, μ2, h1, h2, hR'⟩ := p_tact (xs (i + 1)) hR 1000 (by decide)
    exact el_if c21 (el_call (a1 _) (el_call (up (by decide) h1) (el_call (a1 _) (el_call (up (by decide) h2) (el_pos rfl (K b μ2 hR'))))))
  refine el_if0 c21 ?_
  by_cases c22 : iAnd (xs i) 31 = 22
  · obtain ⟨v, μ1, μ2, h1, h2, hR'⟩ := p_out (xs (i + 1)) hR 1000 (by decide)
    exact el_if c22 (el_call (a1 _) (el_call (up (by decide) h1) (el_call (a1 _) (el_call (up (by decide) h2) (el_pos rfl (K b μ2 hR'))))))
  refine el_if0 c22 ?_
  by_cases c23 : iAnd (xs i) 31 = 23
  · obtain ⟨v, μ1, μ2, h1, h2, hR'⟩ := p_stand (xs (i + 1)) hR 1000 (by decide)
    exact el_if c23 (el_call (a1 _) (el_call (up (by decide) h1) (el_call (a1 _) (el_call (up (by decide) h2) (el_pos rfl (K b μ2 hR'))))))
  refine el_if0 c23 ?_
  by_cases c24 : iAnd (xs i) 31 = 24
  · obtain ⟨v, μ1, μ2, h1, h2, hR'⟩ := p_exchange (xs (i + 1)) hR 1000 (by decide)
    exact el_if c24 (el_call (a1 _) (el_call (up (by decide) h1) (el_call (a1 _) (el_call (up (by decide) h2) (el_pos rfl (K b μ2 hR'))))))
  refine el_if0 c24 ?_
  by_cases c25 : iAnd (xs i) 31 = 25
  · obtain ⟨v, μ1, μ2, h1, h2, hR'⟩ := p_see hR 1000 (by decide)
    exact el_if c25 (el_call (up (by decide) h1) (el_call (up (by decide) h2) (el_pos rfl (K b μ2 hR'))))
  refine el_if0 c25 ?_
  by_cases c26 : iAnd (xs i) 31 = 26
  · obtain ⟨v, μ1, μ2, h1, h2, hR'⟩ := p_seen hR 1000 (by decide)
    exact el_if c26 (el_call (up (by decide) h1) (el_call (up (by decide) h2) (el_pos rfl (K b μ2 hR'))))
  refine el_if0 c26 ?_
  by_cases c27 : iAnd (xs i) 31 = 27
  · obtain ⟨v, μ1, μ2, h1, h2, hR'⟩ := p_fire (xs (i + 1)) hR 1000 (by decide)
    exact el_if c27 (el_call (a1 _) (el_call (up (by decide) h1) (el_call (a1 _) (el_call (up (by decide) h2) (el_pos rfl (K b μ2 hR'))))))
  refine el_if0 c27 ?_
  by_cases c28 : iAnd (xs i) 31 = 28
  · obtain ⟨v, μ1, μ2, h1, h2, hR'⟩ := p_image hR 1000 (by decide)
    exact el_if c28 (el_call (up (by decide) h1) (el_call (up (by decide) h2) (el_pos rfl (K b μ2 hR'))))
  refine el_if0 c28 ?_
  by_cases c29 : iAnd (xs i) 31 = 29
  · obtain ⟨v, μ1, μ2, h1, h2, hR'⟩ := p_octet (xs (i + 1)) hR 1000 (by decide)
    exact el_if c29 (el_call (a1 _) (el_call (up (by decide) h1) (el_call (a1 _) (el_call (up (by decide) h2) (el_pos rfl (K b μ2 hR'))))))
  refine el_if0 c29 ?_
  by_cases c30 : iAnd (xs i) 31 = 30
  · obtain ⟨v, μ1, μ2, h1, h2, hR'⟩ := p_on hR 1000 (by decide)
    exact el_if c30 (el_call (up (by decide) h1) (el_call (up (by decide) h2) (el_pos rfl (K b μ2 hR'))))
  refine el_if0 c30 ?_
  exact K b μ hR
