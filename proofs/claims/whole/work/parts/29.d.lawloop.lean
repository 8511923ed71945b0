/-! ===== the law: all steps ===== -/
theorem law_loop {L : Nat} {xs : Int → Int} (hL : L ≤ 3072) (hx : ∀ i, w32 (xs i) = xs i) : ∀ (k : Nat) (i : Int) (b : Bool) (μ : Nat → Int → Int), 0 ≤ i → (L : Int) - i < 6 * (k : Int) + 6 → i ≤ (L : Int) + 6 → R b μ → EL (fun n => mRun (lawO L xs) kL_law n 18 [some (mP 1003), some (mP 0), some (mP 96), some (mI i)] [] (SH, μ, RHO b)) := by
  have done : ∀ (i : Int) (b : Bool) (μ : Nat → Int → Int), (L : Int) - i < 6 → EL (fun n => mRun (lawO L xs) kL_law n 18 [some (mP 1003), some (mP 0), some (mP 96), some (mI i)] [] (SH, μ, RHO b)) := fun i b μ h =>
    el_row (fun n => tL_law_18 _ n b μ i) (el_call (lawO_len _) (el_pos (by show w32 ((L : Int) - 6) < i; rw [w32_id (by omega) (by omega)]; omega) ⟨0, μ, b, rfl⟩))
  intro k
  induction k with
  | zero =>
    intro i b μ i0 hk _ _
    exact done i b μ (by omega)
  | succ k ih =>
    intro i b μ i0 hk i6 hR
    by_cases c : i + 6 ≤ (L : Int)
    · refine law_step hL hx hR i0 c (fun b' μ' hR' => el_row (fun n => tL_law_981 _ n b' μ' i) ?_)
      rw [w32_id (by omega) (by omega)]
      exact ih (i + 6) b' μ' (by omega) (by omega) (by omega) hR'
    · exact done i b μ (by omega)
/-- the loop from its beginning -/
theorem law_from {L : Nat} {xs : Int → Int} (hL : L ≤ 3072) (hx : ∀ i, w32 (xs i) = xs i) {b : Bool} {μ : Nat → Int → Int} (hR : R b μ) : EL (fun n => mRun (lawO L xs) kL_law n 18 [some (mP 1003), some (mP 0), some (mP 96), some (mI 0)] [] (SH, μ, RHO b)) :=
  law_loop hL hx L 0 b μ (by decide) (by omega) (by omega) hR
