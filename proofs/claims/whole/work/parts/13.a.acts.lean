/-! ===== acts: what they leave ===== -/
theorem sX9_seed (s : Int) (b : Bool) (μ : Nat → Int → Int) : ∀ d, 1 ≤ d → mCallN d 249 [mP 0, mI s] (SH, μ, RHO b) = some (if s < 0 then (0, SH, μ, RHO b) else (1, SH, m2 μ 0 11 s, RHO b)) := deep fun d _ => by
  refine call_X9_seed d b μ s ⟨1, ?_⟩
  by_cases e : s < 0
  · rw [tX9_seed_0, mBr_pos e, if_pos e]
  · rw [tX9_seed_0, mBr_neg e, if_neg e]
theorem sX10_seed (s : Int) (b : Bool) (μ : Nat → Int → Int) : ∀ d, 1 ≤ d → mCallN d 112 [mP 96, mI s] (SH, μ, RHO b) = some (if s < 0 then (0, SH, μ, RHO b) else (1, SH, m2 μ 96 60 s, RHO b)) := deep fun d _ => by
  refine call_X10_seed d b μ s ⟨1, ?_⟩
  by_cases e : s < 0
  · rw [tX10_seed_0, mBr_pos e, if_pos e]
  · rw [tX10_seed_0, mBr_neg e, if_neg e]
theorem sX9_end (n : Int) (b : Bool) (μ : Nat → Int → Int) : ∀ d, 1 ≤ d → mCallN d 214 [mP 0, mI n] (SH, μ, RHO b) = some (if n < 0 ∨ μ 2 1 < n then (0, SH, μ, RHO b) else (1, SH, m2 μ 2 1 n, RHO b)) := deep fun d _ => by
  refine call_X9_end d b μ n ⟨5, ?_⟩
  by_cases e : n < 0
  · rw [tX9_end_0, mBr_pos e, tX9_end_15, if_pos (Or.inl e)]
  · by_cases e2 : μ 2 1 < n
    · rw [tX9_end_0, mBr_neg e, mBr_pos e2, tX9_end_15, if_pos (Or.inr e2)]
    · rw [tX9_end_0, mBr_neg e, mBr_neg e2, if_neg (by omega)]
theorem sX10_end (n : Int) (b : Bool) (μ : Nat → Int → Int) : ∀ d, 1 ≤ d → mCallN d 32 [mP 96, mI n] (SH, μ, RHO b) = some (if n < 0 ∨ μ 96 1 < n then (0, SH, μ, RHO b) else (1, SH, m2 μ 96 1 n, RHO b)) := deep fun d _ => by
  refine call_X10_end d b μ n ⟨5, ?_⟩
  by_cases e : n < 0
  · rw [tX10_end_0, mBr_pos e, tX10_end_12, if_pos (Or.inl e)]
  · by_cases e2 : μ 96 1 < n
    · rw [tX10_end_0, mBr_neg e, mBr_pos e2, tX10_end_12, if_pos (Or.inr e2)]
    · rw [tX10_end_0, mBr_neg e, mBr_neg e2, if_neg (by omega)]
theorem sX5_forget (b : Bool) (μ : Nat → Int → Int) : ∀ d, 1 ≤ d → mCallN d 186 [mP 30] (SH, μ, RHO b) = some (0, SH, m2 (m2 μ 44 4 0) 46 4 0, RHO b) := deep fun d _ => call_X5_forget d b μ ⟨1, tX5_forget_0 _ _ _ _⟩
