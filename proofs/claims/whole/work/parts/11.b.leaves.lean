/-! ===== contracts of the reference's leaves ===== -/
theorem sX10_isIn (p0 p1 p2 : Int) (b : Bool) (μ : Nat → Int → Int) : ∀ d, 1 ≤ d → mCallN d 66 [mJ p0, mJ p1, mJ p2] (SH, μ, RHO b) = some (t01 (p1 ≤ p0 ∧ p0 ≤ p2), SH, μ, RHO b) := deep fun d _ => by
  refine call_X10_isIn d b μ p0 p1 p2 ⟨5, ?_⟩
  by_cases h1 : p0 < p1
  · rw [t01_neg (by omega)]; simp only [tX10_isIn_0, tX10_isIn_17, tX10_isIn_18, mBr, if_pos h1]; rfl
  · by_cases h2 : p0 ≤ p2
    · rw [t01_pos (by omega)]
      have e1 : ¬ ((if (p0 : Int) < p1 then -1 else if (p0 : Int) = p1 then 0 else 1 : Int) < 0) := by rw [if_neg h1]; split <;> decide
      have e2 : ¬ ((0 : Int) < if (p0 : Int) < p2 then -1 else if (p0 : Int) = p2 then 0 else 1) := by split; decide; split; decide; omega
      simp only [tX10_isIn_0, tX10_isIn_17, tX10_isIn_18, mBr, if_neg e1, if_neg e2]; rfl
    · rw [t01_neg (by omega)]
      have e1 : ¬ ((if (p0 : Int) < p1 then -1 else if (p0 : Int) = p1 then 0 else 1 : Int) < 0) := by rw [if_neg h1]; split <;> decide
      have e2 : ((0 : Int) < if (p0 : Int) < p2 then -1 else if (p0 : Int) = p2 then 0 else 1) := by rw [if_neg (by omega), if_neg (by omega)]; decide
      simp only [tX10_isIn_0, tX10_isIn_17, tX10_isIn_18, mBr, if_neg e1, if_pos e2]; rfl
theorem sX10_roomMany (b : Bool) (μ : Nat → Int → Int) : ∀ d, 1 ≤ d → mCallN d 109 [mP 96] (SH, μ, RHO b) = some (μ 120 4, SH, μ, RHO b) := deep fun d _ => call_X10_roomMany d b μ ⟨1, tX10_roomMany_0 _ _ _ _⟩
theorem sX10_manMany (b : Bool) (μ : Nat → Int → Int) : ∀ d, 1 ≤ d → mCallN d 84 [mP 96] (SH, μ, RHO b) = some (μ 120 5, SH, μ, RHO b) := deep fun d _ => call_X10_manMany d b μ ⟨1, tX10_manMany_0 _ _ _ _⟩
theorem sX10_personMany (b : Bool) (μ : Nat → Int → Int) : ∀ d, 1 ≤ d → mCallN d 102 [mP 96] (SH, μ, RHO b) = some (μ 120 6, SH, μ, RHO b) := deep fun d _ => call_X10_personMany d b μ ⟨1, tX10_personMany_0 _ _ _ _⟩
theorem sX10_gateMany (b : Bool) (μ : Nat → Int → Int) : ∀ d, 1 ≤ d → mCallN d 47 [mP 96] (SH, μ, RHO b) = some (μ 120 7, SH, μ, RHO b) := deep fun d _ => call_X10_gateMany d b μ ⟨1, tX10_gateMany_0 _ _ _ _⟩
theorem sX10_isRoom (p0 : Int) (b : Bool) (μ : Nat → Int → Int) (h0 : 0 ≤ μ 120 4) (h1 : μ 120 4 ≤ 12) : ∀ d, 2 ≤ d → mCallN d 73 [mP 96, mI p0] (SH, μ, RHO b) = some (t01 (0 ≤ p0 ∧ p0 < μ 120 4), SH, μ, RHO b) := deep fun d hd => by
  refine call_X10_isRoom d b μ p0 ⟨5, ?_⟩
  simp only [tX10_isRoom_0, sX10_roomMany _ _ d hd, sX10_isIn _ _ _ _ _ d hd, mOptR_some, if_pos (t01_01 _)]
  rw [w32_id (by omega) (by omega)]
  exact congrArg some (congrArg (·, _) (t01_congr (by omega)))
theorem sX10_isMan (p0 : Int) (b : Bool) (μ : Nat → Int → Int) (h0 : 0 ≤ μ 120 5) (h1 : μ 120 5 ≤ 12) : ∀ d, 2 ≤ d → mCallN d 68 [mP 96, mI p0] (SH, μ, RHO b) = some (t01 (0 ≤ p0 ∧ p0 < μ 120 5), SH, μ, RHO b) := deep fun d hd => by
  refine call_X10_isMan d b μ p0 ⟨5, ?_⟩
  simp only [tX10_isMan_0, sX10_manMany _ _ d hd, sX10_isIn _ _ _ _ _ d hd, mOptR_some, if_pos (t01_01 _)]
  rw [w32_id (by omega) (by omega)]
  exact congrArg some (congrArg (·, _) (t01_congr (by omega)))
theorem sX10_isPerson (p0 : Int) (b : Bool) (μ : Nat → Int → Int) (h0 : 0 ≤ μ 120 6) (h1 : μ 120 6 ≤ 12) : ∀ d, 2 ≤ d → mCallN d 72 [mP 96, mI p0] (SH, μ, RHO b) = some (t01 (0 ≤ p0 ∧ p0 < μ 120 6), SH, μ, RHO b) := deep fun d hd => by
  refine call_X10_isPerson d b μ p0 ⟨5, ?_⟩
  simp only [tX10_isPerson_0, sX10_personMany _ _ d hd, sX10_isIn _ _ _ _ _ d hd, mOptR_some, if_pos (t01_01 _)]
  rw [w32_id (by omega) (by omega)]
  exact congrArg some (congrArg (·, _) (t01_congr (by omega)))
theorem sX10_isGate (p0 : Int) (b : Bool) (μ : Nat → Int → Int) (h0 : 0 ≤ μ 120 7) (h1 : μ 120 7 ≤ 12) : ∀ d, 2 ≤ d → mCallN d 64 [mP 96, mI p0] (SH, μ, RHO b) = some (t01 (0 ≤ p0 ∧ p0 < μ 120 7), SH, μ, RHO b) := deep fun d hd => by
  refine call_X10_isGate d b μ p0 ⟨5, ?_⟩
  simp only [tX10_isGate_0, sX10_gateMany _ _ d hd, sX10_isIn _ _ _ _ _ d hd, mOptR_some, if_pos (t01_01 _)]
  rw [w32_id (by omega) (by omega)]
  exact congrArg some (congrArg (·, _) (t01_congr (by omega)))
theorem sX10_manAt (g : Int) (b : Bool) (μ : Nat → Int → Int) (h0 : 0 ≤ g) (h1 : g < 12) : ∀ d, 1 ≤ d → mCallN d 83 [mP 96, mI g] (SH, μ, RHO b) = some (μ 133 (2 + g), SH, μ, RHO b) := deep fun d _ => by
  refine call_X10_manAt d b μ g ⟨1, ?_⟩
  rw [tX10_manAt_0, w32_id (by omega) (by omega), if_pos (by omega)]
theorem sX10_personOf (p k : Int) (b : Bool) (μ : Nat → Int → Int) (h0 : 0 ≤ p) (h1 : p < 6) (h2 : 0 ≤ k) (h3 : k < 4) : ∀ d, 1 ≤ d → mCallN d 103 [mP 96, mI p, mI k] (SH, μ, RHO b) = some (μ 133 (38 + 4 * p + k), SH, μ, RHO b) := deep fun d _ => by
  refine call_X10_personOf d b μ p k ⟨1, ?_⟩
  rw [tX10_personOf_0, w32_id (x := 4 * p) (by omega) (by omega), w32_id (x := 38 + 4 * p) (by omega) (by omega), w32_id (by omega) (by omega), if_pos (by omega)]
theorem sX10_firstRoom (g : Int) (b : Bool) (μ : Nat → Int → Int) (h0 : 0 ≤ g) (h1 : g < 12) : ∀ d, 1 ≤ d → mCallN d 41 [mP 96, mI g] (SH, μ, RHO b) = some (μ 124 (36 + 3 * g), SH, μ, RHO b) := deep fun d _ => by
  refine call_X10_firstRoom d b μ g ⟨1, ?_⟩
  rw [tX10_firstRoom_0, w32_id (x := 3 * g) (by omega) (by omega), w32_id (by omega) (by omega), if_pos (by omega)]
theorem sX10_otherRoom (g : Int) (b : Bool) (μ : Nat → Int → Int) (h0 : 0 ≤ g) (h1 : g < 12) : ∀ d, 1 ≤ d → mCallN d 99 [mP 96, mI g] (SH, μ, RHO b) = some (μ 124 (36 + 3 * g + 1), SH, μ, RHO b) := deep fun d _ => by
  refine call_X10_otherRoom d b μ g ⟨1, ?_⟩
  rw [tX10_otherRoom_0, w32_id (x := 3 * g) (by omega) (by omega), w32_id (x := 36 + 3 * g) (by omega) (by omega), w32_id (by omega) (by omega), if_pos (by omega)]
theorem sX10_behind (g r : Int) (b : Bool) (μ : Nat → Int → Int) (h0 : 0 ≤ g) (h1 : g < 12) : ∀ d, 2 ≤ d → mCallN d 16 [mP 96, mI g, mI r] (SH, μ, RHO b) = some (if μ 124 (36 + 3 * g) = r then μ 124 (36 + 3 * g + 1) else if μ 124 (36 + 3 * g + 1) = r then μ 124 (36 + 3 * g) else -1, SH, μ, RHO b) := deep fun d hd => by
  refine call_X10_behind d b μ g r ⟨5, ?_⟩
  simp only [tX10_behind_0, tX10_behind_35, sX10_firstRoom g b μ h0 h1 d hd, sX10_otherRoom g b μ h0 h1 d hd, mOptR_some, mBr]
  by_cases e1 : μ 124 (36 + 3 * g) = r
  · simp only [if_pos e1]
  · by_cases e2 : μ 124 (36 + 3 * g + 1) = r
    · simp only [if_neg e1, if_pos e2]
    · simp only [if_neg e1, if_neg e2]
theorem sX10_hasFainted (m : Int) (b : Bool) (μ : Nat → Int → Int) (h0 : 0 ≤ m) (h1 : m < 12) : ∀ d, 1 ≤ d → mCallN d 54 [mP 96, mI m] (SH, μ, RHO b) = some (t01 (μ 122 (12 + m) ≤ μ 133 (14 + m)), SH, μ, RHO b) := deep fun d hd => by
  refine call_X10_hasFainted d b μ m ⟨5, ?_⟩
  rw [tX10_hasFainted_0, w32_id (x := 14 + m) (by omega) (by omega), w32_id (by omega) (by omega), if_pos (by omega), if_pos (by omega)]
  by_cases e : μ 133 (14 + m) < μ 122 (12 + m)
  · rw [mBr_pos e, tX10_hasFainted_26, t01_neg (by omega)]; rfl
  · rw [mBr_neg e, tX10_hasFainted_26, t01_pos (by omega)]; rfl
theorem sX10_areFriends (p m : Int) (b : Bool) (μ : Nat → Int → Int) (h0 : 0 ≤ p) (h1 : p < 6) : ∀ d, 2 ≤ d → mCallN d 12 [mP 96, mI p, mI m] (SH, μ, RHO b) = some (t01 (iAnd (iShr (μ 133 (38 + 4 * p + 3)) m) 1 = 1), SH, μ, RHO b) := deep fun d hd => by
  refine call_X10_areFriends d b μ p m ⟨5, ?_⟩
  simp only [tX10_areFriends_0, tX10_areFriends_19, sX10_personOf p 3 b μ h0 h1 (by decide) (by decide) d hd, mOptR_some, mBr]
  by_cases e : iAnd (iShr (μ 133 (38 + 4 * p + 3)) m) 1 = 1
  · simp only [if_pos e, t01_pos e]; rfl
  · simp only [if_neg e, t01_neg e]; rfl
