/-- what beginAct leaves: the row kept, the standings forgotten -/
def muBegin (μ : Nat → Int → Int) : Nat → Int → Int := m2 (m2 (m2 (m2 (mCp μ 74 (52 + (μ 50 1).toNat) 0 0 62) 50 1 (nx20 (μ 50 1))) 50 2 (if μ 50 2 < 20 then μ 50 2 + 1 else 20)) 44 4 0) 46 4 0
/-- what keeps leaves -/
def muKeeps (μ : Nat → Int → Int) : Nat → Int → Int := m2 (mCp (m2 μ 96 59 (nx20 (μ 96 59))) 133 138 0 (62 * nx20 (μ 96 59)) 62) 96 58 (if μ 96 58 < 20 then μ 96 58 + 1 else 20)
theorem sX9_beginAct (b : Bool) (μ : Nat → Int → Int) (h0 : 0 ≤ μ 50 1) (h1 : μ 50 1 < 20) (h2 : 0 ≤ μ 50 2) (h3 : μ 50 2 ≤ 20) : ∀ d, 3 ≤ d → mCallN d 210 [mP 0] (SH, μ, RHO b) = some (0, SH, muBegin μ, RHO b) := deep fun d hd => by
  refine call_X9_beginAct d b μ ⟨1, ?_⟩
  rw [tX9_beginAct_0, sX0_keep b μ h0 h1 h2 h3 d hd, mOptR_some, sX5_forget b _ d (by omega), mOptR_some]
  rfl
theorem sX10_keeps' (b : Bool) (μ : Nat → Int → Int) (h0 : 0 ≤ μ 96 59) (h1 : μ 96 59 < 20) (h2 : 0 ≤ μ 96 58) (h3 : μ 96 58 ≤ 20) : ∀ d, 1 ≤ d → mCallN d 77 [mP 96] (SH, μ, RHO b) = some (0, SH, muKeeps μ, RHO b) := sX10_keeps b μ h0 h1 h2 h3
theorem muBegin_ne {μ : Nat → Int → Int} {a : Nat} (h1 : a ≠ 44) (h2 : a ≠ 46) (h3 : a ≠ 50) (h4 : a < 52 ∨ 72 ≤ a) (h5 : 0 ≤ μ 50 1) (h6 : μ 50 1 < 20) : muBegin μ a = μ a := by
  unfold muBegin
  rw [m2_ne h2, m2_ne h1, m2_ne h3, m2_ne h3, mCp_ne (by omega)]
theorem muKeeps_ne {μ : Nat → Int → Int} {a : Nat} (h1 : a ≠ 96) (h2 : a ≠ 138) : muKeeps μ a = μ a := by
  unfold muKeeps
  rw [m2_ne h1, mCp_ne h2, m2_ne h1]
theorem sX10_changes (g h : Int) (b : Bool) (μ : Nat → Int → Int) (h0 : 0 ≤ g) (h1 : g < 12) (h2 : 0 ≤ h) (h3 : h < 12) : ∀ d, 2 ≤ d → mCallN d 20 [mP 96, mI g, mI h] (SH, μ, RHO b) = some (0, SH, m2 (m2 μ 133 (2 + g) (μ 133 (2 + h))) 133 (2 + h) (μ 133 (2 + g)), RHO b) := deep fun d hd => by
  refine call_X10_changes d b μ g h ⟨1, ?_⟩
  have e1 : w32 (2 + g) = 2 + g := w32_id (by omega) (by omega)
  have e2 : w32 (2 + h) = 2 + h := w32_id (by omega) (by omega)
  rw [tX10_changes_0, sX10_manAt g b μ h0 h1 d hd, mOptR_some, sX10_manAt h b μ h2 h3 d hd, mOptR_some, e1, e2, if_pos (by omega), if_pos (by omega)]
theorem sX9_hour (x : Int) (b : Bool) (μ : Nat → Int → Int) (h0 : 0 ≤ μ 50 1) (h1 : μ 50 1 < 20) (h2 : 0 ≤ μ 50 2) (h3 : μ 50 2 ≤ 20) : ∀ d, 4 ≤ d → mCallN d 231 [mP 0, mI x] (SH, μ, RHO b) = some (if 0 ≤ x ∧ x ≤ 23 then (μ 74 1, SH, m2 (muBegin μ) 74 1 x, RHO b) else (-1, SH, μ, RHO b)) := deep fun d hd => by
  refine call_X9_hour d b μ x ⟨5, ?_⟩
  by_cases e : x < 0
  · rw [tX9_hour_0, mBr_pos e, tX9_hour_10, if_neg (by omega)]
  · by_cases e2 : 23 < x
    · rw [tX9_hour_0, mBr_neg e, mBr_pos e2, tX9_hour_10, if_neg (by omega)]
    · rw [tX9_hour_0, mBr_neg e, mBr_neg e2, sX9_beginAct b μ h0 h1 h2 h3 d hd, mOptR_some, if_pos (by omega)]
      show some (muBegin μ 74 1, SH, m2 (muBegin μ) 74 1 x, RHO b) = _
      rw [muBegin_ne (a := 74) (by decide) (by decide) (by decide) (by decide) h0 h1]
theorem sX10_hour (x : Int) (b : Bool) (μ : Nat → Int → Int) (h0 : 0 ≤ μ 96 59) (h1 : μ 96 59 < 20) (h2 : 0 ≤ μ 96 58) (h3 : μ 96 58 ≤ 20) : ∀ d, 2 ≤ d → mCallN d 56 [mP 96, mI x] (SH, μ, RHO b) = some (if 0 ≤ x ∧ x ≤ 23 then (μ 133 1, SH, m2 (muKeeps μ) 133 1 x, RHO b) else (-1, SH, μ, RHO b)) := deep fun d hd => by
  refine call_X10_hour d b μ x ⟨5, ?_⟩
  have hA := sX10_isIn x 0 23 b μ d hd
  by_cases e : 0 ≤ x ∧ x ≤ 23
  · rw [t01_pos e] at hA
    rw [tX10_hour_0, hA, mOptR_some, mBr_neg (by show ¬ ((1 : Int) = 0); decide), sX10_keeps' b μ h0 h1 h2 h3 d hd, mOptR_some, if_pos e]
  · rw [t01_neg e] at hA
    rw [tX10_hour_0, hA, mOptR_some, mBr_pos rfl, if_neg e]
