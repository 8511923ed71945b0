def pv20 (x : Int) : Int := if x = 0 then 19 else x - 1
theorem pv20_in {x : Int} (h0 : 0 ≤ x) (h1 : x < 20) : 0 ≤ pv20 x ∧ pv20 x < 20 := by unfold pv20; split <;> omega
theorem iRem_pv {x : Int} (h0 : 0 ≤ x) (h1 : x < 20) : iRem (w32 (w32 (x + 20) - 1)) 20 = pv20 x := by
  have H : ∀ j : Fin 20, iRem (w32 (w32 (((j.1 : Nat) : Int) + 20) - 1)) 20 = pv20 (j.1 : Nat) := by decide +kernel
  have := H ⟨x.toNat, by omega⟩
  rwa [show ((x.toNat : Nat) : Int) = x by omega] at this
theorem sX0_bringBack (b : Bool) (μ : Nat → Int → Int) (h0 : 0 ≤ μ 50 1) (h1 : μ 50 1 < 20) (h2 : 0 ≤ μ 50 2) (h3 : μ 50 2 ≤ 20) : ∀ d, 1 ≤ d → mCallN d 8 [mP 50, mP 74] (SH, μ, RHO b) = some (if μ 50 2 = 0 then (0, SH, μ, RHO b) else (1, SH, mCp (m2 (m2 μ 50 1 (pv20 (μ 50 1))) 50 2 (μ 50 2 - 1)) (52 + (pv20 (μ 50 1)).toNat) 74 0 0 62, RHO b)) := deep fun d _ => by
  refine call_X0_bringBack d b μ 74 ⟨1, ?_⟩
  by_cases e : μ 50 2 = 0
  · rw [tX0_bringBack_0, mBr_pos e, if_pos e]
  · obtain ⟨p0, p1⟩ := pv20_in h0 h1
    have e1 : m2 μ 50 1 (pv20 (μ 50 1)) 50 2 = μ 50 2 := by rw [m2_at, if_neg (by decide)]
    have e2 : w32 (μ 50 2 - 1) = μ 50 2 - 1 := w32_id (by omega) (by omega)
    have e3 : m2 (m2 μ 50 1 (pv20 (μ 50 1))) 50 2 (μ 50 2 - 1) 50 1 = pv20 (μ 50 1) := by rw [m2_at, if_neg (by decide), m2_at, if_pos rfl]
    have hq := shp_hist (j := (pv20 (μ 50 1)).toNat) (by omega)
    rw [tX0_bringBack_0, mBr_neg e, if_neg e, iRem_pv h0 h1, e1, e2, e3, if_pos ⟨p0, p1⟩, rho51 p0 p1, mOpt, arr_of hq, arr_of (a := 74) (N := 62) rfl, Bool.and_true, cond_true, shape_of hq, shape_of (a := 74) (N := 62) rfl, if_pos (by refine ⟨by decide, by decide, by decide, by decide, by decide⟩)]
theorem sX9_undo (b : Bool) (μ : Nat → Int → Int) (h0 : 0 ≤ μ 50 1) (h1 : μ 50 1 < 20) (h2 : 0 ≤ μ 50 2) (h3 : μ 50 2 ≤ 20) : ∀ d, 2 ≤ d → mCallN d 256 [mP 0] (SH, μ, RHO b) = some (if μ 50 2 = 0 then (0, SH, μ, RHO b) else (1, SH, m2 (m2 (mCp (m2 (m2 μ 50 1 (pv20 (μ 50 1))) 50 2 (μ 50 2 - 1)) (52 + (pv20 (μ 50 1)).toNat) 74 0 0 62) 44 4 0) 46 4 0, RHO b)) := deep fun d hd => by
  refine call_X9_undo d b μ ⟨1, ?_⟩
  rw [tX9_undo_0, sX0_bringBack b μ h0 h1 h2 h3 d hd]
  by_cases e : μ 50 2 = 0
  · rw [if_pos e, if_pos e, mOptR_some, mBr_pos rfl]
  · rw [if_neg e, if_neg e, mOptR_some, mBr_neg (by show ¬ ((1 : Int) = 0); decide), sX5_forget b _ d hd, mOptR_some]
theorem eX10_undo {Φ : mOrc} {b : Bool} {μ : Nat → Int → Int} (h0 : 0 ≤ μ 96 59) (h1 : μ 96 59 < 20) (h2 : 0 < μ 96 58) (h3 : μ 96 58 ≤ 20) : ∀ (k : Nat) (i : Int), 0 ≤ i → i + k = 62 → mEv Φ kX10_undo 11 [some (mP 96), some (mI i)] [] (SH, mCp μ 138 133 (62 * μ 96 59) 0 i, RHO b) (1, SH, m2 (m2 (mCp μ 138 133 (62 * μ 96 59) 0 62) 96 59 (pv20 (μ 96 59))) 96 58 (μ 96 58 - 1), RHO b) := by
  intro k
  induction k with
  | zero =>
    intro i hi hk
    have hi : i = 62 := by omega
    subst hi
    have e1 : mCp μ 138 133 (62 * μ 96 59) 0 62 96 = μ 96 := mCp_ne (by decide)
    have e2 : m2 (mCp μ 138 133 (62 * μ 96 59) 0 62) 96 59 (pv20 (μ 96 59)) 96 58 = μ 96 58 := by rw [m2_at, if_neg (by decide), e1]
    have e3 : w32 (μ 96 58 - 1) = μ 96 58 - 1 := w32_id (by omega) (by omega)
    exact ⟨1, by rw [tX10_undo_11, mBr_neg (by decide), e1, iRem_pv h0 h1, e2, e3]⟩
  | succ k ih =>
    intro i hi hk
    have e1 : mCp μ 138 133 (62 * μ 96 59) 0 i 96 = μ 96 := mCp_ne (by decide)
    have e2 : mCp μ 138 133 (62 * μ 96 59) 0 i 138 = μ 138 := mCp_ne (by decide)
    have e3 : w32 (62 * μ 96 59) = 62 * μ 96 59 := w32_id (by omega) (by omega)
    have e4 : w32 (62 * μ 96 59 + i) = 62 * μ 96 59 + i := w32_id (by omega) (by omega)
    have e5 : w32 (i + 1) = i + 1 := w32_id (by omega) (by omega)
    have e6 := mCp_step (μ := μ) (s := 138) (d := 133) (sp := 62 * μ 96 59) (dp := 0) (n := i) hi
    rw [Int.zero_add] at e6
    obtain ⟨f, hf⟩ := ih (i + 1) (by omega) (by omega)
    refine ⟨f + 1, ?_⟩
    rw [tX10_undo_11, mBr_pos (by omega), e1, e3, e4, if_pos (by omega), if_pos (by omega), e2, e5, e6]; exact hf
theorem sX10_undo (b : Bool) (μ : Nat → Int → Int) (h0 : 0 ≤ μ 96 59) (h1 : μ 96 59 < 20) (h2 : 0 ≤ μ 96 58) (h3 : μ 96 58 ≤ 20) : ∀ d, 1 ≤ d → mCallN d 129 [mP 96] (SH, μ, RHO b) = some (if μ 96 58 = 0 then (0, SH, μ, RHO b) else (1, SH, m2 (m2 (mCp μ 138 133 (62 * μ 96 59) 0 62) 96 59 (pv20 (μ 96 59))) 96 58 (μ 96 58 - 1), RHO b)) := deep fun d _ => by
  refine call_X10_undo d b μ ?_
  by_cases e : μ 96 58 = 0
  · exact ⟨1, by rw [tX10_undo_0, mBr_pos e, if_pos e]⟩
  · obtain ⟨f, hf⟩ := eX10_undo (Φ := mCallN d) (b := b) (μ := μ) h0 h1 (by omega) h3 62 0 (by decide) (by decide)
    rw [mCp_0] at hf
    exact ⟨f + 1, by rw [tX10_undo_0, mBr_neg e, if_neg e]; exact hf⟩
