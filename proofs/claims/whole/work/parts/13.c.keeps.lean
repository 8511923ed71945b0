theorem m2_self {μ : Nat → Int → Int} {a : Nat} {i v : Int} (h : μ a i = v) : m2 μ a i v = μ := by
  funext a' i'
  unfold m2
  by_cases e : a' = a ∧ i' = i
  · rw [if_pos e, e.1, e.2, h]
  · rw [if_neg e]
theorem mCp_0 {μ : Nat → Int → Int} {s d : Nat} {sp dp : Int} : mCp μ s d sp dp 0 = μ := by
  funext a i
  unfold mCp m1 mCpy
  by_cases e : a = d
  · rw [if_pos e, if_neg (by omega), e]
  · rw [if_neg e]
theorem mCp_ne {μ : Nat → Int → Int} {s d a : Nat} {sp dp n : Int} (h : a ≠ d) : mCp μ s d sp dp n a = μ a := m1_ne h
theorem mCp_at {μ : Nat → Int → Int} {s d : Nat} {sp dp n i : Int} : mCp μ s d sp dp n d i = if dp ≤ i ∧ i < dp + n then μ s (sp + (i - dp)) else μ d i := by
  unfold mCp; rw [m1_at]; rfl
theorem mCp_step {μ : Nat → Int → Int} {s d : Nat} {sp dp n : Int} (hn : 0 ≤ n) : m2 (mCp μ s d sp dp n) d (dp + n) (μ s (sp + n)) = mCp μ s d sp dp (n + 1) := by
  funext a i
  by_cases e : a = d
  · subst e
    rw [m2_at, mCp_at, mCp_at]
    by_cases e2 : i = dp + n
    · rw [if_pos e2, if_pos (by omega), e2]; congr 1; omega
    · rw [if_neg e2]
      by_cases e3 : dp ≤ i ∧ i < dp + n
      · rw [if_pos e3, if_pos (by omega)]
      · rw [if_neg e3, if_neg (by omega)]
  · rw [m2_ne e, mCp_ne e, mCp_ne e]
theorem eX10_keeps {Φ : mOrc} {b : Bool} {μ : Nat → Int → Int} {w : Int} (hw : μ 96 59 = w) (hw0 : 0 ≤ w) (hw1 : w < 20) (h2 : 0 ≤ μ 96 58) (h3 : μ 96 58 ≤ 20) : ∀ (k : Nat) (i : Int), 0 ≤ i → i + k = 62 → mEv Φ kX10_keeps 15 [some (mP 96), some (mI i)] [] (SH, mCp μ 133 138 0 (62 * w) i, RHO b) (0, SH, m2 (mCp μ 133 138 0 (62 * w) 62) 96 58 (if μ 96 58 < 20 then μ 96 58 + 1 else 20), RHO b) := by
  intro k
  induction k with
  | zero =>
    intro i h0 hk
    have hi : i = 62 := by omega
    subst hi
    have e1 : mCp μ 133 138 0 (62 * w) 62 96 = μ 96 := mCp_ne (by decide)
    refine ⟨2, ?_⟩
    by_cases e : μ 96 58 < 20
    · rw [tX10_keeps_15, mBr_neg (by decide), e1, mBr_pos e, tX10_keeps_66, if_pos e, w32_id (by omega) (by omega)]
    · rw [tX10_keeps_15, mBr_neg (by decide), e1, mBr_neg e, tX10_keeps_66, if_neg e, m2_self (by rw [e1]; omega)]
  | succ k ih =>
    intro i h0 hk
    have e1 : mCp μ 133 138 0 (62 * w) i 96 = μ 96 := mCp_ne (by decide)
    have e2 : mCp μ 133 138 0 (62 * w) i 133 = μ 133 := mCp_ne (by decide)
    have e3 : w32 (62 * w) = 62 * w := w32_id (by omega) (by omega)
    have e4 : w32 (62 * w + i) = 62 * w + i := w32_id (by omega) (by omega)
    have e5 : w32 (i + 1) = i + 1 := w32_id (by omega) (by omega)
    have e6 := mCp_step (μ := μ) (s := 133) (d := 138) (sp := 0) (dp := 62 * w) (n := i) h0
    rw [Int.zero_add] at e6
    obtain ⟨f, hf⟩ := ih (i + 1) (by omega) (by omega)
    refine ⟨f + 1, ?_⟩
    rw [tX10_keeps_15, mBr_pos (by omega), if_pos (by omega), e1, hw, e3, e4, if_pos (by omega), e2, e5, e6]; exact hf
theorem sX10_keeps (b : Bool) (μ : Nat → Int → Int) (h0 : 0 ≤ μ 96 59) (h1 : μ 96 59 < 20) (h2 : 0 ≤ μ 96 58) (h3 : μ 96 58 ≤ 20) : ∀ d, 1 ≤ d → mCallN d 77 [mP 96] (SH, μ, RHO b) = some (0, SH, m2 (mCp (m2 μ 96 59 (nx20 (μ 96 59))) 133 138 0 (62 * nx20 (μ 96 59)) 62) 96 58 (if μ 96 58 < 20 then μ 96 58 + 1 else 20), RHO b) := deep fun d hd => by
  refine call_X10_keeps d b μ ?_
  have hx : 0 ≤ nx20 (μ 96 59) ∧ nx20 (μ 96 59) < 20 := by unfold nx20; split <;> omega
  have e58 : m2 μ 96 59 (nx20 (μ 96 59)) 96 58 = μ 96 58 := by rw [m2_at, if_neg (by decide)]
  obtain ⟨f, hf⟩ := eX10_keeps (Φ := mCallN d) (b := b) (μ := m2 μ 96 59 (nx20 (μ 96 59))) (w := nx20 (μ 96 59)) (by rw [m2_at, if_pos rfl]) hx.1 hx.2 (by omega) (by omega) 62 0 (by decide) (by decide)
  rw [mCp_0, e58] at hf
  exact ⟨f + 1, by rw [tX10_keeps_0, iRem_nx h0 h1]; exact hf⟩
