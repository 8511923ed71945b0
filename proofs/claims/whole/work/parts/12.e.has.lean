/-! ===== has ===== -/
theorem eX9_faintedMen {d : Nat} (hd : 1 ≤ d) {b : Bool} {μ : Nat → Int → Int} (hn : μ (tw b + 1) 1 ≤ 12) : ∀ (k : Nat) (i acc : Int), 0 ≤ i → i + k = μ (tw b + 1) 1 → mEv (mCallN d) kX9_faintedMen 4 [some (mP 0), some (mI acc), some (mI i)] [] (SH, μ, RHO b) (wSum (fun m => t01 (μ (tw b + 7) m ≤ μ 74 (14 + m))) k i acc, SH, μ, RHO b) := by
  intro k
  induction k with
  | zero => intro i acc h0 hk; exact ⟨1, by rw [tX9_faintedMen_4, mBr_neg (by omega)]; rfl⟩
  | succ k ih =>
    intro i acc h0 hk
    have e2 : w32 (i + 1) = i + 1 := w32_id (by omega) (by omega)
    have hA := sX7_hasFainted b 74 i b μ rfl h0 (by omega) d hd
    rw [wSum]
    by_cases e : μ (tw b + 7) i ≤ μ 74 (14 + i)
    · rw [t01_pos e] at hA ⊢
      obtain ⟨f, hf⟩ := ih (i + 1) (w32 (acc + 1)) (by omega) (by omega)
      refine ⟨f + 2, ?_⟩
      rw [tX9_faintedMen_4, mBr_pos (by omega), hA, mOptR_some, mBr_neg (by show ¬ ((1 : Int) = 0); decide), tX9_faintedMen_38, e2]; exact hf
    · rw [t01_neg e] at hA ⊢
      obtain ⟨f, hf⟩ := ih (i + 1) (w32 (acc + 0)) (by omega) (by omega)
      refine ⟨f + 2, ?_⟩
      rw [tX9_faintedMen_4, mBr_pos (by omega), hA, mOptR_some, mBr_pos (by show ((0 : Int) = 0); rfl), tX9_faintedMen_38, e2]; exact hf
theorem sX9_faintedMen (b : Bool) (μ : Nat → Int → Int) (h0 : 0 ≤ μ (tw b + 1) 1) (hn : μ (tw b + 1) 1 ≤ 12) : ∀ d, 2 ≤ d → mCallN d 217 [mP 0] (SH, μ, RHO b) = some (wSum (fun m => t01 (μ (tw b + 7) m ≤ μ 74 (14 + m))) (μ (tw b + 1) 1).toNat 0 0, SH, μ, RHO b) := deep fun d hd => by
  refine call_X9_faintedMen d b μ ?_
  obtain ⟨f, hf⟩ := eX9_faintedMen hd (b := b) (μ := μ) hn (μ (tw b + 1) 1).toNat 0 0 (by omega) (by omega)
  exact ⟨f + 1, by rw [tX9_faintedMen_0]; exact hf⟩
/-- the bits of a set, taken one by one -/
def kBits : Nat → Int → Int → Int
  | 0, _, n => n
  | f + 1, s, n => if s = 0 then n else kBits f (iAnd s (w32 (s - 1))) (w32 (n + 1))
def kDone : Nat → Int → Bool
  | 0, s => decide (s = 0)
  | f + 1, s => if s = 0 then true else kDone f (iAnd s (w32 (s - 1)))
theorem eX10_bits {Φ : mOrc} {b : Bool} {μ : Nat → Int → Int} {z : Int} : ∀ (k : Nat) (s n : Int), kDone k s = true → mEv Φ kX10_bits 4 [some (mI z), some (mI n), some (mI s)] [] (SH, μ, RHO b) (kBits k s n, SH, μ, RHO b) := by
  intro k
  induction k with
  | zero => intro s n h; exact ⟨1, by rw [tX10_bits_4, mBr_pos (by simpa [kDone] using h)]; rfl⟩
  | succ k ih =>
    intro s n h
    by_cases e : s = 0
    · exact ⟨1, by rw [tX10_bits_4, mBr_pos e, kBits, if_pos e]⟩
    · rw [kDone, if_neg e] at h
      obtain ⟨f, hf⟩ := ih _ (w32 (n + 1)) h
      exact ⟨f + 1, by rw [tX10_bits_4, mBr_neg e, kBits, if_neg e]; exact hf⟩
