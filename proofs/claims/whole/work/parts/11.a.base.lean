/-! ===== contracts, the leaves: a call's answer at every depth from a number on ===== -/
theorem mBr_pos {c : Prop} [Decidable c] {a b : mRes} (h : c) : mBr c a b = a := if_pos h
theorem mBr_neg {c : Prop} [Decidable c] {a b : mRes} (h : ¬ c) : mBr c a b = b := if_neg h
theorem mOptR_some {x : Int × mMem} {g : Int × mMem → mRes} : mOptR (some x) g = g x := rfl
/-- a truth as the machine's number -/
def t01 (c : Prop) [Decidable c] : Int := if c then 1 else 0
theorem t01_01 (c : Prop) [Decidable c] : t01 c = 0 ∨ t01 c = 1 := by unfold t01; split <;> simp
theorem t01_eq0 {c : Prop} [Decidable c] : t01 c = 0 ↔ ¬ c := by unfold t01; split <;> simp_all
theorem t01_eq1 {c : Prop} [Decidable c] : t01 c = 1 ↔ c := by unfold t01; split <;> simp_all
theorem t01_pos {c : Prop} [Decidable c] (h : c) : t01 c = 1 := if_pos h
theorem t01_neg {c : Prop} [Decidable c] (h : ¬ c) : t01 c = 0 := if_neg h
theorem t01_congr {c e : Prop} [Decidable c] [Decidable e] (h : c ↔ e) : t01 c = t01 e := by unfold t01; simp only [h]
/-- depth: what holds at each successor from k on holds from k + 1 on -/
theorem deep {P : Nat → Prop} {k : Nat} (h : ∀ d, k ≤ d → P (d + 1)) : ∀ d, k + 1 ≤ d → P d
  | 0, hd => absurd hd (by omega)
  | d + 1, hd => h d (by omega)
theorem sX9_within (p0 p1 : Int) (b : Bool) (μ : Nat → Int → Int) : ∀ d, 1 ≤ d → mCallN d 259 [mI p0, mI p1] (SH, μ, RHO b) = some (t01 (0 ≤ p0 ∧ p0 < p1), SH, μ, RHO b) := deep fun d _ => by
  refine call_X9_within d b μ p0 p1 ⟨5, ?_⟩
  by_cases h1 : p0 < 0
  · rw [t01_neg (by omega)]; simp only [tX9_within_0, tX9_within_13, tX9_within_14, mBr, if_pos h1]; rfl
  · by_cases h2 : p0 < p1
    · rw [t01_pos (by omega)]; simp only [tX9_within_0, tX9_within_13, tX9_within_14, mBr, if_neg h1, if_pos h2]; rfl
    · rw [t01_neg (by omega)]; simp only [tX9_within_0, tX9_within_13, tX9_within_14, mBr, if_neg h1, if_neg h2]; rfl
theorem sX9_isGate (p0 : Int) (b : Bool) (μ : Nat → Int → Int) : ∀ d, 2 ≤ d → mCallN d 234 [mP 0, mI p0] (SH, μ, RHO b) = some (t01 (0 ≤ p0 ∧ p0 < μ (tw b + 1) 2), SH, μ, RHO b) := deep fun d hd => by
  refine call_X9_isGate d b μ p0 ⟨5, ?_⟩
  simp only [tX9_isGate_0, sX9_within _ _ _ _ d hd, mOptR_some, if_pos (t01_01 _)]
theorem sX9_isMan (p0 : Int) (b : Bool) (μ : Nat → Int → Int) : ∀ d, 2 ≤ d → mCallN d 235 [mP 0, mI p0] (SH, μ, RHO b) = some (t01 (0 ≤ p0 ∧ p0 < μ (tw b + 1) 1), SH, μ, RHO b) := deep fun d hd => by
  refine call_X9_isMan d b μ p0 ⟨5, ?_⟩
  simp only [tX9_isMan_0, sX9_within _ _ _ _ d hd, mOptR_some, if_pos (t01_01 _)]
theorem sX9_isPerson (p0 : Int) (b : Bool) (μ : Nat → Int → Int) : ∀ d, 2 ≤ d → mCallN d 236 [mP 0, mI p0] (SH, μ, RHO b) = some (t01 (0 ≤ p0 ∧ p0 < μ (tw b + 1) 3), SH, μ, RHO b) := deep fun d hd => by
  refine call_X9_isPerson d b μ p0 ⟨5, ?_⟩
  simp only [tX9_isPerson_0, sX9_within _ _ _ _ d hd, mOptR_some, if_pos (t01_01 _)]
