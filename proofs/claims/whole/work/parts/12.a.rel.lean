/-! ===== what ties the class's cells to the reference's ===== -/
def Rcnt (b : Bool) (μ : Nat → Int → Int) : Prop :=
  (μ 120 4 = μ (tw b + 1) 0 ∧ 0 ≤ μ (tw b + 1) 0 ∧ μ (tw b + 1) 0 ≤ 10) ∧ (μ 120 5 = μ (tw b + 1) 1 ∧ 0 ≤ μ (tw b + 1) 1 ∧ μ (tw b + 1) 1 ≤ 12) ∧ (μ 120 7 = μ (tw b + 1) 2 ∧ 0 ≤ μ (tw b + 1) 2 ∧ μ (tw b + 1) 2 ≤ 12) ∧ (μ 120 6 = μ (tw b + 1) 3 ∧ 0 ≤ μ (tw b + 1) 3 ∧ μ (tw b + 1) 3 ≤ 6)
/-- a row of the things that change, here and there -/
def Rrow (f g : Int → Int) : Prop := (∀ i, 0 ≤ i → i < 38 → g i = f i) ∧ (∀ p, 0 ≤ p → p < 6 → g (38 + 4 * p + 0) = f (38 + p) ∧ g (38 + 4 * p + 1) = f (44 + p) ∧ g (38 + 4 * p + 2) = f (50 + p) ∧ g (38 + 4 * p + 3) = f (56 + p))
def Rgat (b : Bool) (μ : Nat → Int → Int) : Prop := ∀ g, 0 ≤ g → g < μ (tw b + 1) 2 → (μ 124 (36 + 3 * g) = μ (tw b + 8) g ∧ μ 124 (36 + 3 * g + 1) = μ (tw b + 9) g ∧ μ 124 (36 + 3 * g + 2) = μ (tw b + 10) g) ∧ (0 ≤ μ (tw b + 8) g ∧ μ (tw b + 8) g < μ (tw b + 1) 0) ∧ (0 ≤ μ (tw b + 9) g ∧ μ (tw b + 9) g < μ (tw b + 1) 0) ∧ μ (tw b + 8) g ≠ μ (tw b + 9) g ∧ (0 ≤ μ (tw b + 10) g ∧ μ (tw b + 10) g < μ (tw b + 1) 1)
def Rtir (b : Bool) (μ : Nat → Int → Int) : Prop := ∀ m, 0 ≤ m → m < μ (tw b + 1) 1 → μ 122 (12 + m) = μ (tw b + 7) m ∧ 1 ≤ μ (tw b + 7) m ∧ μ (tw b + 7) m ≤ 20
def Rtac (b : Bool) (μ : Nat → Int → Int) : Prop := ∀ p, 0 ≤ p → p < μ (tw b + 1) 3 → μ 134 p = μ (tw b + 14) p ∧ 0 ≤ μ (tw b + 14) p ∧ μ (tw b + 14) p ≤ 99
/-- two calls that answer alike and change nothing -/
def Alike (d : Nat) (b : Bool) (μ : Nat → Int → Int) (zc zm : Nat) (as : List mV) : Prop := ∃ v, mCallN d zc (mP 0 :: as) (SH, μ, RHO b) = some (v, SH, μ, RHO b) ∧ mCallN d zm (mP 96 :: as) (SH, μ, RHO b) = some (v, SH, μ, RHO b)
theorem deepA {b : Bool} {μ : Nat → Int → Int} {zc zm : Nat} {as : List mV} {k : Nat} (h : ∀ d, k ≤ d → Alike (d + 1) b μ zc zm as) : ∀ d, k + 1 ≤ d → Alike d b μ zc zm as := deep (P := fun d => Alike d b μ zc zm as) h
theorem q_fault (b : Bool) (μ : Nat → Int → Int) (p0 : Int) (h1 : μ 96 7 = μ 1 2) (h2 : μ 96 8 = μ 1 3) : ∀ d, 1 ≤ d → Alike d b μ 218 37 [mI p0] := deepA fun d _ => by
  by_cases e0 : p0 = 0
  · refine ⟨μ 1 2, call_X9_fault d b μ p0 ⟨5, ?_⟩, call_X10_fault d b μ p0 ⟨5, ?_⟩⟩
    · simp only [tX9_fault_0, mBr, if_pos e0]
    · simp only [tX10_fault_0, tX10_fault_24, mBr, if_pos e0, h1]
  · by_cases e1 : p0 = 1
    · refine ⟨μ 1 3, call_X9_fault d b μ p0 ⟨5, ?_⟩, call_X10_fault d b μ p0 ⟨5, ?_⟩⟩
      · simp only [tX9_fault_0, tX9_fault_28, mBr, if_neg e0, if_pos e1]
      · simp only [tX10_fault_0, tX10_fault_24, mBr, if_neg e0, if_pos e1, h2]
    · refine ⟨-1, call_X9_fault d b μ p0 ⟨5, ?_⟩, call_X10_fault d b μ p0 ⟨5, ?_⟩⟩
      · simp only [tX9_fault_0, tX9_fault_28, mBr, if_neg e0, if_neg e1]
      · simp only [tX10_fault_0, tX10_fault_24, mBr, if_neg e0, if_neg e1]
