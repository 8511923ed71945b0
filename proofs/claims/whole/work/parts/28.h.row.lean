/-! ===== town: the class's row ===== -/
def RHOs (b : Bool) : Nat → Int → Option Nat := m2 (m2 (RHO b) 0 12 (some (tw (!b)))) 1 1 (some (tw b))
theorem RHOs_at (b : Bool) : RHOs b 0 0 = some 1 ∧ RHOs b 0 12 = some (tw (!b)) ∧ RHOs b 0 7 = some 74 ∧ RHOs b 0 5 = some 50 ∧ RHOs b 0 4 = some 30 := by cases b <;> exact ⟨rfl, rfl, rfl, rfl, rfl⟩
set_option maxRecDepth 100000 in
theorem tX9_town_0 (Φ : mOrc) (n : Nat) (b : Bool) (μ : Nat → Int → Int) : mRun Φ kX9_town (n + 1) 0 [some (mP 0), none, none] [] (SH, μ, RHO b) = (mOptR (Φ 165 [mP 1] (SH, μ, RHO b)) (fun x1 => mBr ((x1.1 : Int) = 0) (some ((-1), SH, (m2 x1.2.2.1 2 1 0), RHO b)) (mOptR (Φ 196 [mP (tw (!b)), mP 74] (SH, (m2 x1.2.2.1 2 1 0), RHOs b)) (fun x2 => (mOptR (Φ 9 [mP 50] (SH, (m2 x2.2.2.1 0 10 0), RHOs b)) (fun x3 => (mOptR (Φ 186 [mP 30] (SH, x3.2.2.1, RHOs b)) (fun x4 => some (x4.2.2.1 (tw (!b)) 0, SH, x4.2.2.1, RHOs b))))))))) := by cases b <;> rfl
