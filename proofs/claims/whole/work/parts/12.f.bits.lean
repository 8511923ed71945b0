def bc1 (x : Int) : Int := w32 (x - iAnd (iUshr x 1) 1431655765)
def bc2 (x : Int) : Int := w32 (iAnd x 858993459 + iAnd (iUshr x 2) 858993459)
def bc3 (x : Int) : Int := iAnd (w32 (x + iUshr x 4)) 252645135
def bc4 (x : Int) : Int := w32 (x + iUshr x 8)
def bc5 (x : Int) : Int := w32 (x + iUshr x 16)
def bcAll (x : Int) : Int := iAnd (bc5 (bc4 (bc3 (bc2 (bc1 x))))) 63
theorem sJ6_bitCount (x : Int) (b : Bool) (μ : Nat → Int → Int) : ∀ d, 1 ≤ d → mCallN d 0 [mI x] (SH, μ, RHO b) = some (bcAll x, SH, μ, RHO b) := deep fun d _ => call_J6_bitCount_0f7a4 d b μ x ⟨1, tJ6_bitCount_0f7a4_0 _ _ _ _ _⟩
def bcOk (n : Nat) : Bool := decide (bcAll (n : Int) = kBits 12 (n : Int) 0) && kDone 12 (n : Int)
theorem bcOk_a : (List.range 4096).all bcOk = true := by decide +kernel
theorem bcOk_of {x : Int} (h0 : 0 ≤ x) (h1 : x < 4096) : bcAll x = kBits 12 x 0 ∧ kDone 12 x = true := by
  have h := List.all_eq_true.mp bcOk_a x.toNat (List.mem_range.mpr (by omega))
  unfold bcOk at h
  rw [show ((x.toNat : Nat) : Int) = x by omega, Bool.and_eq_true, decide_eq_true_eq] at h
  exact h
theorem sX10_bits (x : Int) (b : Bool) (μ : Nat → Int → Int) (h0 : 0 ≤ x) (h1 : x < 4096) : ∀ d, 1 ≤ d → mCallN d 17 [mI x] (SH, μ, RHO b) = some (bcAll x, SH, μ, RHO b) := deep fun d _ => by
  refine call_X10_bits d b μ x ?_
  obtain ⟨e1, e2⟩ := bcOk_of h0 h1
  obtain ⟨f, hf⟩ := eX10_bits (Φ := mCallN d) (b := b) (μ := μ) (z := x) 12 x 0 e2
  exact ⟨f + 1, by rw [tX10_bits_0, e1]; exact hf⟩
