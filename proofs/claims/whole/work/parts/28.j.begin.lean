/-! ===== town: the row at the beginning, in the class ===== -/
def bA1 (b : Bool) (μ : Nat → Int → Int) : Nat → Int → Int := m2 (mFl μ 74 62 0) 74 1 (mFl μ 74 62 0 (tw b) 1)
def bA2 (b : Bool) (μ : Nat → Int → Int) : Nat → Int → Int := mCp (bA1 b μ) (tw b + 10) 74 0 2 (bA1 b μ (tw b + 1) 2)
def bA3 (b : Bool) (μ : Nat → Int → Int) : Nat → Int → Int := mCp (bA2 b μ) (tw b + 11) 74 0 38 (bA2 b μ (tw b + 1) 3)
def bA4 (b : Bool) (μ : Nat → Int → Int) : Nat → Int → Int := mCp (bA3 b μ) (tw b + 12) 74 0 44 (bA3 b μ (tw b + 1) 3)
def bA5 (b : Bool) (μ : Nat → Int → Int) : Nat → Int → Int := mCp (bA4 b μ) (tw b + 13) 74 0 50 (bA4 b μ (tw b + 1) 3)
theorem mCp_o {α : Nat → Int → Int} {s c : Nat} {sp dp n : Int} {a : Nat} (ha : a ≠ c) : mCp α s c sp dp n a = α a := by
  funext j
  show (if a = c then _ else _) = _
  rw [if_neg ha]
theorem mCp_c {α : Nat → Int → Int} {s c : Nat} {sp dp n j : Int} : mCp α s c sp dp n c j = if dp ≤ j ∧ j < dp + n then α s (sp + (j - dp)) else α c j := by
  show (if c = c then _ else _) = _
  rw [if_pos rfl]; rfl
theorem bA1_o {b : Bool} {μ : Nat → Int → Int} {a : Nat} (ha : a ≠ 74) : bA1 b μ a = μ a := by
  unfold bA1
  rw [m2_ne ha]
  funext j; unfold mFl; rw [if_neg (fun q => ha q.1)]
theorem bA2_o {b : Bool} {μ : Nat → Int → Int} {a : Nat} (ha : a ≠ 74) : bA2 b μ a = μ a := by unfold bA2; rw [mCp_o ha, bA1_o ha]
theorem bA3_o {b : Bool} {μ : Nat → Int → Int} {a : Nat} (ha : a ≠ 74) : bA3 b μ a = μ a := by unfold bA3; rw [mCp_o ha, bA2_o ha]
theorem bA4_o {b : Bool} {μ : Nat → Int → Int} {a : Nat} (ha : a ≠ 74) : bA4 b μ a = μ a := by unfold bA4; rw [mCp_o ha, bA3_o ha]
theorem bA5_o {b : Bool} {μ : Nat → Int → Int} {a : Nat} (ha : a ≠ 74) : bA5 b μ a = μ a := by unfold bA5; rw [mCp_o ha, bA4_o ha]
def begF (b : Bool) (μ : Nat → Int → Int) : Int → Int := fun j => if 50 ≤ j ∧ j < 50 + μ (tw b + 1) 3 then μ (tw b + 13) (j - 50) else if 44 ≤ j ∧ j < 44 + μ (tw b + 1) 3 then μ (tw b + 12) (j - 44) else if 38 ≤ j ∧ j < 38 + μ (tw b + 1) 3 then μ (tw b + 11) (j - 38) else if 2 ≤ j ∧ j < 2 + μ (tw b + 1) 2 then μ (tw b + 10) (j - 2) else if j = 1 then μ (tw b) 1 else if 0 ≤ j ∧ j < 62 then 0 else μ 74 j
theorem bA5_74 {b : Bool} {μ : Nat → Int → Int} : bA5 b μ 74 = begF b μ := by
  have t1 := tw_or b
  funext j
  unfold bA5
  rw [mCp_c, bA4_o (by omega), bA4_o (by omega)]
  unfold bA4
  rw [mCp_c, bA3_o (by omega), bA3_o (by omega)]
  unfold bA3
  rw [mCp_c, bA2_o (by omega), bA2_o (by omega)]
  unfold bA2
  rw [mCp_c, bA1_o (by omega), bA1_o (by omega)]
  unfold bA1 begF
  rw [m2_at, Int.zero_add, Int.zero_add, Int.zero_add, Int.zero_add]
  have e1 : mFl μ 74 62 0 (tw b) 1 = μ (tw b) 1 := by unfold mFl; rw [if_neg (fun q => by have := q.1; omega)]
  have e2 : mFl μ 74 62 0 74 j = if 0 ≤ j ∧ j < 62 then 0 else μ 74 j := by
    unfold mFl
    by_cases q : 0 ≤ j ∧ j < 62
    · rw [if_pos q, if_pos ⟨rfl, q.1, q.2⟩]
    · rw [if_neg q, if_neg (fun w => q ⟨w.2.1, w.2.2⟩)]
  rw [e1, e2]
theorem sX7_begin (b : Bool) (μ : Nat → Int → Int) (g0 : 0 ≤ μ (tw b + 1) 2) (g1 : μ (tw b + 1) 2 ≤ 12) (p0 : 0 ≤ μ (tw b + 1) 3) (p1 : μ (tw b + 1) 3 ≤ 6) : ∀ d, 2 ≤ d → mCallN d 196 [mP (tw b), mP 74] (SH, μ, RHO b) = some (0, SH, bA5 b μ, RHO b) := deep fun d hd => by
  have t1 := tw_or b
  have e74 : shp 74 = (0, 62) := by decide
  have s10 : shp (tw b + 10) = (0, 12) := by cases b <;> rfl
  have s11 : shp (tw b + 11) = (0, 6) := by cases b <;> rfl
  have s12 : shp (tw b + 12) = (0, 6) := by cases b <;> rfl
  have s13 : shp (tw b + 13) = (0, 6) := by cases b <;> rfl
  have both : ∀ {x y : Bool}, x = true → y = true → (x && y) = true := fun {x y} hx hy => by rw [hx, hy]; rfl
  have k1 : bA1 b μ (tw b + 1) 2 = μ (tw b + 1) 2 := by rw [bA1_o (by omega)]
  have k2 : bA2 b μ (tw b + 1) 3 = μ (tw b + 1) 3 := by rw [bA2_o (by omega)]
  have k3 : bA3 b μ (tw b + 1) 3 = μ (tw b + 1) 3 := by rw [bA3_o (by omega)]
  have k4 : bA4 b μ (tw b + 1) 3 = μ (tw b + 1) 3 := by rw [bA4_o (by omega)]
  have c1 : 0 ≤ bA1 b μ (tw b + 1) 2 ∧ 0 + bA1 b μ (tw b + 1) 2 ≤ ((12 : Nat) : Int) ∧ 2 + bA1 b μ (tw b + 1) 2 ≤ ((62 : Nat) : Int) := by rw [k1]; omega
  have c2 : 0 ≤ bA2 b μ (tw b + 1) 3 ∧ 0 + bA2 b μ (tw b + 1) 3 ≤ ((6 : Nat) : Int) ∧ 38 + bA2 b μ (tw b + 1) 3 ≤ ((62 : Nat) : Int) := by rw [k2]; omega
  have c3 : 0 ≤ bA3 b μ (tw b + 1) 3 ∧ 0 + bA3 b μ (tw b + 1) 3 ≤ ((6 : Nat) : Int) ∧ 44 + bA3 b μ (tw b + 1) 3 ≤ ((62 : Nat) : Int) := by rw [k3]; omega
  have c4 : 0 ≤ bA4 b μ (tw b + 1) 3 ∧ 0 + bA4 b μ (tw b + 1) 3 ≤ ((6 : Nat) : Int) ∧ 50 + bA4 b μ (tw b + 1) 3 ≤ ((62 : Nat) : Int) := by rw [k4]; omega
  refine cal_eq (cal_ev (fun r => call_X7_begin d b μ 74 b) (ev_row (fun m => tX7_begin_0 _ m b μ 74 b) (ev_call (sJ7_fill 74 62 0 b μ e74 (by decide) d (by omega)) ?_)))
  exact ev_bif (arr_of e74) (ev_if ⟨by decide, (by decide : (1 : Int) < ((62 : Nat) : Int))⟩ (ev_bif (both (arr_of s10) (arr_of e74)) (ev_if ⟨c1.1, by decide, by decide, c1.2.1, c1.2.2⟩ (ev_bif (both (arr_of s11) (arr_of e74)) (ev_if ⟨c2.1, by decide, by decide, c2.2.1, c2.2.2⟩ (ev_bif (both (arr_of s12) (arr_of e74)) (ev_if ⟨c3.1, by decide, by decide, c3.2.1, c3.2.2⟩ (ev_bif (both (arr_of s13) (arr_of e74)) (ev_if ⟨c4.1, by decide, by decide, c4.2.1, c4.2.2⟩ (ev_ret ⟨rfl, rfl⟩))))))))))
