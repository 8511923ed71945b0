/-! ===== town: told and draft change places ===== -/
theorem cnd_f {α : Type} (x y : α) : (bif false then x else y) = y := rfl
theorem RHO_o (b : Bool) {a : Nat} (h0 : a ≠ 0) (h1 : a ≠ 1) (i : Int) : RHO b a i = RHO (!b) a i := by
  have e0 : Nat.beq a 0 = false := by
    cases h : Nat.beq a 0
    · rfl
    · exact absurd (Nat.eq_of_beq_eq_true h) h0
  have e1 : Nat.beq a 1 = false := by
    cases h : Nat.beq a 1
    · rfl
    · exact absurd (Nat.eq_of_beq_eq_true h) h1
  unfold RHO
  dsimp only
  rw [e0, e1, cnd_f, cnd_f, cnd_f, cnd_f]
theorem rhL_ne {l l' : List (Option Nat)} {i : Int} {k : Nat} (hi : i ≠ (k : Int)) (h : ∀ j, j ≠ k → l.getD j none = l'.getD j none) : rhL l i = rhL l' i := by
  cases i with
  | ofNat j => exact h j (fun q => hi (by rw [q]; rfl))
  | negSucc j => rfl
theorem RHO_0 (b : Bool) {i : Int} (hi : i ≠ 12) : RHO b 0 i = RHO (!b) 0 i := by
  show rhL [some 1, some 2, some 23, some 26, some 30, some 50, some 72, some 74, some 75, some 76, none, none, some (tw b)] i = rhL [some 1, some 2, some 23, some 26, some 30, some 50, some 72, some 74, some 75, some 76, none, none, some (tw (!b))] i
  refine rhL_ne (k := 12) hi (fun j hj => ?_)
  match j, hj with
  | 0, _ | 1, _ | 2, _ | 3, _ | 4, _ | 5, _ | 6, _ | 7, _ | 8, _ | 9, _ | 10, _ | 11, _ => rfl
  | 12, h => exact absurd rfl h
  | k + 13, _ => rfl
theorem RHO_1 (b : Bool) {i : Int} (hi : i ≠ 1) : RHO b 1 i = RHO (!b) 1 i := by
  show rhL [some 2, some (tw (!b)), none, none, none, none, none, none, none] i = rhL [some 2, some (tw (!(!b))), none, none, none, none, none, none, none] i
  refine rhL_ne (k := 1) hi (fun j hj => ?_)
  match j, hj with
  | 0, _ => rfl
  | 1, h => exact absurd rfl h
  | k + 2, _ => rfl
theorem RHOs_eq (b : Bool) : RHOs b = RHO (!b) := by
  funext a i
  unfold RHOs
  by_cases h1 : a = 1
  · subst h1
    rw [m2_at]
    by_cases hi : i = 1
    · subst hi; rw [if_pos rfl]; cases b <;> rfl
    · rw [if_neg hi, m2_ne (by decide)]; exact RHO_1 b hi
  · rw [m2_ne h1]
    by_cases h0 : a = 0
    · subst h0
      rw [m2_at]
      by_cases hi : i = 12
      · subst hi; rw [if_pos rfl]; cases b <;> rfl
      · rw [if_neg hi]; exact RHO_0 b hi
    · rw [m2_ne h0]; exact RHO_o b h0 h1 i
