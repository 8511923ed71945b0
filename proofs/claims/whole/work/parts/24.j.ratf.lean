/-! ===== both rates are one ===== -/
theorem prc_row {b : Bool} {μ : Nat → Int → Int} {f f' : Int → Int} (h : ∀ x, (x < 2 ∨ 14 ≤ x) → f' x = f x) {m p : Int} (m0 : 0 ≤ m) (p0 : 0 ≤ p) (t : Int) : prc b μ f' m p t = prc b μ f m p t := by
  unfold prc
  rw [h (14 + m) (by omega), h (56 + p) (by omega), h 0 (by omega), h 1 (by omega)]
theorem ratF_rtM {b : Bool} {μ : Nat → Int → Int} {f men : Int → Int} (hR : R b μ) (h : ∀ x, (x < 2 ∨ 14 ≤ x) → f x = μ 74 x) (hm : ∀ g, 0 ≤ g → g < μ (tw b + 1) 2 → f (2 + g) = men g ∧ 0 ≤ men g) : ratF b μ f (μ (tw b + 1) 3).toNat = rtM b μ men := by
  have hC := Rcnt_C hR.1.1
  have key : ∀ k : Nat, (k : Int) ≤ μ (tw b + 1) 3 → ratF b μ f k = ratN b μ men k := by
    intro k
    induction k with
    | zero => intro _; rfl
    | succ k ih =>
      intro hk
      have ht := hR.1.2.2.2.2.1 k (by omega) (by omega)
      have e : dstN b μ (fun g => prc b μ f (f (2 + g)) k (μ 134 k)) (μ 74 (38 + k)) (μ 74 (44 + k)) = dstN b μ (fun g => prA b μ (men g) k) (μ 74 (38 + k)) (μ 74 (44 + k)) := dstN_congr (fun g g0 g1 => by
        obtain ⟨q1, q2⟩ := hm g g0 g1
        show prc b μ f (f (2 + g)) k (μ 134 k) = prc b μ (μ 74) (men g) k (μ (tw b + 14) k)
        rw [q1, ht.1]
        exact prc_row h q2 (by omega) _) _ _
      rw [ratF_succ, ratN_succ, ih (by omega), h (38 + k) (by omega), h (44 + k) (by omega), h (50 + k) (by omega), e]
  exact key _ (by omega)
