/-! ===== the best exchange, in the reference ===== -/
def ecL : List Nat := [131, 132, 133, 135, 136, 137, 139]
def ecJ : List Int := [50, 61, 62, 63, 64]
/-- the order that the best so far stands for -/
def ordB (men : Int → Int) (r : (Int × Int) × (Int × Int)) : Int → Int := if r.2.1 = -1 then men else exch men r.2.1 r.2.2
theorem ec_tw {b : Bool} {μ μ' : Nat → Int → Int} (h : Fg ecL ecJ μ μ') : ∀ a, a ∈ twL b → μ' a = μ a := fun a ha => h.1 a (fun hm => by
  unfold ecL at hm
  simp only [List.mem_cons, List.not_mem_nil, or_false] at hm
  have := twL_or ha
  have := tw_or b
  omega) (by have := twL_or ha; have := tw_or b; omega)
/-- the search so far, in the reference -/
def By (b : Bool) (μ μ' : Nat → Int → Int) (men : Int → Int) (r : (Int × Int) × (Int × Int)) : Prop := Fg ecL ecJ μ μ' ∧ (∀ x, (x < 2 ∨ 2 + μ (tw b + 1) 2 ≤ x) → μ' 133 x = μ 133 x) ∧ μ' 96 63 = r.1.1 ∧ μ' 96 64 = r.1.2 ∧ (∀ g, 0 ≤ g → g < μ (tw b + 1) 2 → μ' 133 (2 + g) = men g) ∧ (∀ g, 0 ≤ g → g < μ (tw b + 1) 2 → μ' 139 g = ordB men r g) ∧ (r.2.1 = -1 ∨ ((0 ≤ r.2.1 ∧ r.2.1 < μ (tw b + 1) 2) ∧ (0 ≤ r.2.2 ∧ r.2.2 < μ (tw b + 1) 2)))
theorem exch_in {men : Int → Int} {G M i j : Int} (hm : ∀ g, 0 ≤ g → g < G → 0 ≤ men g ∧ men g < M) (i0 : 0 ≤ i) (i1 : i < G) (j0 : 0 ≤ j) (j1 : j < G) : ∀ g, 0 ≤ g → g < G → 0 ≤ exch men i j g ∧ exch men i j g < M := fun g g0 g1 => by
  rw [exch_at]
  by_cases c1 : g = j
  · rw [if_pos c1]; exact hm i i0 i1
  · rw [if_neg c1]
    by_cases c2 : g = i
    · rw [if_pos c2]; exact hm j j0 j1
    · rw [if_neg c2]; exact hm g g0 g1
