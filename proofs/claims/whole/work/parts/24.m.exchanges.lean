theorem ratF_same {b : Bool} {μ μ' : Nat → Int → Int} (h : ∀ a, a ∈ twL b → μ' a = μ a) (f : Int → Int) (k : Nat) : ratF b μ' f k = ratF b μ f k := by
  unfold ratF
  rw [prc_same h, h 134 (by simp [twL]), h (tw b + 8) (by simp [twL]), h (tw b + 9) (by simp [twL]), h (tw b + 1) (by simp [twL])]
theorem chg_at {μ : Nat → Int → Int} {men : Int → Int} {G i j : Int} (hm : ∀ g, 0 ≤ g → g < G → μ 133 (2 + g) = men g) (i0 : 0 ≤ i) (i1 : i < G) (j0 : 0 ≤ j) (j1 : j < G) : ∀ g, 0 ≤ g → g < G → (m2 (m2 μ 133 (2 + i) (μ 133 (2 + j))) 133 (2 + j) (μ 133 (2 + i))) 133 (2 + g) = exch men i j g := fun g g0 g1 => by
  rw [m2_at, m2_at, exch_at, hm i i0 i1, hm j j0 j1, hm g g0 g1]
  by_cases c1 : g = j
  · rw [if_pos c1, if_pos (by omega)]
  · rw [if_neg c1, if_neg (by omega)]
    by_cases c2 : g = i
    · rw [if_pos c2, if_pos (by omega)]
    · rw [if_neg c2, if_neg (by omega)]
/-- a trial of the reference: exchange and weigh -/
theorem eX10_trial {d : Nat} (hd : 7 ≤ d) {b : Bool} {μ : Nat → Int → Int} (hR : R b μ) {men : Int → Int} {μ' : Nat → Int → Int} {r : (Int × Int) × (Int × Int)} (hB : By b μ μ' men r) (hin : ∀ g, 0 ≤ g → g < μ (tw b + 1) 2 → 0 ≤ men g ∧ men g < μ (tw b + 1) 1) {i j : Int} (i0 : 0 ≤ i) (i1 : i < μ (tw b + 1) 2) (j0 : 0 ≤ j) (j1 : j < μ (tw b + 1) 2) : Cal d 132 [mP 96] b (m2 (m2 μ' 133 (2 + i) (μ' 133 (2 + j))) 133 (2 + j) (μ' 133 (2 + i))) (fun _ μ2 => Fg wgL wgJ (m2 (m2 μ' 133 (2 + i) (μ' 133 (2 + j))) 133 (2 + j) (μ' 133 (2 + i))) μ2 ∧ μ2 96 61 = (rtM b μ (exch men i j)).1 ∧ μ2 96 62 = (rtM b μ (exch men i j)).2) := by
  have hC := Rcnt_C hR.1.1
  obtain ⟨hf, h3, s1, s2, hmen, h9, hr⟩ := hB
  have hfx : Fg ecL ecJ μ (m2 (m2 μ' 133 (2 + i) (μ' 133 (2 + j))) 133 (2 + j) (μ' 133 (2 + i))) := fg_m2 (fg_m2 hf (by decide) (by decide)) (by decide) (by decide)
  have ht := ec_tw (b := b) hfx
  have hx := chg_at (μ := μ') hmen i0 i1 j0 j1
  have hO := RefOK_men hR ht (fun x q => by rw [m2_at, if_neg (by omega), m2_at, if_neg (by omega)]; exact h3 x (by omega)) (fun g g0 g1 => by rw [hx g g0 g1]; exact exch_in hin i0 i1 j0 j1 g g0 g1)
  have hW := sX10_weighs _ b _ hO d hd
  rw [ratF_same ht, ht (tw b + 1) (by simp [twL]), ratF_rtM (men := exch men i j) hR (fun x q => rowM_out q) (fun g g0 g1 => ⟨by rw [rowM_in g0 (by omega)]; exact hx g g0 g1, (exch_in hin i0 i1 j0 j1 g g0 g1).1⟩)] at hW
  exact hW
