/-! ===== town: the row at the beginning, both alike ===== -/
section
variable {t : Bool} {μ : Nat → Int → Int}
theorem bg_0 : begF t μ 0 = 0 := by
  unfold begF
  rw [if_neg (by omega), if_neg (by omega), if_neg (by omega), if_neg (by omega), if_neg (by decide), if_pos (by decide)]
theorem bg_1 : begF t μ 1 = μ (tw t) 1 := by
  unfold begF
  rw [if_neg (by omega), if_neg (by omega), if_neg (by omega), if_neg (by omega), if_pos rfl]
theorem bg_gate (hG : μ (tw t + 1) 2 ≤ 12) {g : Int} (g0 : 0 ≤ g) (g1 : g < 12) : begF t μ (2 + g) = if g < μ (tw t + 1) 2 then μ (tw t + 10) g else 0 := by
  unfold begF
  rw [if_neg (by omega), if_neg (by omega), if_neg (by omega)]
  by_cases q : g < μ (tw t + 1) 2
  · rw [if_pos (by omega), if_pos q, show 2 + g - 2 = g by omega]
  · rw [if_neg (by omega), if_neg (by omega), if_pos (by omega), if_neg q]
theorem bg_z (hG : μ (tw t + 1) 2 ≤ 12) {j : Int} (j0 : 14 ≤ j) (j1 : j < 38) : begF t μ j = 0 := by
  unfold begF
  rw [if_neg (by omega), if_neg (by omega), if_neg (by omega), if_neg (by omega), if_neg (by omega), if_pos (by omega)]
theorem bg_38 (hG : μ (tw t + 1) 2 ≤ 12) (hP : μ (tw t + 1) 3 ≤ 6) {p : Int} (p0 : 0 ≤ p) (p1 : p < 6) : begF t μ (38 + p) = if p < μ (tw t + 1) 3 then μ (tw t + 11) p else 0 := by
  unfold begF
  rw [if_neg (by omega), if_neg (by omega)]
  by_cases q : p < μ (tw t + 1) 3
  · rw [if_pos (by omega), if_pos q, show 38 + p - 38 = p by omega]
  · rw [if_neg (by omega), if_neg (by omega), if_neg (by omega), if_pos (by omega), if_neg q]
theorem bg_44 (hG : μ (tw t + 1) 2 ≤ 12) (hP : μ (tw t + 1) 3 ≤ 6) {p : Int} (p0 : 0 ≤ p) (p1 : p < 6) : begF t μ (44 + p) = if p < μ (tw t + 1) 3 then μ (tw t + 12) p else 0 := by
  unfold begF
  rw [if_neg (by omega)]
  by_cases q : p < μ (tw t + 1) 3
  · rw [if_pos (by omega), if_pos q, show 44 + p - 44 = p by omega]
  · rw [if_neg (by omega), if_neg (by omega), if_neg (by omega), if_neg (by omega), if_pos (by omega), if_neg q]
theorem bg_50 (hG : μ (tw t + 1) 2 ≤ 12) (hP : μ (tw t + 1) 3 ≤ 6) {p : Int} (p0 : 0 ≤ p) (p1 : p < 6) : begF t μ (50 + p) = if p < μ (tw t + 1) 3 then μ (tw t + 13) p else 0 := by
  unfold begF
  by_cases q : p < μ (tw t + 1) 3
  · rw [if_pos (by omega), if_pos q, show 50 + p - 50 = p by omega]
  · rw [if_neg (by omega), if_neg (by omega), if_neg (by omega), if_neg (by omega), if_neg (by omega), if_pos (by omega), if_neg q]
theorem bg_56 (hG : μ (tw t + 1) 2 ≤ 12) (hP : μ (tw t + 1) 3 ≤ 6) {p : Int} (p0 : 0 ≤ p) (p1 : p < 6) : begF t μ (56 + p) = 0 := by
  unfold begF
  rw [if_neg (by omega), if_neg (by omega), if_neg (by omega), if_neg (by omega), if_neg (by omega), if_pos (by omega)]
end
theorem sumN_ct {f tc : Int → Int} {P : Nat} : ∀ k : Nat, (∀ p : Nat, p < k → f (p : Int) = if (p : Int) < (P : Int) then tc (p : Int) else 0) → sumN f k = sumN tc (min k P)
  | 0, _ => by rw [Nat.zero_min]; rfl
  | k + 1, h => by
    rw [sumN, sumN_ct k (fun p hp => h p (by omega)), h k (by omega)]
    by_cases q : (k : Int) < (P : Int)
    · rw [if_pos q, show min (k + 1) P = k + 1 by omega, show min k P = k by omega]; rfl
    · rw [if_neg q, show min (k + 1) P = P by omega, show min k P = P by omega]; omega
theorem sumN_z {f : Int → Int} : ∀ k : Nat, (∀ p : Nat, p < k → f (p : Int) = 0) → sumN f k = 0
  | 0, _ => rfl
  | k + 1, h => by rw [sumN, sumN_z k (fun p hp => h p (by omega)), h k (by omega)]; rfl
/-- the beginning's row can be -/
theorem row_new {t : Bool} {μ ν' : Nat → Int → Int} (hT : Rtw t ν') (hk : ∀ k, k ≤ 18 → 1 ≤ k → ν' (tw t + k) = μ (tw t + k)) (hH : 0 ≤ μ (tw t) 1 ∧ μ (tw t) 1 ≤ 23) (hp : ∀ p, 0 ≤ p → p < μ (tw t + 1) 3 → (0 ≤ μ (tw t + 11) p ∧ μ (tw t + 11) p < μ (tw t + 1) 0) ∧ (0 ≤ μ (tw t + 12) p ∧ μ (tw t + 12) p < μ (tw t + 1) 0)) : rowR t ν' (begF t μ) := by
  obtain ⟨⟨⟨-, a0, a1⟩, ⟨-, b0, b1⟩, ⟨-, c0, c1⟩, ⟨-, d0, d1⟩⟩, hg, hi, -, -, hc, -⟩ := hT
  have t1 := hk 1 (by decide) (by decide)
  rw [t1] at a0 a1 b0 b1 c0 c1 d0 d1
  unfold rowR
  rw [t1, hk 10 (by decide) (by decide), hk 13 (by decide) (by decide)]
  have gm : ∀ g, 0 ≤ g → g < μ (tw t + 1) 2 → begF t μ (2 + g) = μ (tw t + 10) g := fun g g0 g1 => by rw [bg_gate c1 g0 (by omega), if_pos g1]
  have gr : ∀ g, 0 ≤ g → g < μ (tw t + 1) 2 → 0 ≤ μ (tw t + 10) g ∧ μ (tw t + 10) g < μ (tw t + 1) 1 := fun g g0 g1 => by
    have := (hg g g0 (by rw [t1]; exact g1)).2.2.2.2
    rw [t1, hk 10 (by decide) (by decide)] at this; exact this
  have gi : ∀ g h, 0 ≤ g → g < μ (tw t + 1) 2 → 0 ≤ h → h < μ (tw t + 1) 2 → μ (tw t + 10) g = μ (tw t + 10) h → g = h := fun g h g0 g1 h0 h1 e => hi g h g0 (by rw [t1]; exact g1) h0 (by rw [t1]; exact h1) (by rw [hk 10 (by decide) (by decide)]; exact e)
  refine ⟨⟨by rw [bg_0]; decide, by rw [bg_1]; exact hH, fun m m0 m1 => by rw [bg_z c1 (by omega) (by omega)]; decide, fun p p0 p1 => by rw [bg_56 c1 d1 p0 p1]; decide⟩, fun g g0 g1 => by rw [gm g g0 g1]; exact gr g g0 g1, fun g h g0 g1 h0 h1 e => ?_, fun m => ?_, fun g g0 g1 => ?_, fun m m0 m1 => by rw [bg_z c1 (by omega) (by omega)]; decide, fun m m0 m1 => ⟨bg_z c1 (by omega) (by omega), bg_z c1 (by omega) (by omega)⟩, fun p p0 p1 => ⟨?_, ?_, ?_⟩, fun p p0 p1 => ?_, fun p p0 p1 => ⟨?_, ?_, ?_, ?_⟩, ?_⟩
  · rw [gm g g0 g1, gm h h0 h1] at e; exact gi g h g0 g1 h0 h1 e
  · constructor
    · intro ⟨g, g0, g1, e⟩
      exact ⟨g, g0, g1, by rw [← gm g g0 g1]; exact e⟩
    · intro ⟨g, g0, g1, e⟩
      exact ⟨g, g0, g1, by rw [gm g g0 g1]; exact e⟩
  · rw [bg_gate c1 (by omega) g1, if_neg (by omega)]
  · rw [bg_38 c1 d1 p0 (by omega), if_pos p1]; exact (hp p p0 p1).1
  · rw [bg_44 c1 d1 p0 (by omega), if_pos p1]; exact (hp p p0 p1).2
  · rw [bg_56 c1 d1 p0 (by omega)]
    have : 0 < 2 ^ (μ (tw t + 1) 1).toNat := Nat.two_pow_pos _
    omega
  · rw [bg_50 c1 d1 p0 p1]
    by_cases q : p < μ (tw t + 1) 3
    · rw [if_pos q]
      have := (hc p p0 (by rw [t1]; exact q)).2.1
      rw [hk 13 (by decide) (by decide)] at this; exact this
    · rw [if_neg q]; decide
  · rw [bg_38 c1 d1 (by omega) p1, if_neg (by omega)]
  · rw [bg_44 c1 d1 (by omega) p1, if_neg (by omega)]
  · rw [bg_50 c1 d1 (by omega) p1, if_neg (by omega)]
  · rw [bg_56 c1 d1 (by omega) p1]
  · rw [sumN_ct (f := fun p => begF t μ (50 + p)) (tc := μ (tw t + 13)) (P := (μ (tw t + 1) 3).toNat) 6 (fun p hp' => by rw [bg_50 c1 d1 (by omega) (by omega), show (((μ (tw t + 1) 3).toNat : Nat) : Int) = μ (tw t + 1) 3 by omega]), sumN_z (f := fun m => begF t μ (26 + m)) 12 (fun m hm => bg_z c1 (by omega) (by omega)), show min 6 (μ (tw t + 1) 3).toNat = (μ (tw t + 1) 3).toNat by omega]
    omega
