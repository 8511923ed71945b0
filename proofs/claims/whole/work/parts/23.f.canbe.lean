/-! ===== can a row be ===== -/
theorem sumN_front {h : Int → Int} : ∀ k : Nat, sumN h (k + 1) = h 0 + sumN (fun j => h (1 + j)) k
  | 0 => by rw [sumN, sumN, sumN]; show 0 + h ((0 : Nat) : Int) = h 0 + 0; rw [Int.zero_add, Int.add_zero]; rfl
  | k + 1 => by
    rw [sumN, sumN_front k, sumN]
    rw [show ((k + 1 : Nat) : Int) = 1 + (k : Int) by omega]; omega
theorem wSum_sum {g : Int → Int} : ∀ (k : Nat) (i acc : Int), (∀ j, i ≤ j → j < i + k → 0 ≤ g j ∧ g j ≤ 65535) → 0 ≤ acc → acc + 65535 * k < 2147483648 → wSum g k i acc = acc + sumN (fun j => g (i + j)) k
  | 0, i, acc, _, _, _ => by rw [wSum, sumN]; omega
  | k + 1, i, acc, h, h0, h1 => by
    have hi := h i (by omega) (by omega)
    rw [wSum, w32_id (by omega) (by omega), wSum_sum k (i + 1) (acc + g i) (fun j j0 j1 => h j (by omega) (by omega)) (by omega) (by omega), sumN_front]
    have e : sumN (fun j => g (i + 1 + j)) k = sumN (fun j => g (i + (1 + j))) k := sumN_congr k (fun j _ _ => by congr 1; omega)
    rw [e, Int.add_zero]; omega
theorem iXor_bit {s i : Int} (h0 : 0 ≤ s) (h1 : s < ((2 ^ 12 : Nat) : Int)) (i0 : 0 ≤ i) (i1 : i < 12) : (0 ≤ iXor s (iShl 1 i) ∧ iXor s (iShl 1 i) < ((2 ^ 12 : Nat) : Int)) ∧ ∀ r, 0 ≤ r → bI (iXor s (iShl 1 i)) r = (bI s r ^^ decide (r = i)) := by
  have hpi : (2 : Nat) ^ i.toNat < 2 ^ 12 := Nat.pow_lt_pow_right (by decide) (by omega)
  have e : iXor s (iShl 1 i) = ((s.toNat ^^^ 2 ^ i.toNat : Nat) : Int) := by
    rw [iShl_1 i0 (by omega), iXor_n h0 (by omega) (Int.natCast_nonneg _) (by omega)]; rfl
  rw [e]
  refine ⟨⟨Int.natCast_nonneg _, Int.ofNat_lt.mpr (Nat.xor_lt_two_pow (by omega) hpi)⟩, fun r r0 => ?_⟩
  unfold bI
  rw [show ((s.toNat ^^^ 2 ^ i.toNat : Nat) : Int).toNat = s.toNat ^^^ 2 ^ i.toNat from rfl, Nat.testBit_xor, Nat.testBit_two_pow]
  congr 1
  by_cases e2 : r = i
  · rw [decide_eq_true e2, decide_eq_true (by rw [e2])]
  · rw [decide_eq_false e2, decide_eq_false (by omega)]
def stC (f gm : Int → Int) (G : Nat) : Prop := (∀ g, 0 ≤ g → g < (G : Int) → f (2 + g) < 12) ∧ stT (fun g => f (2 + g)) gm G
theorem sX1_standAsTold (b : Bool) (μ : Nat → Int → Int) {G : Nat} (hG : μ (tw b + 1) 2 = G) (hG1 : G ≤ 12) (hgm : ∀ g, 0 ≤ g → g < (G : Int) → 0 ≤ μ (tw b + 10) g ∧ μ (tw b + 10) g < 12) (hf : ∀ g, 0 ≤ g → g < (G : Int) → 0 ≤ μ 75 (2 + g)) : ∀ d, 2 ≤ d → Cal d 142 [mP (tw b), mP 75] b μ (fun v μ' => μ' = μ ∧ ((v = 1 ∧ stC (μ 75) (μ (tw b + 10)) G) ∨ (v = 0 ∧ ¬ stC (μ 75) (μ (tw b + 10)) G))) := deepC fun d hd => by
  have hs : shp 75 = (0, 62) := rfl
  refine cal_ev (fun r => call_X1_standAsTold d b μ 75 b) (ev_row (fun m => tX1_standAsTold_0 _ m b μ 75 b) (ev_call (sX7_standingBits b b μ hG hG1 d hd) ?_))
  obtain ⟨⟨o0, o1⟩, o2⟩ := orB_bits (f := μ (tw b + 10)) G 0 0 (fun g g0 g1 => hgm g g0 (by omega)) (by decide) (by decide)
  have lp : ∀ (k : Nat) (i v2 : Int) (v4 : Option mV), 0 ≤ i → i + k = G → (0 ≤ v2 ∧ v2 < ((2 ^ 12 : Nat) : Int)) → (∀ m, 0 ≤ m → m < 12 → (bI v2 m = true ↔ ((∃ h, 0 ≤ h ∧ h < (G : Int) ∧ μ (tw b + 10) h = m) ∧ ¬ ∃ g, 0 ≤ g ∧ g < i ∧ μ 75 (2 + g) = m))) → (∀ g, 0 ≤ g → g < i → μ 75 (2 + g) < 12 ∧ (∃ h, 0 ≤ h ∧ h < (G : Int) ∧ μ (tw b + 10) h = μ 75 (2 + g)) ∧ ∀ g', 0 ≤ g' → g' < g → μ 75 (2 + g') ≠ μ 75 (2 + g)) → Ev (fun m => mRun (mCallN d) kX1_standAsTold m 7 [some (mP (tw b)), some (mP 75), some (mI v2), some (mI i), v4] [] (SH, μ, RHO b)) b (fun v μ' => μ' = μ ∧ ((v = 1 ∧ stC (μ 75) (μ (tw b + 10)) G) ∨ (v = 0 ∧ ¬ stC (μ 75) (μ (tw b + 10)) G))) := by
    intro k
    induction k with
    | zero =>
      intro i v2 v4 h0 hk hv hbt hd'
      refine ev_row (fun m => tX1_standAsTold_7 _ m b μ v2 i v4 75 b) (ev_neg (by omega) (ev_ret ⟨rfl, Or.inl ⟨rfl, fun g g0 g1 => (hd' g g0 (by omega)).1, fun g g0 g1 => (hd' g g0 (by omega)).2.1, fun g h g0 g1 h0' h1' e => ?_⟩⟩))
      have e' : μ 75 (2 + g) = μ 75 (2 + h) := e
      by_cases c : g < h
      · exact absurd e' ((hd' h h0' (by omega)).2.2 g g0 c)
      · by_cases c2 : h < g
        · exact absurd e'.symm ((hd' g g0 (by omega)).2.2 h h0' c2)
        · omega
    | succ k ih =>
      intro i v2 v4 h0 hk hv hbt hd'
      have e1 : w32 (2 + i) = 2 + i := w32_id (by omega) (by omega)
      have e5 : w32 (i + 1) = i + 1 := w32_id (by omega) (by omega)
      have hfi := hf i h0 (by omega)
      have bad : ∀ v4', ¬ stC (μ 75) (μ (tw b + 10)) G → Ev (fun m => mRun (mCallN d) kX1_standAsTold m 40 [some (mP (tw b)), some (mP 75), some (mI v2), some (mI i), some (mI v4')] [] (SH, μ, RHO b)) b (fun v μ' => μ' = μ ∧ ((v = 1 ∧ stC (μ 75) (μ (tw b + 10)) G) ∨ (v = 0 ∧ ¬ stC (μ 75) (μ (tw b + 10)) G))) := fun v4' h => ev_row (fun m => tX1_standAsTold_40 _ m b μ v2 i v4' 75 b) (ev_ret ⟨rfl, Or.inr ⟨rfl, h⟩⟩)
      refine ev_row (fun m => tX1_standAsTold_7 _ m b μ v2 i v4 75 b) (ev_pos (by omega) (ev_bif (arr_of hs) ?_))
      rw [e1, e5]
      refine ev_if (by rw [shape_of hs]; show 0 ≤ 2 + i ∧ 2 + i < ((62 : Nat) : Int); omega) (ev_br (fun c1 => ev_br (fun c2 => bad _ (fun h => ?_)) (fun c2 => ?_)) (fun c1 => bad _ (fun h => c1 (h.1 i h0 (by omega)))))
      · have hbi := bit_iff (s := v2) (m := μ 75 (2 + i)) hv.1 (by have := hv.2; omega) hfi (by omega)
        have hb1 := (hbt (μ 75 (2 + i)) hfi c1).2 ⟨h.2.1 i h0 (by omega), fun ⟨g, g0, g1, g2⟩ => by
          have := h.2.2 g i g0 (by omega) h0 (by omega) g2
          omega⟩
        rw [hb1, if_pos rfl] at hbi
        rw [hbi] at c2
        exact absurd c2 (by decide)
      · have hbi := bit_iff (s := v2) (m := μ 75 (2 + i)) hv.1 (by have := hv.2; omega) hfi (by omega)
        have hb1 : bI v2 (μ 75 (2 + i)) = true := by
          cases hbb : bI v2 (μ 75 (2 + i)) with
          | true => rfl
          | false => rw [hbb] at hbi; exact absurd hbi c2
        obtain ⟨q1, q2⟩ := (hbt _ hfi c1).1 hb1
        obtain ⟨x0, x1⟩ := iXor_bit hv.1 hv.2 hfi c1
        refine ih (i + 1) _ _ (by omega) (by omega) x0 (fun m m0 m1 => ?_) (fun g g0 g1 => ?_)
        · rw [x1 m m0]
          by_cases e : m = μ 75 (2 + i)
          · rw [decide_eq_true e, e, hb1]
            constructor
            · intro h; exact absurd h (by decide)
            · rintro ⟨_, h⟩; exact absurd ⟨i, h0, by omega, rfl⟩ h
          · rw [decide_eq_false e, Bool.xor_false, hbt m m0 m1]
            constructor
            · rintro ⟨u1, u2⟩
              refine ⟨u1, fun ⟨g, g0, g1, g2⟩ => ?_⟩
              by_cases z : g = i
              · rw [z] at g2; exact e g2.symm
              · exact u2 ⟨g, g0, by omega, g2⟩
            · rintro ⟨u1, u2⟩
              exact ⟨u1, fun ⟨g, g0, g1, g2⟩ => u2 ⟨g, g0, by omega, g2⟩⟩
        · by_cases z : g = i
          · subst z
            exact ⟨c1, q1, fun g' g0' g1' e => q2 ⟨g', g0', g1', e⟩⟩
          · exact hd' g g0 (by omega)
  refine lp G 0 _ none (by decide) (by omega) ⟨o0, o1⟩ (fun m m0 m1 => ?_) (fun g g0 g1 => absurd g0 (by omega))
  rw [o2 m m0, bI_zero]
  constructor
  · rintro (h | ⟨g, g0, g1, g2⟩)
    · exact absurd h (by decide)
    · exact ⟨⟨g, g0, by omega, g2⟩, fun ⟨g', a0, a1, _⟩ => absurd a0 (by omega)⟩
  · rintro ⟨⟨g, g0, g1, g2⟩, _⟩
    exact Or.inr ⟨g, g0, by omega, g2⟩
theorem sX1_menCanBe (b : Bool) (μ : Nat → Int → Int) {M : Nat} (hM : μ (tw b + 1) 1 = M) (hM1 : M ≤ 12) : ∀ d, 1 ≤ d → Cal d 137 [mP (tw b), mP 75] b μ (fun v μ' => μ' = μ ∧ ((v = 1 ∧ ∀ m, 0 ≤ m → m < (M : Int) → μ 75 (14 + m) ≤ 200) ∨ (v = 0 ∧ ¬ ∀ m, 0 ≤ m → m < (M : Int) → μ 75 (14 + m) ≤ 200))) := deepC fun d _ => by
  have hs : shp 75 = (0, 62) := rfl
  refine cal_ev (fun r => call_X1_menCanBe d b μ 75 b) (ev_row (fun m => tX1_menCanBe_0 _ m b μ 75 b) ?_)
  have lp : ∀ (k : Nat) (i : Int), 0 ≤ i → i + k = M → (∀ m, 0 ≤ m → m < i → μ 75 (14 + m) ≤ 200) → Ev (fun m => mRun (mCallN d) kX1_menCanBe m 2 [some (mP (tw b)), some (mP 75), some (mI i)] [] (SH, μ, RHO b)) b (fun v μ' => μ' = μ ∧ ((v = 1 ∧ ∀ m, 0 ≤ m → m < (M : Int) → μ 75 (14 + m) ≤ 200) ∨ (v = 0 ∧ ¬ ∀ m, 0 ≤ m → m < (M : Int) → μ 75 (14 + m) ≤ 200))) := by
    intro k
    induction k with
    | zero =>
      intro i h0 hk hd'
      exact ev_row (fun m => tX1_menCanBe_2 _ m b μ i 75 b) (ev_neg (by omega) (ev_ret ⟨rfl, Or.inl ⟨rfl, fun m m0 m1 => hd' m m0 (by omega)⟩⟩))
    | succ k ih =>
      intro i h0 hk hd'
      refine ev_row (fun m => tX1_menCanBe_2 _ m b μ i 75 b) (ev_pos (by omega) (ev_bif (arr_of hs) ?_))
      rw [w32_id (x := 14 + i) (by omega) (by omega), w32_id (x := i + 1) (by omega) (by omega)]
      refine ev_if (by rw [shape_of hs]; show 0 ≤ 14 + i ∧ 14 + i < ((62 : Nat) : Int); omega) (ev_br (fun c => ev_ret ⟨rfl, Or.inr ⟨rfl, fun h => ?_⟩⟩) (fun c => ih (i + 1) (by omega) (by omega) (fun m m0 m1 => ?_)))
      · have := h i h0 (by omega); omega
      · by_cases e : m = i
        · rw [e]; omega
        · exact hd' m m0 (by omega)
  exact lp M 0 (by decide) (by omega) (fun m m0 m1 => absurd m0 (by omega))
def ppC (f : Int → Int) (C0 M p : Int) : Prop := f (38 + p) < C0 ∧ f (44 + p) < C0 ∧ f (56 + p) < ((2 ^ M.toNat : Nat) : Int)
theorem shr_zero {x M : Int} (h0 : 0 ≤ x) (h1 : x < 65536) (m0 : 0 ≤ M) (m1 : M ≤ 12) : iShr x M = 0 ↔ x < ((2 ^ M.toNat : Nat) : Int) := by
  rw [iShr_n h0 (by omega) m0 (by omega), Nat.shiftRight_eq_div_pow]
  have hp := Nat.two_pow_pos M.toNat
  constructor
  · intro h
    have h2 : x.toNat / 2 ^ M.toNat = 0 := by omega
    have := (Nat.div_eq_zero_iff_lt hp).1 h2
    omega
  · intro h
    have h2 : x.toNat / 2 ^ M.toNat = 0 := (Nat.div_eq_zero_iff_lt hp).2 (by omega)
    rw [h2]; rfl
theorem sX1_peopleCanBe (b : Bool) (μ : Nat → Int → Int) {P : Nat} (hP : μ (tw b + 1) 3 = P) (hP1 : P ≤ 6) (hM : 0 ≤ μ (tw b + 1) 1 ∧ μ (tw b + 1) 1 ≤ 12) (hf : ∀ p, 0 ≤ p → p < (P : Int) → 0 ≤ μ 75 (56 + p) ∧ μ 75 (56 + p) < 65536) : ∀ d, 1 ≤ d → Cal d 138 [mP (tw b), mP 75] b μ (fun v μ' => μ' = μ ∧ ((v = 1 ∧ ∀ p, 0 ≤ p → p < (P : Int) → ppC (μ 75) (μ (tw b + 1) 0) (μ (tw b + 1) 1) p) ∨ (v = 0 ∧ ¬ ∀ p, 0 ≤ p → p < (P : Int) → ppC (μ 75) (μ (tw b + 1) 0) (μ (tw b + 1) 1) p))) := deepC fun d _ => by
  have hs : shp 75 = (0, 62) := rfl
  refine cal_ev (fun r => call_X1_peopleCanBe d b μ 75 b) (ev_row (fun m => tX1_peopleCanBe_0 _ m b μ 75 b) ?_)
  have lp : ∀ (k : Nat) (i : Int), 0 ≤ i → i + k = P → (∀ p, 0 ≤ p → p < i → ppC (μ 75) (μ (tw b + 1) 0) (μ (tw b + 1) 1) p) → Ev (fun m => mRun (mCallN d) kX1_peopleCanBe m 2 [some (mP (tw b)), some (mP 75), some (mI i)] [] (SH, μ, RHO b)) b (fun v μ' => μ' = μ ∧ ((v = 1 ∧ ∀ p, 0 ≤ p → p < (P : Int) → ppC (μ 75) (μ (tw b + 1) 0) (μ (tw b + 1) 1) p) ∨ (v = 0 ∧ ¬ ∀ p, 0 ≤ p → p < (P : Int) → ppC (μ 75) (μ (tw b + 1) 0) (μ (tw b + 1) 1) p))) := by
    intro k
    induction k with
    | zero =>
      intro i h0 hk hd'
      exact ev_row (fun m => tX1_peopleCanBe_2 _ m b μ i 75 b) (ev_neg (by omega) (ev_ret ⟨rfl, Or.inl ⟨rfl, fun m m0 m1 => hd' m m0 (by omega)⟩⟩))
    | succ k ih =>
      intro i h0 hk hd'
      have hfi := hf i h0 (by omega)
      have hsz := shr_zero hfi.1 hfi.2 hM.1 hM.2
      have bad : ¬ ppC (μ 75) (μ (tw b + 1) 0) (μ (tw b + 1) 1) i → Ev (fun m => mRun (mCallN d) kX1_peopleCanBe m 58 [some (mP (tw b)), some (mP 75), some (mI i)] [] (SH, μ, RHO b)) b (fun v μ' => μ' = μ ∧ ((v = 1 ∧ ∀ p, 0 ≤ p → p < (P : Int) → ppC (μ 75) (μ (tw b + 1) 0) (μ (tw b + 1) 1) p) ∨ (v = 0 ∧ ¬ ∀ p, 0 ≤ p → p < (P : Int) → ppC (μ 75) (μ (tw b + 1) 0) (μ (tw b + 1) 1) p))) := fun h => ev_row (fun m => tX1_peopleCanBe_58 _ m b μ i 75 b) (ev_ret ⟨rfl, Or.inr ⟨rfl, fun q => h (q i h0 (by omega))⟩⟩)
      refine ev_row (fun m => tX1_peopleCanBe_2 _ m b μ i 75 b) (ev_pos (by omega) (ev_bif (arr_of hs) ?_))
      rw [w32_id (x := 38 + i) (by omega) (by omega), w32_id (x := 44 + i) (by omega) (by omega), w32_id (x := 56 + i) (by omega) (by omega), w32_id (x := i + 1) (by omega) (by omega)]
      refine ev_if (by rw [shape_of hs]; show 0 ≤ 38 + i ∧ 38 + i < ((62 : Nat) : Int); omega) (ev_br (fun c1 => ev_bif (arr_of hs) (ev_if (by rw [shape_of hs]; show 0 ≤ 44 + i ∧ 44 + i < ((62 : Nat) : Int); omega) (ev_br (fun c2 => ev_bif (arr_of hs) (ev_if (by rw [shape_of hs]; show 0 ≤ 56 + i ∧ 56 + i < ((62 : Nat) : Int); omega) (ev_br (fun c3 => ih (i + 1) (by omega) (by omega) (fun p q0 q1 => ?_)) (fun c3 => bad (fun h => c3 (hsz.2 h.2.2)))))) (fun c2 => bad (fun h => c2 h.2.1))))) (fun c1 => bad (fun h => c1 h.1)))
      by_cases e : p = i
      · rw [e]; exact ⟨c1, c2, hsz.1 c3⟩
      · exact hd' p q0 (by omega)
  exact lp P 0 (by decide) (by omega) (fun m m0 m1 => absurd m0 (by omega))
