/-! ===== the reference takes an image ===== -/
theorem sX10_tapeAt (k : Int) (b : Bool) (μ : Nat → Int → Int) (h0 : 0 ≤ k) (h1 : k < 1500) (hb : ∀ i, 0 ≤ i → i < 1600 → 0 ≤ μ 97 i ∧ μ 97 i ≤ 255) : ∀ d, 1 ≤ d → mCallN d 125 [mP 96, mI k] (SH, μ, RHO b) = some (tw2 (μ 97) k, SH, μ, RHO b) := deep fun d _ => by
  have a1 := hb k h0 (by omega)
  have a2 := hb (k + 1) (by omega) (by omega)
  refine call_X10_tapeAt d b μ k ⟨1, ?_⟩
  rw [tX10_tapeAt_0, w32_id (x := k + 1) (by omega) (by omega), if_pos (by omega), if_pos (by omega), w32_id (x := 256 * μ 97 k) (by omega) (by omega), w32_id (by omega) (by omega)]
  rfl
theorem sX10_areMenTold (b : Bool) (μ : Nat → Int → Int) {G : Nat} {gm : Int → Int} (hG : μ 120 7 = G) (hG1 : G ≤ 12) (hgm : ∀ g, 0 ≤ g → g < (G : Int) → μ 124 (36 + 3 * g + 2) = gm g ∧ 0 ≤ gm g ∧ gm g < 12) (hi : ∀ g h, 0 ≤ g → g < (G : Int) → 0 ≤ h → h < (G : Int) → gm g = gm h → g = h) (hb : ∀ i, 0 ≤ i → i < 1600 → 0 ≤ μ 97 i ∧ μ 97 i ≤ 255) {f : Int → Int} (hf : ∀ g, 0 ≤ g → g < (G : Int) → f (2 + g) = μ 97 (3 + g)) : ∀ d, 2 ≤ d → Cal d 13 [mP 96] b μ (fun v μ' => μ' = μ ∧ ((v = 1 ∧ stC f gm G) ∨ (v = 0 ∧ ¬ stC f gm G))) := deepC fun d hd => by
  refine cal_ev (fun r => call_X10_areMenTold d b μ) (ev_row (fun m => tX10_areMenTold_0 _ m b μ) ?_)
  have fin : (∀ g, 0 ≤ g → g < (G : Int) → f (2 + g) < 12) → (orB (fun g => f (2 + g)) G 0 0 = orB gm G 0 0 ↔ stC f gm G) := fun hlt => by
    have hfr : ∀ g, 0 ≤ g → g < (G : Int) → 0 ≤ (fun g => f (2 + g)) g ∧ (fun g => f (2 + g)) g < 12 := fun g g0 g1 => ⟨by show 0 ≤ f (2 + g); rw [hf g g0 g1]; exact (hb _ (by omega) (by omega)).1, hlt g g0 g1⟩
    obtain ⟨a1, a2⟩ := orB_bits (f := fun g => f (2 + g)) G 0 0 (fun g g0 g1 => hfr g g0 (by omega)) (by decide) (by decide)
    obtain ⟨b1, b2⟩ := orB_bits (f := gm) G 0 0 (fun g g0 g1 => (hgm g g0 (by omega)).2) (by decide) (by decide)
    have hset := stT_set (f := fun g => f (2 + g)) (fun g g0 g1 => (hgm g g0 g1).2) hi hfr
    have hbit : ∀ (F : Int → Int) (acc m : Int), (bI 0 m = true ∨ ∃ g, 0 ≤ g ∧ g < 0 + (G : Int) ∧ F g = m) ↔ isAt F m G = true := fun F acc m => by
      rw [isAt_iff, bI_zero]
      constructor
      · rintro (h | ⟨g, g0, g1, g2⟩)
        · exact absurd h (by decide)
        · exact ⟨g, g0, by omega, g2⟩
      · rintro ⟨g, g0, g1, g2⟩
        exact Or.inr ⟨g, g0, by omega, g2⟩
    constructor
    · intro e
      refine ⟨hlt, hset.2 (fun m m0 m1 => ?_)⟩
      rw [← hbit _ 0 m, ← hbit _ 0 m, ← a2 m m0, ← b2 m m0, e]
    · intro h
      have h2 := hset.1 h.2
      refine bits_eq a1.1 a1.2 b1.1 b1.2 (fun r r0 r1 => ?_)
      have h3 := h2 r r0 (by omega)
      rw [← hbit _ 0 r, ← hbit _ 0 r, ← a2 r r0, ← b2 r r0] at h3
      cases q1 : bI (orB (fun g => f (2 + g)) G 0 0) r <;> cases q2 : bI (orB gm G 0 0) r
      · rfl
      · rw [q1, q2] at h3; exact absurd (h3.2 rfl) (by decide)
      · rw [q1, q2] at h3; exact absurd (h3.1 rfl) (by decide)
      · rfl
  have lp : ∀ (k : Nat) (i v1 v2 : Int), 0 ≤ i → i + k = G → (∀ g, 0 ≤ g → g < i → f (2 + g) < 12) → orB (fun g => f (2 + g)) k i v1 = orB (fun g => f (2 + g)) G 0 0 → orB gm k i v2 = orB gm G 0 0 → Ev (fun m => mRun (mCallN d) kX10_areMenTold m 6 [some (mP 96), some (mI v1), some (mI v2), some (mI i)] [] (SH, μ, RHO b)) b (fun v μ' => μ' = μ ∧ ((v = 1 ∧ stC f gm G) ∨ (v = 0 ∧ ¬ stC f gm G))) := by
    intro k
    induction k with
    | zero =>
      intro i v1 v2 h0 hk hlt q1 q2
      rw [orB] at q1 q2
      have hfin := fin (fun g g0 g1 => hlt g g0 (by omega))
      refine ev_row (fun m => tX10_areMenTold_6 _ m b μ v1 v2 i) (ev_call (sX10_gateMany b μ d (by omega)) (ev_neg (by show ¬ (i < μ 120 7); omega) (ev_br (fun c => ?_) (fun c => ?_))))
      · exact ev_row (fun m => tX10_areMenTold_76 _ m b μ v1 v2 i 1) (ev_if (Or.inr rfl) (ev_ret ⟨rfl, Or.inl ⟨rfl, hfin.1 (by rw [← q1, ← q2]; exact c)⟩⟩))
      · exact ev_row (fun m => tX10_areMenTold_76 _ m b μ v1 v2 i 0) (ev_if (Or.inl rfl) (ev_ret ⟨rfl, Or.inr ⟨rfl, fun h => c (by rw [q1, q2]; exact hfin.2 h)⟩⟩))
    | succ k ih =>
      intro i v1 v2 h0 hk hlt q1 q2
      have e1 : w32 (3 + i) = 3 + i := w32_id (by omega) (by omega)
      have e2 : w32 (3 * i) = 3 * i := w32_id (by omega) (by omega)
      have e3 : w32 (36 + 3 * i) = 36 + 3 * i := w32_id (by omega) (by omega)
      have e4 : w32 (36 + 3 * i + 2) = 36 + 3 * i + 2 := w32_id (by omega) (by omega)
      have e5 : w32 (i + 1) = i + 1 := w32_id (by omega) (by omega)
      have hfi := hf i h0 (by omega)
      refine ev_row (fun m => tX10_areMenTold_6 _ m b μ v1 v2 i) (ev_call (sX10_gateMany b μ d (by omega)) (ev_pos (by show i < μ 120 7; omega) (ev_if (by rw [e1]; omega) (ev_br (fun c => ?_) (fun c => ?_)))))
      · have c' : μ 97 (w32 (3 + i)) < 12 := c
        rw [e1, ← hfi] at c'
        refine ev_if (by rw [e1]; omega) (ev_if (by rw [e2, e3, e4]; omega) ?_)
        dsimp only
        rw [e1, e2, e3, e4, e5, (hgm i h0 (by omega)).1, ← hfi]
        refine ih (i + 1) _ _ (by omega) (by omega) (fun g g0 g1 => ?_) (by rw [orB] at q1; exact q1) (by rw [orB] at q2; exact q2)
        by_cases e : g = i
        · rw [e]; exact c'
        · exact hlt g g0 (by omega)
      · have c' : ¬ μ 97 (w32 (3 + i)) < 12 := c
        rw [e1, ← hfi] at c'
        exact ev_ret ⟨rfl, Or.inr ⟨rfl, fun h => c' (h.1 i h0 (by omega))⟩⟩
  exact lp G 0 0 0 (by decide) (by omega) (fun g g0 g1 => absurd g0 (by omega)) rfl rfl
theorem sumN_cut {h : Int → Int} {n : Nat} : ∀ k : Nat, (∀ i, (n : Int) ≤ i → i < (n : Int) + k → h i = 0) → sumN h (n + k) = sumN h n
  | 0, _ => rfl
  | k + 1, hz => by
    rw [show n + (k + 1) = (n + k) + 1 by omega, sumN, sumN_cut k (fun i i0 i1 => hz i i0 (by omega)), hz ((n + k : Nat) : Int) (by omega) (by omega)]
    omega
/-- the bytes of the row, place by place -/
theorem rowQ_at {t : Int → Int} {G M P : Int} (hG : 0 ≤ G ∧ G ≤ 12) (hM : 0 ≤ M ∧ M ≤ 12) (hP : 0 ≤ P ∧ P ≤ 6) : rowQ t G M G M P 0 = tw2 t 0 ∧ rowQ t G M G M P 1 = t 2 ∧ (∀ g, 0 ≤ g → g < 12 → rowQ t G M G M P (2 + g) = if g < G then t (3 + g) else 0) ∧ (∀ m, 0 ≤ m → m < 12 → rowQ t G M G M P (14 + m) = if m < M then t (3 + G + 3 * m) else 0) ∧ (∀ m, 0 ≤ m → m < 12 → rowQ t G M G M P (26 + m) = if m < M then tw2 t (3 + G + 3 * m + 1) else 0) ∧ (∀ p, 0 ≤ p → p < 6 → rowQ t G M G M P (38 + p) = (if p < P then t (3 + G + 3 * M + 6 * p) else 0) ∧ rowQ t G M G M P (44 + p) = (if p < P then t (3 + G + 3 * M + 6 * p + 1) else 0) ∧ rowQ t G M G M P (50 + p) = (if p < P then tw2 t (3 + G + 3 * M + 6 * p + 2) else 0) ∧ rowQ t G M G M P (56 + p) = (if p < P then tw2 t (3 + G + 3 * M + 6 * p + 4) else 0)) := by
  refine ⟨by unfold rowQ; rw [if_pos rfl], by unfold rowQ; rw [if_neg (by decide), if_pos rfl], fun g g0 g1 => ?_, fun m m0 m1 => ?_, fun m m0 m1 => ?_, fun p p0 p1 => ⟨?_, ?_, ?_, ?_⟩⟩
  · unfold rowQ
    rw [if_neg (by omega), if_neg (by omega)]
    by_cases e : g < G
    · rw [if_pos (by omega), if_pos e]; congr 1; omega
    · rw [if_neg (by omega), if_neg (by omega), if_neg (by omega), if_neg (by omega), if_neg (by omega), if_neg (by omega), if_neg (by omega), if_neg e]
  · unfold rowQ
    rw [if_neg (by omega), if_neg (by omega), if_neg (by omega)]
    by_cases e : m < M
    · rw [if_pos (by omega), if_pos e]; congr 1; omega
    · rw [if_neg (by omega), if_neg (by omega), if_neg (by omega), if_neg (by omega), if_neg (by omega), if_neg (by omega), if_neg e]
  · unfold rowQ
    rw [if_neg (by omega), if_neg (by omega), if_neg (by omega), if_neg (by omega)]
    by_cases e : m < M
    · rw [if_pos (by omega), if_pos e]; congr 1; omega
    · rw [if_neg (by omega), if_neg (by omega), if_neg (by omega), if_neg (by omega), if_neg (by omega), if_neg e]
  · unfold rowQ
    rw [if_neg (by omega), if_neg (by omega), if_neg (by omega), if_neg (by omega), if_neg (by omega)]
    by_cases e : p < P
    · rw [if_pos (by omega), if_pos e]; congr 1; omega
    · rw [if_neg (by omega), if_neg (by omega), if_neg (by omega), if_neg (by omega), if_neg e]
  · unfold rowQ
    rw [if_neg (by omega), if_neg (by omega), if_neg (by omega), if_neg (by omega), if_neg (by omega), if_neg (by omega)]
    by_cases e : p < P
    · rw [if_pos (by omega), if_pos e]; congr 1; omega
    · rw [if_neg (by omega), if_neg (by omega), if_neg (by omega), if_neg e]
  · unfold rowQ
    rw [if_neg (by omega), if_neg (by omega), if_neg (by omega), if_neg (by omega), if_neg (by omega), if_neg (by omega), if_neg (by omega)]
    by_cases e : p < P
    · rw [if_pos (by omega), if_pos e]; congr 1; omega
    · rw [if_neg (by omega), if_neg (by omega), if_neg e]
  · unfold rowQ
    rw [if_neg (by omega), if_neg (by omega), if_neg (by omega), if_neg (by omega), if_neg (by omega), if_neg (by omega), if_neg (by omega), if_neg (by omega)]
    by_cases e : p < P
    · rw [if_pos (by omega), if_pos e]; congr 1; omega
    · rw [if_neg (by omega), if_neg e]
