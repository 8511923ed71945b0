/-! ===== on ===== -/
def canR (C gm tc f : Int → Int) : Prop := f 0 ≤ 999 ∧ f 1 ≤ 23 ∧ stC f gm (C 2).toNat ∧ (∀ m, 0 ≤ m → m < C 1 → f (14 + m) ≤ 200) ∧ (∀ p, 0 ≤ p → p < C 3 → ppC f (C 0) (C 1) p) ∧ sumN (fun p => f (50 + p)) 6 + sumN (fun m => f (26 + m)) 12 = sumN tc (C 3).toNat
theorem stC_congr {f g gm : Int → Int} {G : Nat} (hG : G ≤ 12) (h : ∀ i, 0 ≤ i → i < 62 → g i = f i) : stC g gm G ↔ stC f gm G := by
  have hh : ∀ x, 0 ≤ x → x < (G : Int) → g (2 + x) = f (2 + x) := fun x x0 x1 => h _ (by omega) (by omega)
  unfold stC stT
  constructor
  · rintro ⟨a1, a2, a3⟩
    refine ⟨fun x x0 x1 => by rw [← hh x x0 x1]; exact a1 x x0 x1, fun x x0 x1 => ?_, fun x y x0 x1 y0 y1 e => ?_⟩
    · obtain ⟨u, u0, u1, u2⟩ := a2 x x0 x1
      exact ⟨u, u0, u1, by rw [u2]; exact hh x x0 x1⟩
    · refine a3 x y x0 x1 y0 y1 ?_
      show g (2 + x) = g (2 + y)
      rw [hh x x0 x1, hh y y0 y1]; exact e
  · rintro ⟨a1, a2, a3⟩
    refine ⟨fun x x0 x1 => by rw [hh x x0 x1]; exact a1 x x0 x1, fun x x0 x1 => ?_, fun x y x0 x1 y0 y1 e => ?_⟩
    · obtain ⟨u, u0, u1, u2⟩ := a2 x x0 x1
      exact ⟨u, u0, u1, by rw [u2]; exact (hh x x0 x1).symm⟩
    · refine a3 x y x0 x1 y0 y1 ?_
      show f (2 + x) = f (2 + y)
      have e' : g (2 + x) = g (2 + y) := e
      rw [← hh x x0 x1, ← hh y y0 y1]; exact e'
theorem canR_congr {C gm tc f g : Int → Int} (hC : 0 ≤ C 1 ∧ C 1 ≤ 12 ∧ 0 ≤ C 2 ∧ C 2 ≤ 12 ∧ 0 ≤ C 3 ∧ C 3 ≤ 6) (h : ∀ i, 0 ≤ i → i < 62 → g i = f i) : canR C gm tc g ↔ canR C gm tc f := by
  have s1 : sumN (fun p => g (50 + p)) 6 = sumN (fun p => f (50 + p)) 6 := sumN_congr 6 (fun i i0 i1 => h _ (by omega) (by omega))
  have s2 : sumN (fun m => g (26 + m)) 12 = sumN (fun m => f (26 + m)) 12 := sumN_congr 12 (fun i i0 i1 => h _ (by omega) (by omega))
  have s3 : (∀ m, 0 ≤ m → m < C 1 → g (14 + m) ≤ 200) ↔ (∀ m, 0 ≤ m → m < C 1 → f (14 + m) ≤ 200) := ⟨fun q m m0 m1 => by rw [← h (14 + m) (by omega) (by omega)]; exact q m m0 m1, fun q m m0 m1 => by rw [h (14 + m) (by omega) (by omega)]; exact q m m0 m1⟩
  have s4 : (∀ p, 0 ≤ p → p < C 3 → ppC g (C 0) (C 1) p) ↔ (∀ p, 0 ≤ p → p < C 3 → ppC f (C 0) (C 1) p) := by
    unfold ppC
    exact ⟨fun q p p0 p1 => by rw [← h (38 + p) (by omega) (by omega), ← h (44 + p) (by omega) (by omega), ← h (56 + p) (by omega) (by omega)]; exact q p p0 p1, fun q p p0 p1 => by rw [h (38 + p) (by omega) (by omega), h (44 + p) (by omega) (by omega), h (56 + p) (by omega) (by omega)]; exact q p p0 p1⟩
  unfold canR
  rw [s1, s2, s3, s4, h 0 (by decide) (by decide), h 1 (by decide) (by decide), stC_congr (by omega) h]
theorem sX1_canBe (b : Bool) (μ : Nat → Int → Int) (hR : R b μ) (hf : ∀ x, 0 ≤ x → x < 62 → 0 ≤ μ 75 x ∧ μ 75 x ≤ 65535) : ∀ d, 3 ≤ d → Cal d 134 [mP (tw b), mP 75] b μ (fun v μ' => μ' = μ ∧ ((v = 1 ∧ canR (μ (tw b + 1)) (μ (tw b + 10)) (μ (tw b + 13)) (μ 75)) ∨ (v = 0 ∧ ¬ canR (μ (tw b + 1)) (μ (tw b + 10)) (μ (tw b + 13)) (μ 75)))) := deepC fun d hd => by
  have hs : shp 75 = (0, 62) := rfl
  have hs13 : shp (tw b + 13) = (0, 6) := shp_tw b 13 6 rfl rfl
  have hC := Rcnt_C hR.1.1
  obtain ⟨⟨z1, z2, z3⟩, ⟨w1, w2, w3⟩, ⟨y1, y2, y3⟩, ⟨x1, x2, x3⟩⟩ := hR.1.1
  have no : ¬ canR (μ (tw b + 1)) (μ (tw b + 10)) (μ (tw b + 13)) (μ 75) → Ev (fun m => mRun (mCallN d) kX1_canBe m 79 [some (mP (tw b)), some (mP 75)] [] (SH, μ, RHO b)) b (fun v μ' => μ' = μ ∧ ((v = 1 ∧ canR (μ (tw b + 1)) (μ (tw b + 10)) (μ (tw b + 13)) (μ 75)) ∨ (v = 0 ∧ ¬ canR (μ (tw b + 1)) (μ (tw b + 10)) (μ (tw b + 13)) (μ 75)))) := fun h => ev_row (fun m => tX1_canBe_79 _ m b μ 75 b) (ev_row (fun m => tX1_canBe_80 _ m b μ 0 75 b) (ev_if (Or.inl rfl) (ev_ret ⟨rfl, Or.inr ⟨rfl, h⟩⟩)))
  have c1 := sX1_standAsTold b μ (G := (μ (tw b + 1) 2).toNat) (by omega) (by omega) (fun g g0 g1 => by
    obtain ⟨-, -, -, -, q⟩ := hR.1.2.1 g g0 (by omega)
    omega) (fun g g0 g1 => (hf (2 + g) (by omega) (by omega)).1) d (by omega)
  have c2 := sX1_menCanBe b μ (M := (μ (tw b + 1) 1).toNat) (by omega) (by omega) d (by omega)
  have c3 := sX1_peopleCanBe b μ (P := (μ (tw b + 1) 3).toNat) (by omega) (by omega) ⟨w2, w3⟩ (fun p p0 p1 => by have := hf (56 + p) (by omega) (by omega); omega) d (by omega)
  have s1 : mCallN d 252 [mP 75, mI 50, mI 6] (SH, μ, RHO b) = some (sumN (fun p => μ 75 (50 + p)) 6, SH, μ, RHO b) := by
    have := sX9_sumOf 75 62 50 6 b μ hs (by decide) (by decide) (by decide) (by decide) d (by omega)
    rw [show (6 : Int).toNat = 6 from rfl, wSum_sum 6 0 0 (fun j j0 j1 => hf (50 + j) (by omega) (by omega)) (by decide) (by decide), Int.zero_add] at this
    rw [this, sumN_congr 6 (fun j _ _ => by rw [Int.zero_add])]
  have s2 : mCallN d 252 [mP 75, mI 26, mI 12] (SH, μ, RHO b) = some (sumN (fun m => μ 75 (26 + m)) 12, SH, μ, RHO b) := by
    have := sX9_sumOf 75 62 26 12 b μ hs (by decide) (by decide) (by decide) (by decide) d (by omega)
    rw [show (12 : Int).toNat = 12 from rfl, wSum_sum 12 0 0 (fun j j0 j1 => hf (26 + j) (by omega) (by omega)) (by decide) (by decide), Int.zero_add] at this
    rw [this, sumN_congr 12 (fun j _ _ => by rw [Int.zero_add])]
  have s3 : mCallN d 252 [mP (tw b + 13), mI 0, mI (μ (tw b + 1) 3)] (SH, μ, RHO b) = some (sumN (μ (tw b + 13)) (μ (tw b + 1) 3).toNat, SH, μ, RHO b) := by
    have := sX9_sumOf (tw b + 13) 6 0 (μ (tw b + 1) 3) b μ hs13 (by decide) (by omega) (by omega) (by decide) d (by omega)
    rw [wSum_sum _ 0 0 (fun j j0 j1 => by
      rw [Int.zero_add]
      have := hR.1.2.2.2.2.2.1 j j0 (by omega)
      omega) (by decide) (by omega), Int.zero_add] at this
    rw [this, sumN_congr _ (fun j _ _ => by rw [Int.zero_add, Int.zero_add])]
  have b1 := sumN_le (g := fun p => μ 75 (50 + p)) (c := 65535) 6 (fun i i0 i1 => (hf _ (by omega) (by omega)).2)
  have b2 := sumN_le (g := fun m => μ 75 (26 + m)) (c := 65535) 12 (fun i i0 i1 => (hf _ (by omega) (by omega)).2)
  have b3 := sumN_ge (g := fun p => μ 75 (50 + p)) 6 (fun i i0 i1 => (hf _ (by omega) (by omega)).1)
  have b4 := sumN_ge (g := fun m => μ 75 (26 + m)) 12 (fun i i0 i1 => (hf _ (by omega) (by omega)).1)
  refine cal_ev (fun r => call_X1_canBe d b μ 75 b) (ev_row (fun m => tX1_canBe_0 _ m b μ 75 b) (ev_bif (arr_of hs) (ev_if (by rw [shape_of hs]; decide) (ev_br (fun q => no (fun h => by have := h.1; omega)) (fun q0 => ev_bif (arr_of hs) (ev_if (by rw [shape_of hs]; decide) (ev_br (fun q => no (fun h => by have := h.2.1; omega)) (fun q1 => ev_callP c1 (fun v1 μ1 ⟨e1, h1⟩ => ?_)))))))))
  subst e1
  rcases h1 with ⟨e, h1⟩ | ⟨e, h1⟩
  · refine ev_neg (by show ¬ v1 = 0; omega) (ev_callP c2 (fun v2 μ2 ⟨e2, h2⟩ => ?_))
    subst e2
    rcases h2 with ⟨e', h2⟩ | ⟨e', h2⟩
    · refine ev_neg (by show ¬ v2 = 0; omega) (ev_callP c3 (fun v3 μ3 ⟨e3, h3⟩ => ?_))
      subst e3
      rcases h3 with ⟨e'', h3⟩ | ⟨e'', h3⟩
      · refine ev_neg (by show ¬ v3 = 0; omega) (ev_call s1 (ev_call s2 (ev_call s3 (ev_br (fun q => ?_) (fun q => no (fun h => q ?_))))))
        · have q' : w32 (sumN (fun p => μ3 75 (50 + p)) 6 + sumN (fun m => μ3 75 (26 + m)) 12) = sumN (μ3 (tw b + 13)) (μ3 (tw b + 1) 3).toNat := q
          rw [w32_id (by omega) (by omega)] at q'
          exact ev_row (fun m => tX1_canBe_80 _ m b μ3 1 75 b) (ev_if (Or.inr rfl) (ev_ret ⟨rfl, Or.inl ⟨rfl, by omega, by omega, h1, fun m m0 m1 => h2 m m0 (by omega), fun p p0 p1 => h3 p p0 (by omega), q'⟩⟩))
        · show w32 (sumN (fun p => μ3 75 (50 + p)) 6 + sumN (fun m => μ3 75 (26 + m)) 12) = sumN (μ3 (tw b + 13)) (μ3 (tw b + 1) 3).toNat
          rw [w32_id (by omega) (by omega)]
          exact h.2.2.2.2.2
      · exact ev_pos e'' (no (fun h => h3 (fun p p0 p1 => h.2.2.2.2.1 p p0 (by omega))))
    · exact ev_pos e' (no (fun h => h2 (fun m m0 m1 => h.2.2.2.1 m m0 (by omega))))
  · exact ev_pos e (no (fun h => h1 h.2.2.1))
/-- is the tape an image of this town that can be -/
def imOK (b : Bool) (μ : Nat → Int → Int) : Prop := μ 2 1 = 3 + μ (tw b + 1) 2 + 3 * μ (tw b + 1) 1 + 6 * μ (tw b + 1) 3 + 1 ∧ μ 3 (μ 2 1 - 1) = chkF (μ 3) (μ 2 1 - 1).toNat 0 157
def rowN (b : Bool) (μ : Nat → Int → Int) : Int → Int := rowQ (μ 3) (μ (tw b + 1) 2) (μ (tw b + 1) 1) (μ (tw b + 1) 2) (μ (tw b + 1) 1) (μ (tw b + 1) 3)
def onOK (b : Bool) (μ : Nat → Int → Int) : Prop := imOK b μ ∧ canR (μ (tw b + 1)) (μ (tw b + 10)) (μ (tw b + 13)) (rowN b μ)
theorem sX1_isOf (b : Bool) (μ : Nat → Int → Int) (hR : R b μ) : ∀ d, 2 ≤ d → Cal d 136 [mP (tw b), mP 2] b μ (fun v μ' => μ' = μ ∧ ((v = 1 ∧ imOK b μ) ∨ (v = 0 ∧ ¬ imOK b μ))) := deepC fun d hd => by
  have hC := Rcnt_C hR.1.1
  obtain ⟨⟨z1, z2, z3⟩, ⟨w1, w2, w3⟩, ⟨y1, y2, y3⟩, ⟨x1, x2, x3⟩⟩ := hR.1.1
  obtain ⟨⟨t1, t2, t3⟩, t4⟩ := hR.2.2.2.1.1
  have e1 : w32 (3 + μ (tw b + 1) 2) = 3 + μ (tw b + 1) 2 := w32_id (by omega) (by omega)
  have e2 : w32 (3 * μ (tw b + 1) 1) = 3 * μ (tw b + 1) 1 := w32_id (by omega) (by omega)
  have e3 : w32 (3 + μ (tw b + 1) 2 + 3 * μ (tw b + 1) 1) = 3 + μ (tw b + 1) 2 + 3 * μ (tw b + 1) 1 := w32_id (by omega) (by omega)
  have e4 : w32 (6 * μ (tw b + 1) 3) = 6 * μ (tw b + 1) 3 := w32_id (by omega) (by omega)
  have e5 : w32 (3 + μ (tw b + 1) 2 + 3 * μ (tw b + 1) 1 + 6 * μ (tw b + 1) 3) = 3 + μ (tw b + 1) 2 + 3 * μ (tw b + 1) 1 + 6 * μ (tw b + 1) 3 := w32_id (by omega) (by omega)
  have e6 : w32 (3 + μ (tw b + 1) 2 + 3 * μ (tw b + 1) 1 + 6 * μ (tw b + 1) 3 + 1) = 3 + μ (tw b + 1) 2 + 3 * μ (tw b + 1) 1 + 6 * μ (tw b + 1) 3 + 1 := w32_id (by omega) (by omega)
  have e7 : w32 (3 + μ (tw b + 1) 2 + 3 * μ (tw b + 1) 1 + 6 * μ (tw b + 1) 3 + 1 - 1) = 3 + μ (tw b + 1) 2 + 3 * μ (tw b + 1) 1 + 6 * μ (tw b + 1) 3 + 1 - 1 := w32_id (by omega) (by omega)
  refine cal_ev (fun r => call_X1_isOf d b μ b) (ev_row (fun m => tX1_isOf_0 _ m b μ b) ?_)
  rw [e1, e2, e3, e4, e5, e6, e7]
  have no : ∀ v2, ¬ imOK b μ → Ev (fun m => mRun (mCallN d) kX1_isOf m 62 [some (mP (tw b)), some (mP 2), some (mI v2)] [] (SH, μ, RHO b)) b (fun v μ' => μ' = μ ∧ ((v = 1 ∧ imOK b μ) ∨ (v = 0 ∧ ¬ imOK b μ))) := fun v2 h => ev_row (fun m => tX1_isOf_62 _ m b μ v2 b) (ev_row (fun m => tX1_isOf_63 _ m b μ v2 0 b) (ev_if (Or.inl rfl) (ev_ret ⟨rfl, Or.inr ⟨rfl, h⟩⟩)))
  refine ev_br (fun q => ?_) (fun q => no _ (fun h => q h.1))
  rw [← q]
  have hS := sX1_sumUp 3 1600 (μ 2 1 - 1).toNat b μ rfl (by decide) (by omega) (fun i i0 i1 => (t4 i i0 (by omega)).2) d (by omega)
  rw [show (((μ 2 1 - 1).toNat : Nat) : Int) = μ 2 1 - 1 by omega] at hS
  refine ev_call (sX6_byteAt (μ 2 1 - 1) b μ (by omega) (by omega) t3 d (by omega)) (ev_call hS (ev_br (fun q2 => ?_) (fun q2 => no _ (fun h => q2 h.2))))
  exact ev_row (fun m => tX1_isOf_63 _ m b μ _ 1 b) (ev_if (Or.inr rfl) (ev_ret ⟨rfl, Or.inl ⟨rfl, q, q2⟩⟩))
theorem rowQ_in {t : Int → Int} {G M gi mi pi : Int} (hb : ∀ i, 0 ≤ i → i < 1600 → 0 ≤ t i ∧ t i ≤ 255) (hG : 0 ≤ G ∧ G ≤ 12) (hM : 0 ≤ M ∧ M ≤ 12) (hg : gi ≤ 12) (hm : mi ≤ 12) (hp : pi ≤ 6) (x : Int) : 0 ≤ rowQ t G M gi mi pi x ∧ rowQ t G M gi mi pi x ≤ 65535 := by
  have h2 : ∀ k, 0 ≤ k → k < 1500 → 0 ≤ tw2 t k ∧ tw2 t k ≤ 65535 := fun k k0 k1 => by
    have a1 := hb k k0 (by omega)
    have a2 := hb (k + 1) (by omega) (by omega)
    unfold tw2; omega
  have h1 : ∀ k, 0 ≤ k → k < 1500 → 0 ≤ t k ∧ t k ≤ 65535 := fun k k0 k1 => by have := hb k k0 (by omega); omega
  unfold rowQ
  by_cases c1 : x = 0
  · rw [if_pos c1]; exact h2 0 (by decide) (by decide)
  rw [if_neg c1]
  by_cases c2 : x = 1
  · rw [if_pos c2]; exact h1 2 (by decide) (by decide)
  rw [if_neg c2]
  by_cases c3 : 2 ≤ x ∧ x < 2 + gi
  · rw [if_pos c3]; exact h1 _ (by omega) (by omega)
  rw [if_neg c3]
  by_cases c4 : 14 ≤ x ∧ x < 14 + mi
  · rw [if_pos c4]; exact h1 _ (by omega) (by omega)
  rw [if_neg c4]
  by_cases c5 : 26 ≤ x ∧ x < 26 + mi
  · rw [if_pos c5]; exact h2 _ (by omega) (by omega)
  rw [if_neg c5]
  by_cases c6 : 38 ≤ x ∧ x < 38 + pi
  · rw [if_pos c6]; exact h1 _ (by omega) (by omega)
  rw [if_neg c6]
  by_cases c7 : 44 ≤ x ∧ x < 44 + pi
  · rw [if_pos c7]; exact h1 _ (by omega) (by omega)
  rw [if_neg c7]
  by_cases c8 : 50 ≤ x ∧ x < 50 + pi
  · rw [if_pos c8]; exact h2 _ (by omega) (by omega)
  rw [if_neg c8]
  by_cases c9 : 56 ≤ x ∧ x < 56 + pi
  · rw [if_pos c9]; exact h2 _ (by omega) (by omega)
  rw [if_neg c9]; decide
theorem sX0_clear (b : Bool) (μ : Nat → Int → Int) : ∀ d, 1 ≤ d → mCallN d 9 [mP 50] (SH, μ, RHO b) = some (0, SH, m2 μ 50 2 0, RHO b) := deep fun d _ => call_X0_clear d b μ ⟨1, tX0_clear_0 _ _ _ _⟩
/-- what on leaves of the class -/
theorem sX9_on (b : Bool) (μ : Nat → Int → Int) (hR : R b μ) : ∀ d, 4 ≤ d → Cal d 243 [mP 0] b μ (fun v μ' => (¬ onOK b μ ∧ v = 0 ∧ (∀ a, a ≠ 75 → a ≠ 2 → μ' a = μ a) ∧ μ' 2 1 = 0) ∨ (onOK b μ ∧ v = 1 ∧ (∀ a, a ≠ 75 → a ≠ 2 → a ≠ 74 → a ≠ 50 → a ≠ 44 → a ≠ 46 → μ' a = μ a) ∧ μ' 2 1 = 0 ∧ μ' 50 2 = 0 ∧ μ' 50 1 = μ 50 1 ∧ μ' 44 4 = 0 ∧ μ' 46 4 = 0 ∧ ∀ x, 0 ≤ x → x < 62 → μ' 74 x = rowN b μ x)) := deepC fun d hd => by
  have hC := Rcnt_C hR.1.1
  have hCn := hR.1.1
  obtain ⟨⟨z1, z2, z3⟩, ⟨w1, w2, w3⟩, ⟨y1, y2, y3⟩, ⟨x1, x2, x3⟩⟩ := hCn
  obtain ⟨⟨t1, t2, t3⟩, t4⟩ := hR.2.2.2.1.1
  have hbt : ∀ i, 0 ≤ i → i < 1600 → 0 ≤ μ 3 i ∧ μ 3 i ≤ 255 := fun i i0 i1 => (t4 i i0 i1).2
  refine cal_ev (fun r => call_X9_on d b μ) (ev_row (fun m => tX9_on_0 _ m b μ) (ev_callP (sX1_isOf b μ hR d (by omega)) (fun v1 μ1 ⟨e1, h1⟩ => ?_)))
  subst e1
  rcases h1 with ⟨e, h1⟩ | ⟨e, h1⟩
  · have hRd := sX1_read b μ1 (G := (μ1 (tw b + 1) 2).toNat) (M := (μ1 (tw b + 1) 1).toNat) (P := (μ1 (tw b + 1) 3).toNat) (by omega) (by omega) (by omega) (by omega) (by omega) (by omega) (by have := h1.1; omega) hbt d (by omega)
    rw [show (((μ1 (tw b + 1) 2).toNat : Nat) : Int) = μ1 (tw b + 1) 2 by omega, show (((μ1 (tw b + 1) 1).toNat : Nat) : Int) = μ1 (tw b + 1) 1 by omega, show (((μ1 (tw b + 1) 3).toNat : Nat) : Int) = μ1 (tw b + 1) 3 by omega] at hRd
    refine ev_neg (by show ¬ v1 = 0; omega) (ev_callP hRd (fun _ μ2 ⟨f2, hx2⟩ => ?_))
    have hf2 := fr_sc f2 (sub_C (by decide))
    have hR2 := R_cls hf2 hR
    have kt := scC_tw (b := b) hf2
    have hcan := sX1_canBe b μ2 hR2 (fun x q0 q1 => by rw [hx2 x q0 q1]; exact rowQ_in hbt ⟨y2, y3⟩ ⟨w2, w3⟩ (by omega) (by omega) (by omega) x) d (by omega)
    rw [kt (tw b + 1) (by simp [twL]), kt (tw b + 10) (by simp [twL]), kt (tw b + 13) (by simp [twL]), canR_congr (f := rowN b μ1) (by omega) (fun x q0 q1 => hx2 x q0 q1)] at hcan
    refine ev_callP hcan (fun v3 μ3 ⟨e3, h3⟩ => ?_)
    subst e3
    rcases h3 with ⟨e', h3⟩ | ⟨e', h3⟩
    · have hcl := sX0_clear b (mCp (m2 μ3 2 1 0) 75 74 0 0 62) d (by omega)
      have hfo := sX5_forget b (m2 (mCp (m2 μ3 2 1 0) 75 74 0 0 62) 50 2 0) d (by omega)
      refine ev_row (fun m => tX9_on_43 _ m b μ3 v3) (ev_neg (by omega) (ev_if (by decide) (ev_call hcl (ev_call hfo (ev_ret (Or.inr ⟨⟨h1, h3⟩, rfl, fun a a1 a2 a3 a4 a5 a6 => ?_, ?_, ?_, ?_, ?_, ?_, fun x q0 q1 => ?_⟩))))))
      · try dsimp only
        rw [m2_ne a6, m2_ne a5, m2_ne a4, mCp_ne a3, m2_ne a2]; exact f2 a (by simpa using a1)
      · try dsimp only
        rw [m2_ne (by decide), m2_ne (by decide), m2_ne (by decide), mCp_ne (by decide), m2_at, if_pos rfl]
      · try dsimp only
        rw [m2_ne (by decide), m2_ne (by decide), m2_at, if_pos rfl]
      · try dsimp only
        rw [m2_ne (by decide), m2_ne (by decide), m2_at, if_neg (by decide), mCp_ne (by decide), m2_ne (by decide), f2 50 (by decide)]
      · try dsimp only
        rw [m2_ne (by decide), m2_at, if_pos rfl]
      · try dsimp only
        rw [m2_at, if_pos rfl]
      · try dsimp only
        rw [m2_ne (by decide), m2_ne (by decide), m2_ne (by decide), mCp_at, if_pos (by omega), m2_ne (by decide), show 0 + (x - 0) = x by omega]
        exact hx2 x q0 q1
    · refine ev_row (fun m => tX9_on_43 _ m b μ3 v3) (ev_pos e' (ev_ret (Or.inl ⟨fun h => h3 h.2, rfl, fun a a1 a2 => ?_, ?_⟩)))
      · try dsimp only
        rw [m2_ne a2]; exact f2 a (by simpa using a1)
      · try dsimp only
        rw [m2_at, if_pos rfl]
  · refine ev_pos (show v1 = 0 from e) (ev_row (fun m => tX9_on_43 _ m b μ1 v1) (ev_pos e (ev_ret (Or.inl ⟨fun h => h1 h.1, rfl, fun a a1 a2 => m2_ne a2, ?_⟩))))
    try dsimp only
    rw [m2_at, if_pos rfl]
