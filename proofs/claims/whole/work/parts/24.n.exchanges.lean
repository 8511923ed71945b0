theorem eX10_exchanges_19 {d : Nat} (hd : 7 ≤ d) {b : Bool} {μ : Nat → Int → Int} (hR : R b μ) {men : Int → Int} (hin : ∀ g, 0 ≤ g → g < μ (tw b + 1) 2 → 0 ≤ men g ∧ men g < μ (tw b + 1) 1) {i : Int} (i0 : 0 ≤ i) (i1 : i < μ (tw b + 1) 2) {Q : Int → (Nat → Int → Int) → Prop} : ∀ (k : Nat) (j : Int) (μ' : Nat → Int → Int) (r : (Int × Int) × (Int × Int)), i < j → j + k = μ (tw b + 1) 2 → By b μ μ' men r → (∀ v4 μ2, By b μ μ2 men (exJ (rtM b μ) men i k j r) → Ev (fun n => mRun (mCallN d) kX10_exchanges n 6 [some (mP 96), some (mI (exJ (rtM b μ) men i k j r).2.1), some (mI (exJ (rtM b μ) men i k j r).2.2), some (mI (i + 1)), some (mI v4)] [] (SH, μ2, RHO b)) b Q) → Ev (fun n => mRun (mCallN d) kX10_exchanges n 19 [some (mP 96), some (mI r.2.1), some (mI r.2.2), some (mI i), some (mI j)] [] (SH, μ', RHO b)) b Q := by
  have hCn := hR.1.1
  obtain ⟨⟨z1, z2, z3⟩, ⟨w1, w2, w3⟩, ⟨y1, y2, y3⟩, ⟨x1, x2, x3⟩⟩ := hCn
  intro k
  induction k with
  | zero =>
    intro j μ' r hij hk hB hK
    have e1 : w32 (i + 1) = i + 1 := w32_id (by omega) (by omega)
    refine ev_row (fun n => tX10_exchanges_19 _ n b μ' r.2.1 r.2.2 i j) ?_
    rw [e1]
    exact ev_call (sX10_gateMany b μ' d (by omega)) (ev_neg (by show ¬ (j < μ' 120 7); rw [hB.1.1 120 (by decide) (by decide)]; omega) (hK j μ' hB))
  | succ k ih =>
    intro j μ' r hij hk hB hK
    have e1 : w32 (j + 1) = j + 1 := w32_id (by omega) (by omega)
    have hT := eX10_trial hd hR hB hin i0 i1 (by omega : 0 ≤ j) (by omega)
    obtain ⟨hf, h3, s1, s2, hmen, h9, hr⟩ := hB
    have hx := chg_at (μ := μ') hmen i0 i1 (by omega : 0 ≤ j) (by omega)
    have hfx : Fg ecL ecJ μ (m2 (m2 μ' 133 (2 + i) (μ' 133 (2 + j))) 133 (2 + j) (μ' 133 (2 + i))) := fg_m2 (fg_m2 hf (by decide) (by decide)) (by decide) (by decide)
    refine ev_row (fun n => tX10_exchanges_19 _ n b μ' r.2.1 r.2.2 i j) (ev_call (sX10_gateMany b μ' d (by omega)) (ev_pos (by show j < μ' 120 7; rw [hf.1 120 (by decide) (by decide)]; omega) (ev_call (sX10_changes i j b μ' i0 (by omega) (by omega) (by omega) d (by omega)) (ev_callP hT (fun _ μ2 ⟨f2, a1, a2⟩ => ?_)))))
    have hf2 : Fg ecL ecJ μ μ2 := fg_tr hfx f2 (by decide) (by decide)
    have k133 := f2.1 133 (by decide) (by decide)
    have m133 : ∀ g, 0 ≤ g → g < μ (tw b + 1) 2 → μ2 133 (2 + g) = exch men i j g := fun g g0 g1 => by rw [k133]; exact hx g g0 g1
    have o133 : ∀ x, (x < 2 ∨ 2 + μ (tw b + 1) 2 ≤ x) → μ2 133 x = μ 133 x := fun x q => by rw [k133, m2_at, if_neg (by omega), m2_at, if_neg (by omega)]; exact h3 x q
    have k63 : μ2 96 63 = r.1.1 := by rw [f2.2 63 (by decide), m2_ne (by decide), m2_ne (by decide)]; exact s1
    have k64 : μ2 96 64 = r.1.2 := by rw [f2.2 64 (by decide), m2_ne (by decide), m2_ne (by decide)]; exact s2
    have k139 : μ2 139 = μ' 139 := by rw [f2.1 139 (by decide) (by decide), m2_ne (by decide), m2_ne (by decide)]
    refine ev_callP (sX10_isBetter b μ2 d (by omega)) (fun v3 μ3 ⟨e3, h4⟩ => ?_)
    subst e3
    rw [a1, a2, k63, k64] at h4
    have back : ∀ (r' : (Int × Int) × (Int × Int)) (μ4 : Nat → Int → Int), Fg ecL ecJ μ μ4 → (∀ x, (x < 2 ∨ 2 + μ (tw b + 1) 2 ≤ x) → μ4 133 x = μ 133 x) → μ4 96 63 = r'.1.1 → μ4 96 64 = r'.1.2 → (∀ g, 0 ≤ g → g < μ (tw b + 1) 2 → μ4 133 (2 + g) = exch men i j g) → (∀ g, 0 ≤ g → g < μ (tw b + 1) 2 → μ4 139 g = ordB men r' g) → (r'.2.1 = -1 ∨ ((0 ≤ r'.2.1 ∧ r'.2.1 < μ (tw b + 1) 2) ∧ (0 ≤ r'.2.2 ∧ r'.2.2 < μ (tw b + 1) 2))) → exJ (rtM b μ) men i (k + 1) j r = exJ (rtM b μ) men i k (j + 1) r' → Ev (fun n => mRun (mCallN d) kX10_exchanges n 55 [some (mP 96), some (mI r'.2.1), some (mI r'.2.2), some (mI i), some (mI j)] [] (SH, μ4, RHO b)) b Q := fun r' μ4 f4 o4 q1 q2 n4 n9 hr' he => by
      refine ev_row (fun n => tX10_exchanges_55 _ n b μ4 r'.2.1 r'.2.2 i j) (ev_call (sX10_changes i j b μ4 i0 (by omega) (by omega) (by omega) d (by omega)) ?_)
      dsimp only
      rw [e1]
      refine ih (j + 1) _ r' (by omega) (by omega) ⟨fg_m2 (fg_m2 f4 (by decide) (by decide)) (by decide) (by decide), fun x q => ?_, ?_, ?_, fun g g0 g1 => ?_, fun g g0 g1 => ?_, hr'⟩ (fun v4 μ5 h5 => ?_)
      · rw [m2_at, if_neg (by omega), m2_at, if_neg (by omega)]; exact o4 x q
      · rw [m2_ne (by decide), m2_ne (by decide)]; exact q1
      · rw [m2_ne (by decide), m2_ne (by decide)]; exact q2
      · rw [chg_at (μ := μ4) n4 i0 i1 (by omega : 0 ≤ j) (by omega) g g0 g1, exch_at, exch_at, exch_at, exch_at, if_neg (by omega : ¬ i = j), if_pos rfl, if_pos rfl]
        by_cases c2 : g = j
        · rw [if_pos c2, c2]
        · rw [if_neg c2, if_neg c2]
          by_cases c3 : g = i
          · rw [if_pos c3, c3]
          · rw [if_neg c3, if_neg c3]
      · rw [m2_ne (by decide), m2_ne (by decide)]; exact n9 g g0 g1
      · have := hK v4 μ5
        rw [he] at this
        exact this h5
    rcases h4 with ⟨e, h4⟩ | ⟨e, h4⟩
    · refine ev_neg (by show ¬ v3 = 0; omega) (ev_callP (sX10_isBest b μ3 y2 y3 (by rw [hf2.1 120 (by decide) (by decide)]; exact y1) d (by omega)) (fun _ μ4 ⟨f4, b1, b2, b3⟩ => ?_))
      refine back (rtM b μ (exch men i j), (i, j)) μ4 (fg_tr hf2 f4 (by decide) (by decide)) (fun x q => by rw [f4.1 133 (by decide) (by decide)]; exact o133 x q) (by rw [b1]; exact a1) (by rw [b2]; exact a2) (fun g g0 g1 => by rw [f4.1 133 (by decide) (by decide)]; exact m133 g g0 g1) (fun g g0 g1 => ?_) (Or.inr ⟨⟨i0, i1⟩, ⟨by show 0 ≤ j; omega, by show j < _; omega⟩⟩) (by rw [exJ, if_pos h4])
      rw [b3 g g0 g1, m133 g g0 g1]
      unfold ordB
      rw [if_neg (by show ¬ i = -1; omega)]
    · refine ev_pos (show v3 = 0 from e) ?_
      exact back r μ3 hf2 o133 k63 k64 m133 (fun g g0 g1 => by rw [k139]; exact h9 g g0 g1) hr (by rw [exJ, if_neg h4])
