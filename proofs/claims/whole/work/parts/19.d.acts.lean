theorem rowOK_mod {C gm tc f f' : Int → Int} (hC : 0 ≤ C 1 ∧ 0 ≤ C 2 ∧ C 2 ≤ 12 ∧ 0 ≤ C 3 ∧ C 3 ≤ 6) (hr : rowOK C gm tc f) (hA : rowA f') (h1 : ∀ i, 2 ≤ i → i < 14 → f' i = f i) (h2 : ∀ i, 26 ≤ i → i < 56 → f' i = f i) (h3 : ∀ m, C 1 ≤ m → m < 12 → f' (14 + m) = 0) (h4 : ∀ p, 0 ≤ p → p < C 3 → f' (56 + p) < ((2 ^ (C 1).toNat : Nat) : Int)) (h5 : ∀ p, C 3 ≤ p → p < 6 → f' (56 + p) = 0) : rowOK C gm tc f' := by
  obtain ⟨-, o2, o3, o4, o5, o6, o7, o8, o9, o10, o11⟩ := hr
  refine ⟨hA, fun g g0 g1 => ?_, fun g h g0 g1 h0 h1' hh => ?_, fun m => ?_, fun g g0 g1 => ?_, fun m m0 m1 => ?_, fun m m0 m1 => ?_, fun p p0 p1 => ?_, fun p p0 p1 => ?_, fun p p0 p1 => ?_, ?_⟩
  · rw [h1 _ (by omega) (by omega)]; exact o2 g g0 g1
  · rw [h1 _ (by omega) (by omega), h1 _ (by omega) (by omega)] at hh; exact o3 g h g0 g1 h0 h1' hh
  · rw [← o4 m]
    constructor
    · rintro ⟨y, y0, y1, y2⟩; exact ⟨y, y0, y1, by rw [← h1 _ (by omega) (by omega)]; exact y2⟩
    · rintro ⟨y, y0, y1, y2⟩; exact ⟨y, y0, y1, by rw [h1 _ (by omega) (by omega)]; exact y2⟩
  · rw [h1 _ (by omega) (by omega)]; exact o5 g g0 g1
  · rw [h2 _ (by omega) (by omega)]; exact o6 m m0 m1
  · rw [h2 (26 + m) (by omega) (by omega)]; exact ⟨h3 m m0 m1, (o7 m m0 m1).2⟩
  · rw [h2 _ (by omega) (by omega), h2 _ (by omega) (by omega)]; exact ⟨(o8 p p0 p1).1, (o8 p p0 p1).2.1, h4 p p0 p1⟩
  · rw [h2 _ (by omega) (by omega)]; exact o9 p p0 p1
  · rw [h2 _ (by omega) (by omega), h2 _ (by omega) (by omega), h2 _ (by omega) (by omega)]; exact ⟨(o10 p p0 p1).1, (o10 p p0 p1).2.1, (o10 p p0 p1).2.2.1, h5 p p0 p1⟩
  · rw [sumN_congr 6 (fun i i0 i1 => h2 (50 + i) (by omega) (by omega)), sumN_congr 12 (fun i i0 i1 => h2 (26 + i) (by omega) (by omega))]; exact o11
theorem rowOK_exch {C gm tc f f' : Int → Int} {i j : Int} (hC : 0 ≤ C 1 ∧ 0 ≤ C 2 ∧ C 2 ≤ 12 ∧ 0 ≤ C 3 ∧ C 3 ≤ 6) (hr : rowOK C gm tc f) (hi0 : 0 ≤ i) (hi1 : i < C 2) (hj0 : 0 ≤ j) (hj1 : j < C 2) (h : ∀ x, f' x = if x = 2 + j then f (2 + i) else if x = 2 + i then f (2 + j) else f x) : rowOK C gm tc f' := by
  obtain ⟨⟨a1, a2, a3, a4⟩, o2, o3, o4, o5, o6, o7, o8, o9, o10, o11⟩ := hr
  have hk : ∀ x, x ≠ 2 + i → x ≠ 2 + j → f' x = f x := fun x x1 x2 => by rw [h x, if_neg x2, if_neg x1]
  have hi : f' (2 + i) = f (2 + j) := by
    rw [h (2 + i)]
    by_cases e : 2 + i = 2 + j
    · rw [if_pos e, e]
    · rw [if_neg e, if_pos rfl]
  have hj : f' (2 + j) = f (2 + i) := by rw [h (2 + j), if_pos rfl]
  have tr : ∀ g, 0 ≤ g → g < C 2 → ∃ g', 0 ≤ g' ∧ g' < C 2 ∧ f' (2 + g) = f (2 + g') ∧ (g' = if g = i then j else if g = j then i else g) := fun g g0 g1 => by
    by_cases e : g = i
    · subst e; exact ⟨j, hj0, hj1, hi, by rw [if_pos rfl]⟩
    · by_cases e2 : g = j
      · subst e2; exact ⟨i, hi0, hi1, hj, by rw [if_neg e, if_pos rfl]⟩
      · exact ⟨g, g0, g1, hk _ (by omega) (by omega), by rw [if_neg e, if_neg e2]⟩
  refine ⟨⟨?_, ?_, fun m m0 m1 => ?_, fun p p0 p1 => ?_⟩, fun g g0 g1 => ?_, fun g k g0 g1 k0 k1 hh => ?_, fun m => ?_, fun g g0 g1 => ?_, fun m m0 m1 => ?_, fun m m0 m1 => ?_, fun p p0 p1 => ?_, fun p p0 p1 => ?_, fun p p0 p1 => ?_, ?_⟩
  · rw [hk _ (by omega) (by omega)]; exact a1
  · rw [hk _ (by omega) (by omega)]; exact a2
  · rw [hk _ (by omega) (by omega)]; exact a3 m m0 m1
  · rw [hk _ (by omega) (by omega)]; exact a4 p p0 p1
  · obtain ⟨g', b0, b1, b2, -⟩ := tr g g0 g1
    rw [b2]; exact o2 g' b0 b1
  · obtain ⟨g', b0, b1, b2, b3⟩ := tr g g0 g1
    obtain ⟨k', c0, c1, c2, c3⟩ := tr k k0 k1
    rw [b2, c2] at hh
    have := o3 g' k' b0 b1 c0 c1 hh
    rw [b3, c3] at this
    (repeat' split at this) <;> omega
  · rw [← o4 m]
    constructor
    · rintro ⟨y, y0, y1, y2⟩
      obtain ⟨g', b0, b1, b2, -⟩ := tr y y0 y1
      exact ⟨g', b0, b1, by rw [← b2]; exact y2⟩
    · rintro ⟨y, y0, y1, y2⟩
      by_cases e : y = i
      · subst e; exact ⟨j, hj0, hj1, by rw [hj]; exact y2⟩
      · by_cases e2 : y = j
        · subst e2; exact ⟨i, hi0, hi1, by rw [hi]; exact y2⟩
        · exact ⟨y, y0, y1, by rw [hk _ (by omega) (by omega)]; exact y2⟩
  · rw [hk _ (by omega) (by omega)]; exact o5 g g0 g1
  · rw [hk _ (by omega) (by omega)]; exact o6 m m0 m1
  · rw [hk _ (by omega) (by omega), hk _ (by omega) (by omega)]; exact o7 m m0 m1
  · rw [hk _ (by omega) (by omega), hk _ (by omega) (by omega), hk _ (by omega) (by omega)]; exact o8 p p0 p1
  · rw [hk _ (by omega) (by omega)]; exact o9 p p0 p1
  · rw [hk _ (by omega) (by omega), hk _ (by omega) (by omega), hk _ (by omega) (by omega), hk _ (by omega) (by omega)]; exact o10 p p0 p1
  · rw [sumN_congr 6 (fun x x0 x1 => hk (50 + x) (by omega) (by omega)), sumN_congr 12 (fun x x0 x1 => hk (26 + x) (by omega) (by omega))]; exact o11
theorem act_pre {b : Bool} {μ μ1 : Nat → Int → Int} (hR : R b μ) (h1 : ∀ a, a ≠ 74 → a ≠ 0 → μ1 a = muBegin μ a) : (μ1 96 = μ 96 ∧ μ1 133 = μ 133 ∧ (∀ a, a ∈ twL b → μ1 a = μ a)) ∧ (0 ≤ μ1 96 59 ∧ μ1 96 59 < 20) ∧ (0 ≤ μ1 96 58 ∧ μ1 96 58 ≤ 20) := by
  obtain ⟨⟨c1, c2, c3⟩, ⟨n1, n2, n3⟩, -, -⟩ := hR.2.2.1
  have k96 : μ1 96 = μ 96 := by rw [h1 96 (by decide) (by decide), muBegin_ne (by decide) (by decide) (by decide) (by decide) n2 n3]
  refine ⟨⟨k96, ?_, fun a ha => ?_⟩, ?_, ?_⟩
  · rw [h1 133 (by decide) (by decide), muBegin_ne (by decide) (by decide) (by decide) (by decide) n2 n3]
  · have := twL_or ha
    have := tw_or b
    rw [h1 a (by omega) (by omega), muBegin_ne (by omega) (by omega) (by omega) (by omega) n2 n3]
  · rw [k96]; omega
  · rw [k96]; omega
theorem R_act' {b : Bool} {μ μ1 μ2 : Nat → Int → Int} (hR : R b μ) (h1 : ∀ a, a ≠ 74 → μ1 a = muBegin μ a) (h2 : ∀ a, a ≠ 133 → μ2 a = muKeeps μ1 a) (hrow : Rrow (μ1 74) (μ2 133)) (hok : rowR b μ (μ1 74)) : R b μ2 := by
  obtain ⟨⟨c1, c2, c3⟩, ⟨n1, n2, n3⟩, -, -⟩ := hR.2.2.1
  have k0 : μ1 0 = μ 0 := by rw [h1 0 (by decide), muBegin_ne (by decide) (by decide) (by decide) (by decide) n2 n3]
  have q4 := hR.2.2.2.1.2.2.2.1
  refine R_act hR (fun a a1 _ => h1 a a1) (fun j _ => by rw [k0]) (fun a a1 _ => h2 a a1) (fun j _ => by rw [h2 96 (by decide)]) ?_ hrow hok
  rw [h2 96 (by decide), muKeeps_96.2.2 60 (by decide) (by decide), k0, (act_pre hR (fun a a1 _ => h1 a a1)).1.1]
  exact q4
/-! night -/
theorem eX9_night {Φ : mOrc} {b : Bool} {μ0 : Nat → Int → Int} : ∀ (k : Nat) (i : Int) (μ : Nat → Int → Int), 0 ≤ i → i + k = 12 → Fr [74] μ0 μ → (∀ x, μ 74 x = if 14 ≤ x ∧ x < 14 + i then 0 else μ0 74 x) → Ev (fun n => mRun Φ kX9_night n 37 [some (mP 0), some (mI i)] [] (SH, μ, RHO b)) b (fun v μ' => v = μ0 74 0 ∧ Fr [74] μ0 μ' ∧ ∀ x, μ' 74 x = if 14 ≤ x ∧ x < 26 then 0 else μ0 74 x) := by
  intro k
  induction k with
  | zero =>
    intro i μ h0 hk hf hx
    refine ev_row (fun n => tX9_night_37 _ n b μ i) (ev_neg (by omega) (ev_ret ⟨?_, hf, ?_⟩))
    · rw [hx 0, if_neg (by omega)]
    · rw [show (26 : Int) = 14 + i by omega]; exact hx
  | succ k ih =>
    intro i μ h0 hk hf hx
    have e1 : w32 (14 + i) = 14 + i := w32_id (by omega) (by omega)
    have e2 : w32 (i + 1) = i + 1 := w32_id (by omega) (by omega)
    refine ev_row (fun n => tX9_night_37 _ n b μ i) (ev_pos (by omega) ?_)
    rw [e1, e2]
    refine ev_if (by omega) (ih (i + 1) _ (by omega) (by omega) (fr_m2 hf (by decide)) (fun x => ?_))
    rw [m2_at, hx x]
    (repeat' split) <;> first | rfl | omega
theorem sX9_night (b : Bool) (μ : Nat → Int → Int) (h0 : 0 ≤ μ 50 1) (h1 : μ 50 1 < 20) (h2 : 0 ≤ μ 50 2) (h3 : μ 50 2 ≤ 20) (h4 : 0 ≤ μ 74 0) (h5 : μ 74 0 < 999) : ∀ d, 4 ≤ d → Cal d 241 [mP 0] b μ (fun v μ' => v = μ 74 0 + 1 ∧ (∀ a, a ≠ 74 → μ' a = muBegin μ a) ∧ ∀ x, μ' 74 x = if 14 ≤ x ∧ x < 26 then 0 else if x = 1 then 0 else if x = 0 then μ 74 0 + 1 else μ 74 x) := deepC fun d hd => by
  refine cal_ev (fun r => call_X9_night d b μ) ?_
  have k74 : muBegin μ 74 = μ 74 := muBegin_ne (by decide) (by decide) (by decide) (by decide) h0 h1
  have e1 : w32 (μ 74 0 + 1) = μ 74 0 + 1 := w32_id (by omega) (by omega)
  refine ev_row (fun n => tX9_night_0 _ n b μ) (ev_pos h5 (ev_call (sX9_beginAct b μ h0 h1 h2 h3 d hd) ?_))
  dsimp only
  rw [k74, e1]
  refine ev_mono (eX9_night 12 0 _ (by decide) (by decide) fr_rfl (fun x => by rw [if_neg (by omega)])) (fun v μ' h => ⟨?_, fun a ha => ?_, fun x => ?_⟩)
  · rw [h.1, m2_at, if_neg (by decide), m2_at, if_pos rfl]
  · rw [h.2.1 a (by simpa using ha), m2_ne ha, m2_ne ha]
  · rw [h.2.2 x, m2_at, m2_at, k74]
theorem eX10_night {Φ : mOrc} {b : Bool} {μ0 : Nat → Int → Int} : ∀ (k : Nat) (i : Int) (μ : Nat → Int → Int), 0 ≤ i → i + k = 12 → Fr [133] μ0 μ → (∀ x, μ 133 x = if 14 ≤ x ∧ x < 14 + i then 0 else μ0 133 x) → Ev (fun n => mRun Φ kX10_night n 37 [some (mP 96), some (mI i)] [] (SH, μ, RHO b)) b (fun v μ' => v = μ0 133 0 ∧ Fr [133] μ0 μ' ∧ ∀ x, μ' 133 x = if 14 ≤ x ∧ x < 26 then 0 else μ0 133 x) := by
  intro k
  induction k with
  | zero =>
    intro i μ h0 hk hf hx
    refine ev_row (fun n => tX10_night_37 _ n b μ i) (ev_neg (by omega) (ev_ret ⟨?_, hf, ?_⟩))
    · rw [hx 0, if_neg (by omega)]
    · rw [show (26 : Int) = 14 + i by omega]; exact hx
  | succ k ih =>
    intro i μ h0 hk hf hx
    have e1 : w32 (14 + i) = 14 + i := w32_id (by omega) (by omega)
    have e2 : w32 (i + 1) = i + 1 := w32_id (by omega) (by omega)
    refine ev_row (fun n => tX10_night_37 _ n b μ i) (ev_pos (by omega) ?_)
    rw [e1, e2]
    refine ev_if (by omega) (ih (i + 1) _ (by omega) (by omega) (fr_m2 hf (by decide)) (fun x => ?_))
    rw [m2_at, hx x]
    (repeat' split) <;> first | rfl | omega
theorem sX10_night (b : Bool) (μ : Nat → Int → Int) (h0 : 0 ≤ μ 96 59) (h1 : μ 96 59 < 20) (h2 : 0 ≤ μ 96 58) (h3 : μ 96 58 ≤ 20) (h4 : 0 ≤ μ 133 0) (h5 : μ 133 0 < 999) : ∀ d, 2 ≤ d → Cal d 91 [mP 96] b μ (fun v μ' => v = μ 133 0 + 1 ∧ (∀ a, a ≠ 133 → μ' a = muKeeps μ a) ∧ ∀ x, μ' 133 x = if 14 ≤ x ∧ x < 26 then 0 else if x = 1 then 0 else if x = 0 then μ 133 0 + 1 else μ 133 x) := deepC fun d hd => by
  refine cal_ev (fun r => call_X10_night d b μ) ?_
  have k133 : muKeeps μ 133 = μ 133 := muKeeps_ne (by decide) (by decide)
  have e1 : w32 (μ 133 0 + 1) = μ 133 0 + 1 := w32_id (by omega) (by omega)
  refine ev_row (fun n => tX10_night_0 _ n b μ) (ev_neg (by omega) (ev_call (sX10_keeps' b μ h0 h1 h2 h3 d hd) ?_))
  dsimp only
  rw [k133, e1]
  refine ev_mono (eX10_night 12 0 _ (by decide) (by decide) fr_rfl (fun x => by rw [if_neg (by omega)])) (fun v μ' h => ⟨?_, fun a ha => ?_, fun x => ?_⟩)
  · rw [h.1, m2_at, if_neg (by decide), m2_at, if_pos rfl]
  · rw [h.2.1 a (by simpa using ha), m2_ne ha, m2_ne ha]
  · rw [h.2.2 x, m2_at, m2_at, k133]
theorem p_night {b : Bool} {μ : Nat → Int → Int} (hR : R b μ) : ∀ d, 4 ≤ d → PairA d b μ 241 91 [] := deep fun d hd => by
  obtain ⟨⟨c1, c2, c3⟩, ⟨n1, n2, n3⟩, -, -⟩ := hR.2.2.1
  have g0 := hR.2.1.1.1 0 (by decide) (by decide)
  obtain ⟨⟨a1, a2, a3, a4⟩, -⟩ := hR.2.1.2
  have hC := Rcnt_C hR.1.1
  by_cases e : μ 74 0 < 999
  · obtain ⟨v, μ1, h1, h2, h3, h4⟩ := sX9_night b μ n2 n3 c2 c3 a1.1 e (d + 1) (by omega)
    obtain ⟨⟨k96, k133, kt⟩, p1, p2⟩ := act_pre hR (fun a a1 _ => h3 a a1)
    obtain ⟨v', μ2, h1', h2', h3', h4'⟩ := sX10_night b μ1 p1.1 p1.2 p2.1 p2.2 (by rw [k133, g0]; exact a1.1) (by rw [k133, g0]; exact e) (d + 1) (by omega)
    rw [k133, g0] at h2'
    rw [h2', ← h2] at h1'
    refine ⟨v, μ1, μ2, h1, h1', R_act' hR h3 h3' ?_ ?_⟩
    · obtain ⟨q1, q2⟩ := hR.2.1.1
      rw [k133, g0] at h4'
      refine ⟨fun i i0 i1 => ?_, fun p p0 p1 => ?_⟩
      · rw [h4 i, h4' i]
        (repeat' split) <;> first | rfl | exact q1 i i0 i1
      · rw [h4 _, h4 _, h4 _, h4 _, h4' _, h4' _, h4' _, h4' _]
        simp only [if_neg (show ¬ (14 ≤ 38 + p ∧ 38 + p < 26) by omega), if_neg (show ¬ (38 + p = 1) by omega), if_neg (show ¬ (38 + p = 0) by omega), if_neg (show ¬ (14 ≤ 44 + p ∧ 44 + p < 26) by omega), if_neg (show ¬ (44 + p = 1) by omega), if_neg (show ¬ (44 + p = 0) by omega), if_neg (show ¬ (14 ≤ 50 + p ∧ 50 + p < 26) by omega), if_neg (show ¬ (50 + p = 1) by omega), if_neg (show ¬ (50 + p = 0) by omega), if_neg (show ¬ (14 ≤ 56 + p ∧ 56 + p < 26) by omega), if_neg (show ¬ (56 + p = 1) by omega), if_neg (show ¬ (56 + p = 0) by omega)]
        rw [if_neg (by omega), if_neg (by omega), if_neg (by omega), if_neg (by omega), if_neg (by omega), if_neg (by omega), if_neg (by omega), if_neg (by omega), if_neg (by omega), if_neg (by omega), if_neg (by omega), if_neg (by omega)]
        exact q2 p p0 p1
    · have hr := hR.2.1.2
      have hk : ∀ i, i ≠ 0 → i ≠ 1 → (i < 14 ∨ 26 ≤ i) → μ1 74 i = μ 74 i := fun i i0 i1 i2 => by rw [h4 i, if_neg (by omega), if_neg i1, if_neg i0]
      refine rowOK_mod hC hr ⟨?_, ?_, fun m m0 m1 => ?_, fun p p0 p1 => ?_⟩ (fun i i0 i1 => hk i (by omega) (by omega) (by omega)) (fun i i0 i1 => hk i (by omega) (by omega) (by omega)) (fun m m0 m1 => ?_) (fun p p0 p1 => ?_) (fun p p0 p1 => ?_)
      · rw [h4 0, if_neg (by omega), if_neg (by omega), if_pos rfl]; omega
      · rw [h4 1, if_neg (by omega), if_pos rfl]; omega
      · rw [h4 (14 + m), if_pos (by omega)]; omega
      · rw [hk _ (by omega) (by omega) (by omega)]; exact a4 p p0 p1
      · rw [h4 (14 + m), if_pos (by omega)]
      · rw [hk _ (by omega) (by omega) (by omega)]; exact (hr.2.2.2.2.2.2.2.1 p p0 p1).2.2
      · rw [hk _ (by omega) (by omega) (by omega)]; exact (hr.2.2.2.2.2.2.2.2.2.1 p p0 p1).2.2.2
  · refine ⟨-1, μ, μ, call_X9_night d b μ ⟨1, ?_⟩, call_X10_night d b μ ⟨1, ?_⟩, hR⟩
    · rw [tX9_night_0, mBr_neg e]
    · rw [tX10_night_0, mBr_pos (by rw [g0]; omega)]
