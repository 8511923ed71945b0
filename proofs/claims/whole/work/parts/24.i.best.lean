/-! ===== standings: the reference's small parts ===== -/
theorem sX10_isBetter (b : Bool) (μ : Nat → Int → Int) : ∀ d, 1 ≤ d → Cal d 61 [mP 96] b μ (fun v μ' => μ' = μ ∧ ((v = 1 ∧ (μ 96 63 < μ 96 61 ∨ (μ 96 61 = μ 96 63 ∧ μ 96 62 < μ 96 64))) ∨ (v = 0 ∧ ¬ (μ 96 63 < μ 96 61 ∨ (μ 96 61 = μ 96 63 ∧ μ 96 62 < μ 96 64))))) := deepC fun d _ => by
  have yes : (μ 96 63 < μ 96 61 ∨ (μ 96 61 = μ 96 63 ∧ μ 96 62 < μ 96 64)) → Ev (fun n => mRun (mCallN d) kX10_isBetter n 33 [some (mP 96)] [] (SH, μ, RHO b)) b (fun v μ' => μ' = μ ∧ ((v = 1 ∧ (μ 96 63 < μ 96 61 ∨ (μ 96 61 = μ 96 63 ∧ μ 96 62 < μ 96 64))) ∨ (v = 0 ∧ ¬ (μ 96 63 < μ 96 61 ∨ (μ 96 61 = μ 96 63 ∧ μ 96 62 < μ 96 64))))) := fun h => ev_row (fun n => tX10_isBetter_33 _ n b μ) (ev_row (fun n => tX10_isBetter_38 _ n b μ 1) (ev_if (Or.inr rfl) (ev_ret ⟨rfl, Or.inl ⟨rfl, h⟩⟩)))
  have no : ¬ (μ 96 63 < μ 96 61 ∨ (μ 96 61 = μ 96 63 ∧ μ 96 62 < μ 96 64)) → Ev (fun n => mRun (mCallN d) kX10_isBetter n 37 [some (mP 96)] [] (SH, μ, RHO b)) b (fun v μ' => μ' = μ ∧ ((v = 1 ∧ (μ 96 63 < μ 96 61 ∨ (μ 96 61 = μ 96 63 ∧ μ 96 62 < μ 96 64))) ∨ (v = 0 ∧ ¬ (μ 96 63 < μ 96 61 ∨ (μ 96 61 = μ 96 63 ∧ μ 96 62 < μ 96 64))))) := fun h => ev_row (fun n => tX10_isBetter_37 _ n b μ) (ev_row (fun n => tX10_isBetter_38 _ n b μ 0) (ev_if (Or.inl rfl) (ev_ret ⟨rfl, Or.inr ⟨rfl, h⟩⟩)))
  refine cal_ev (fun r => call_X10_isBetter d b μ) (ev_row (fun n => tX10_isBetter_0 _ n b μ) (ev_br (fun e => yes (Or.inl e)) (fun e => ev_br (fun e1 => ev_br (fun e2 => yes (Or.inr ⟨e1, e2⟩)) (fun e2 => no (fun h => ?_))) (fun e1 => no (fun h => ?_)))))
  · rcases h with h | h
    · exact e h
    · exact e2 h.2
  · rcases h with h | h
    · exact e h
    · exact e1 h.1
theorem sX10_isBest (b : Bool) (μ : Nat → Int → Int) {G : Int} (hG0 : 0 ≤ G) (hG1 : G ≤ 12) (h7 : μ 120 7 = G) : ∀ d, 2 ≤ d → Cal d 60 [mP 96] b μ (fun _ μ' => Fg [139] [63, 64] μ μ' ∧ μ' 96 63 = μ 96 61 ∧ μ' 96 64 = μ 96 62 ∧ ∀ g, 0 ≤ g → g < G → μ' 139 g = μ 133 (2 + g)) := deepC fun d hd => by
  have lp : ∀ (k : Nat) (i : Int) (μ' : Nat → Int → Int), 0 ≤ i → i + k = G → Fg [139] [63, 64] μ μ' → μ' 96 63 = μ 96 61 → μ' 96 64 = μ 96 62 → (∀ g, 0 ≤ g → g < i → μ' 139 g = μ 133 (2 + g)) → Ev (fun n => mRun (mCallN d) kX10_isBest n 18 [some (mP 96), some (mI i)] [] (SH, μ', RHO b)) b (fun _ μ' => Fg [139] [63, 64] μ μ' ∧ μ' 96 63 = μ 96 61 ∧ μ' 96 64 = μ 96 62 ∧ ∀ g, 0 ≤ g → g < G → μ' 139 g = μ 133 (2 + g)) := by
    intro k
    induction k with
    | zero =>
      intro i μ' i0 hk hf s1 s2 hx
      exact ev_row (fun n => tX10_isBest_18 _ n b μ' i) (ev_call (sX10_gateMany b μ' d (by omega)) (ev_neg (by show ¬ (i < μ' 120 7); rw [hf.1 120 (by decide) (by decide)]; omega) (ev_ret ⟨hf, s1, s2, fun g g0 g1 => hx g g0 (by omega)⟩)))
    | succ k ih =>
      intro i μ' i0 hk hf s1 s2 hx
      have e1 : w32 (i + 1) = i + 1 := w32_id (by omega) (by omega)
      refine ev_row (fun n => tX10_isBest_18 _ n b μ' i) (ev_call (sX10_gateMany b μ' d (by omega)) (ev_pos (by show i < μ' 120 7; rw [hf.1 120 (by decide) (by decide)]; omega) (ev_call (sX10_manAt i b μ' i0 (by omega) d (by omega)) (ev_if (by omega) ?_))))
      dsimp only
      rw [e1]
      refine ih (i + 1) _ (by omega) (by omega) (fg_m2 hf (by decide) (by decide)) ?_ ?_ (fun g g0 g1 => ?_)
      · rw [m2_ne (by decide)]; exact s1
      · rw [m2_ne (by decide)]; exact s2
      · rw [m2_at]
        by_cases q : g = i
        · rw [if_pos q, q, hf.1 133 (by decide) (by decide)]
        · rw [if_neg q]; exact hx g g0 (by omega)
  refine cal_ev (fun r => call_X10_isBest d b μ) (ev_row (fun n => tX10_isBest_0 _ n b μ) ?_)
  refine lp G.toNat 0 _ (by decide) (by omega) (fg_m96 (fg_m96 fg_rfl (by decide)) (by decide)) ?_ ?_ (fun g g0 g1 => absurd g0 (by omega))
  · rw [m2_at, if_neg (by decide), m2_at, if_pos rfl]
  · rw [m2_at, if_pos rfl, m2_at, if_neg (by decide)]
theorem sX10_putsAside (b : Bool) (μ : Nat → Int → Int) {G : Int} (hG0 : 0 ≤ G) (hG1 : G ≤ 12) (h7 : μ 120 7 = G) : ∀ d, 2 ≤ d → Cal d 107 [mP 96] b μ (fun _ μ' => Fr [140] μ μ' ∧ ∀ g, 0 ≤ g → g < G → μ' 140 g = μ 133 (2 + g)) := deepC fun d hd => by
  have lp : ∀ (k : Nat) (i : Int) (μ' : Nat → Int → Int), 0 ≤ i → i + k = G → Fr [140] μ μ' → (∀ g, 0 ≤ g → g < i → μ' 140 g = μ 133 (2 + g)) → Ev (fun n => mRun (mCallN d) kX10_putsAside n 2 [some (mP 96), some (mI i)] [] (SH, μ', RHO b)) b (fun _ μ' => Fr [140] μ μ' ∧ ∀ g, 0 ≤ g → g < G → μ' 140 g = μ 133 (2 + g)) := by
    intro k
    induction k with
    | zero =>
      intro i μ' i0 hk hf hx
      exact ev_row (fun n => tX10_putsAside_2 _ n b μ' i) (ev_call (sX10_gateMany b μ' d (by omega)) (ev_neg (by show ¬ (i < μ' 120 7); rw [hf 120 (by decide)]; omega) (ev_ret ⟨hf, fun g g0 g1 => hx g g0 (by omega)⟩)))
    | succ k ih =>
      intro i μ' i0 hk hf hx
      have e1 : w32 (i + 1) = i + 1 := w32_id (by omega) (by omega)
      refine ev_row (fun n => tX10_putsAside_2 _ n b μ' i) (ev_call (sX10_gateMany b μ' d (by omega)) (ev_pos (by show i < μ' 120 7; rw [hf 120 (by decide)]; omega) (ev_call (sX10_manAt i b μ' i0 (by omega) d (by omega)) (ev_if (by omega) ?_))))
      dsimp only
      rw [e1]
      refine ih (i + 1) _ (by omega) (by omega) (fr_m2 hf (by decide)) (fun g g0 g1 => ?_)
      rw [m2_at]
      by_cases q : g = i
      · rw [if_pos q, q, hf 133 (by decide)]
      · rw [if_neg q]; exact hx g g0 (by omega)
  exact cal_ev (fun r => call_X10_putsAside d b μ) (ev_row (fun n => tX10_putsAside_0 _ n b μ) (lp G.toNat 0 μ (by decide) (by omega) fr_rfl (fun g g0 g1 => absurd g0 (by omega))))
theorem sX10_takesBack (b : Bool) (μ : Nat → Int → Int) {G : Int} (hG0 : 0 ≤ G) (hG1 : G ≤ 12) (h7 : μ 120 7 = G) : ∀ d, 2 ≤ d → Cal d 123 [mP 96] b μ (fun _ μ' => Fr [133] μ μ' ∧ ∀ x, μ' 133 x = if 2 ≤ x ∧ x < 2 + G then μ 140 (x - 2) else μ 133 x) := deepC fun d hd => by
  have lp : ∀ (k : Nat) (i : Int) (μ' : Nat → Int → Int), 0 ≤ i → i + k = G → Fr [133] μ μ' → (∀ x, μ' 133 x = if 2 ≤ x ∧ x < 2 + i then μ 140 (x - 2) else μ 133 x) → Ev (fun n => mRun (mCallN d) kX10_takesBack n 2 [some (mP 96), some (mI i)] [] (SH, μ', RHO b)) b (fun _ μ' => Fr [133] μ μ' ∧ ∀ x, μ' 133 x = if 2 ≤ x ∧ x < 2 + G then μ 140 (x - 2) else μ 133 x) := by
    intro k
    induction k with
    | zero =>
      intro i μ' i0 hk hf hx
      have hi : i = G := by omega
      rw [hi] at hx
      exact ev_row (fun n => tX10_takesBack_2 _ n b μ' i) (ev_call (sX10_gateMany b μ' d (by omega)) (ev_neg (by show ¬ (i < μ' 120 7); rw [hf 120 (by decide)]; omega) (ev_ret ⟨hf, hx⟩)))
    | succ k ih =>
      intro i μ' i0 hk hf hx
      have e1 : w32 (i + 1) = i + 1 := w32_id (by omega) (by omega)
      have e2 : w32 (2 + i) = 2 + i := w32_id (by omega) (by omega)
      refine ev_row (fun n => tX10_takesBack_2 _ n b μ' i) ?_
      rw [e1, e2]
      refine ev_call (sX10_gateMany b μ' d (by omega)) (ev_pos (by show i < μ' 120 7; rw [hf 120 (by decide)]; omega) (ev_if (by omega) (ev_if (by omega) ?_)))
      dsimp only
      refine ih (i + 1) _ (by omega) (by omega) (fr_m2 hf (by decide)) (fun x => ?_)
      rw [m2_at, hx x, hf 140 (by decide)]
      by_cases q : x = 2 + i
      · rw [if_pos q, if_pos (by omega), q, show 2 + i - 2 = i by omega]
      · rw [if_neg q]
        by_cases q2 : 2 ≤ x ∧ x < 2 + i
        · rw [if_pos q2, if_pos (by omega)]
        · rw [if_neg q2, if_neg (by omega)]
  exact cal_ev (fun r => call_X10_takesBack d b μ) (ev_row (fun n => tX10_takesBack_0 _ n b μ) (lp G.toNat 0 μ (by decide) (by omega) fr_rfl (fun x => by rw [if_neg (by omega)])))
theorem sX10_standTold (p : Int) (b : Bool) (μ : Nat → Int → Int) {G : Int} (hG0 : 0 ≤ G) (hG1 : G ≤ 12) (h7 : μ 120 7 = G) : ∀ d, 3 ≤ d → Cal d 115 [mP 96, mI p] b μ (fun v μ' => μ' = μ ∧ v = if p = -1 then μ 96 63 else if p = 20 then μ 96 64 else if 0 ≤ p ∧ p < G then μ 139 p else -1) := deepC fun d hd => by
  refine cal_ev (fun r => call_X10_standTold d b μ p) (ev_row (fun n => tX10_standTold_0 _ n b μ p) ?_)
  refine ev_br (fun e => ev_row (fun n => tX10_standTold_43 _ n b μ p _) (ev_ret ⟨rfl, by rw [if_pos e]⟩)) (fun n1 => ?_)
  rw [if_neg n1]
  refine ev_br (fun e => ev_row (fun n => tX10_standTold_43 _ n b μ p _) (ev_ret ⟨rfl, by rw [if_pos e]⟩)) (fun n2 => ?_)
  rw [if_neg n2]
  have hI := sX10_isGate p b μ (by omega) (by omega) d (by omega)
  rw [h7] at hI
  refine ev_call hI ?_
  by_cases c : 0 ≤ p ∧ p < G
  · rw [if_pos c]
    exact ev_neg (by show ¬ t01 (0 ≤ p ∧ p < G) = 0; rw [t01_pos c]; decide) (ev_if (by omega) (ev_row (fun n => tX10_standTold_43 _ n b μ p _) (ev_ret ⟨rfl, rfl⟩)))
  · rw [if_neg c]
    exact ev_pos (show t01 (0 ≤ p ∧ p < G) = 0 from t01_neg c) (ev_row (fun n => tX10_standTold_43 _ n b μ p _) (ev_ret ⟨rfl, rfl⟩))
