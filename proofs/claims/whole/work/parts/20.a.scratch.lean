/-! ===== cells that R does not read ===== -/
def scC : List Nat := [24, 25, 26, 27, 28, 29, 31, 32, 33, 34, 35, 36, 37, 38, 39, 40, 41, 42, 43, 48, 49, 75]
def scR : List Nat := [123, 127, 131, 132, 135, 136, 137, 139, 140, 142]
def scJ : List Int := [2, 3, 4, 5, 6, 31, 38, 39, 41, 43, 44, 48, 50, 61, 62, 63, 64]
theorem keyL_or {b : Bool} {a : Nat} (h : a ∈ keyL b) : (tw b < a ∧ a ≤ tw b + 18) ∨ (a ≤ 3 ∨ (44 ≤ a ∧ a ≤ 47) ∨ a = 50 ∨ a = 72 ∨ a = 73 ∨ a = 74 ∨ a = 76 ∨ a = 97 ∨ a = 133 ∨ a = 138 ∨ a = 141 ∨ a = 143) ∨ (120 ≤ a ∧ a ≤ 134 ∧ a ≠ 133 ∧ a ≠ 131 ∧ a ≠ 132 ∧ a ≠ 123 ∧ a ≠ 127) := by
  unfold keyL at h
  rcases List.mem_append.1 h with h | h
  · rcases twL_or h with h | h
    · exact Or.inl h
    · exact Or.inr (Or.inr h)
  · simp only [List.mem_cons, List.not_mem_nil, or_false] at h
    omega
theorem scC_or {a : Nat} (h : a ∈ scC) : (24 ≤ a ∧ a ≤ 29) ∨ (31 ≤ a ∧ a ≤ 43) ∨ a = 48 ∨ a = 49 ∨ a = 75 := by
  unfold scC at h
  simp only [List.mem_cons, List.not_mem_nil, or_false] at h
  omega
theorem scR_or {a : Nat} (h : a ∈ scR) : a = 123 ∨ a = 127 ∨ a = 131 ∨ a = 132 ∨ a = 135 ∨ a = 136 ∨ a = 137 ∨ a = 139 ∨ a = 140 ∨ a = 142 := by
  unfold scR at h
  simp only [List.mem_cons, List.not_mem_nil, or_false] at h
  exact h
theorem scC_ne {μ μ' : Nat → Int → Int} (h : Fr scC μ μ') {a : Nat} (ha : ¬ ((24 ≤ a ∧ a ≤ 29) ∨ (31 ≤ a ∧ a ≤ 43) ∨ a = 48 ∨ a = 49 ∨ a = 75)) : μ' a = μ a := h a (fun h => ha (scC_or h))
theorem scC_tw {b : Bool} {μ μ' : Nat → Int → Int} (h : Fr scC μ μ') : ∀ a, a ∈ twL b → μ' a = μ a := fun a ha => scC_ne h (by
  have := twL_or ha
  have := tw_or b
  omega)
theorem R_cls {b : Bool} {μ μ' : Nat → Int → Int} (h : Fr scC μ μ') (hR : R b μ) : R b μ' := by
  refine R_same (fun a ha => scC_ne h ?_) (fun a a0 a1 => scC_ne h (by omega)) (fun a a0 a1 => scC_ne h (by omega)) (fun j _ => by rw [scC_ne h (by omega : ¬ ((24 ≤ 96 ∧ 96 ≤ 29) ∨ (31 ≤ 96 ∧ 96 ≤ 43) ∨ 96 = 48 ∨ 96 = 49 ∨ 96 = 75))]) hR
  have := keyL_or ha
  have := tw_or b
  omega
theorem scR_ne {μ μ' : Nat → Int → Int} (h : Fg scR scJ μ μ') {a : Nat} (ha : ¬ (a = 123 ∨ a = 127 ∨ a = 131 ∨ a = 132 ∨ a = 135 ∨ a = 136 ∨ a = 137 ∨ a = 139 ∨ a = 140 ∨ a = 142)) (h9 : a ≠ 96) : μ' a = μ a := h.1 a (fun h => ha (scR_or h)) h9
theorem scR_tw {b : Bool} {μ μ' : Nat → Int → Int} (h : Fg scR scJ μ μ') : ∀ a, a ∈ twL b → μ' a = μ a := fun a ha => scR_ne h (by
  have := twL_or ha
  have := tw_or b
  omega) (by
  have := twL_or ha
  have := tw_or b
  omega)
theorem R_ref {b : Bool} {μ μ' : Nat → Int → Int} (h : Fg scR scJ μ μ') (hR : R b μ) : R b μ' := by
  refine R_same (fun a ha => ?_) (fun a a0 a1 => scR_ne h (by omega) (by omega)) (fun a a0 a1 => scR_ne h (by omega) (by omega)) (fun j hj => h.2 j ?_) hR
  · have := keyL_or ha
    have := tw_or b
    exact scR_ne h (by omega) (by omega)
  · simp only [List.mem_cons, List.not_mem_nil, or_false] at hj
    unfold scJ
    simp only [List.mem_cons, List.not_mem_nil, or_false]
    omega
/-- class first, then the reference: both by one reckoning -/
theorem pair_q {d : Nat} {b : Bool} {μ : Nat → Int → Int} {zc zm : Nat} {as : List mV} {V : (Nat → Int → Int) → Int → Prop} (hR : R b μ) (h1 : Cal d zc (mP 0 :: as) b μ (fun v μ' => Fr scC μ μ' ∧ V μ v)) (h2 : ∀ μ1, R b μ1 → Cal d zm (mP 96 :: as) b μ1 (fun v μ' => Fg scR scJ μ1 μ' ∧ V μ1 v)) (hV : ∀ μ1 v v', Fr scC μ μ1 → V μ v → V μ1 v' → v' = v) : PairA d b μ zc zm as := by
  obtain ⟨v, μ1, a1, a2, a3⟩ := h1
  have hR1 := R_cls a2 hR
  obtain ⟨v', μ2, b1, b2, b3⟩ := h2 μ1 hR1
  rw [hV μ1 v v' a2 a3 b3] at b1
  exact ⟨v, μ1, μ2, a1, b1, R_ref b2 hR1⟩
theorem R_rowA {b : Bool} {μ : Nat → Int → Int} (hR : R b μ) : rowA (μ 74) := hR.2.1.2.1
theorem R_cod {b : Bool} {μ : Nat → Int → Int} (hR : R b μ) : Rcod b μ := hR.1.2.2.2.2.2.2.2
/-- for how much a man lets one through, as things stand -/
def letP (b : Bool) (μ : Nat → Int → Int) (m p : Int) : Int := prc b μ (μ 74) m p (μ (tw b + 14) p)
theorem letP_same {b : Bool} {μ μ' : Nat → Int → Int} (h : ∀ a, a ∈ twL b → μ' a = μ a) (h2 : μ' 74 = μ 74) : letP b μ' = letP b μ := by
  funext m p
  unfold letP
  rw [prc_same h, h2, h (tw b + 14) (by simp [twL])]
theorem letP_in (b : Bool) (μ : Nat → Int → Int) (m p : Int) : 0 ≤ letP b μ m p ∧ letP b μ m p ≤ 99 := prc_in _ _ _ _ _ _
theorem R_costOf {b : Bool} {μ : Nat → Int → Int} (m p : Int) (hR : R b μ) (hm : 0 ≤ m) (hm2 : m < μ (tw b + 1) 1) (hp0 : 0 ≤ p) (hp1 : p < μ (tw b + 1) 3) : ∀ d, 5 ≤ d → Cal d 25 [mP 96, mI m, mI p] b μ (fun v μ' => Fg [131, 132] [50] μ μ' ∧ v = letP b μ m p) := fun d hd => by
  have hcn := hR.1.1
  obtain ⟨-, ⟨b1, b2, b3⟩, -, ⟨d1, d2, d3⟩⟩ := hcn
  obtain ⟨t1, t2, t3⟩ := hR.1.2.2.2.2.1 p hp0 hp1
  have := sX10_costOf m p (μ 74) b μ hm (by omega) hm2 hp0 (by omega) (R_cod hR) (hR.1.2.2.2.1 m hm hm2).1 (by omega) (R_rowA hR) hR.2.1.1 d hd
  rw [t1] at this
  exact this
theorem fg_sc {L : List Nat} {J : List Int} {μ μ' : Nat → Int → Int} (h : Fg L J μ μ') (h1 : ∀ a, a ∈ L → a ∈ scR) (h2 : ∀ a, a ∈ J → a ∈ scJ) : Fg scR scJ μ μ' := fg_tr fg_rfl h h1 h2
theorem fr_sc {L : List Nat} {μ μ' : Nat → Int → Int} (h : Fr L μ μ') (h1 : ∀ a, a ∈ L → a ∈ scC) : Fr scC μ μ' := fr_sub h h1
theorem sub_R {L : List Nat} (h : (L.all fun a => scR.elem a) = true) : ∀ a, a ∈ L → a ∈ scR := fun a ha => by
  have := List.all_eq_true.1 h a ha
  exact List.elem_iff.1 this
theorem sub_J {L : List Int} (h : (L.all fun a => scJ.elem a) = true) : ∀ a, a ∈ L → a ∈ scJ := fun a ha => by
  have := List.all_eq_true.1 h a ha
  exact List.elem_iff.1 this
theorem sub_C {L : List Nat} (h : (L.all fun a => scC.elem a) = true) : ∀ a, a ∈ L → a ∈ scC := fun a ha => by
  have := List.all_eq_true.1 h a ha
  exact List.elem_iff.1 this
theorem p_lets {b : Bool} {μ : Nat → Int → Int} (m p : Int) (hR : R b μ) : ∀ d, 6 ≤ d → PairA d b μ 237 78 [mI m, mI p] := deep fun d hd => by
  refine pair_q (V := fun μ v => v = if 0 ≤ m ∧ m < μ (tw b + 1) 1 ∧ 0 ≤ p ∧ p < μ (tw b + 1) 3 then letP b μ m p else -1) hR ?_ (fun μ1 hR1 => ?_) (fun μ1 v v' hf h1 h2 => ?_)
  · have hcn := hR.1.1
    obtain ⟨-, ⟨b1, b2, b3⟩, -, ⟨d1, d2, d3⟩⟩ := hcn
    refine cal_ev (fun r => call_X9_lets d b μ m p) (ev_row (fun n => tX9_lets_0 _ n b μ m p) ?_)
    have hM := sX9_isMan m b μ d (by omega)
    have hP := sX9_isPerson p b μ d (by omega)
    by_cases e1 : 0 ≤ m ∧ m < μ (tw b + 1) 1
    · rw [t01_pos e1] at hM
      by_cases e2 : 0 ≤ p ∧ p < μ (tw b + 1) 3
      · rw [t01_pos e2] at hP
        obtain ⟨t1, t2, t3⟩ := hR.1.2.2.2.2.1 p e2.1 e2.2
        refine ev_call hM (ev_neg (by show ¬ ((1 : Int) = 0); decide) (ev_call hP (ev_neg (by show ¬ ((1 : Int) = 0); decide) (ev_if (by omega) (ev_callP (sX2_price 74 m p (μ (tw b + 14) p) b μ rfl (by decide) (by decide) e1.1 (by omega) e1.2 e2.1 (by omega) (by omega) (R_cod hR) (R_rowA hR) d (by omega)) (fun v μ' h => ev_ret ⟨fr_sc h.1 (sub_C (by decide)), ?_⟩))))))
        rw [if_pos ⟨e1.1, e1.2, e2.1, e2.2⟩]; exact h.2
      · rw [t01_neg e2] at hP
        exact ev_call hM (ev_neg (by show ¬ ((1 : Int) = 0); decide) (ev_call hP (ev_pos rfl (ev_row (fun n => tX9_lets_16 _ n b μ m p) (ev_ret ⟨fr_rfl, by rw [if_neg (by omega)]⟩)))))
    · rw [t01_neg e1] at hM
      exact ev_call hM (ev_pos rfl (ev_row (fun n => tX9_lets_16 _ n b μ m p) (ev_ret ⟨fr_rfl, by rw [if_neg (by omega)]⟩)))
  · have hcn := hR1.1.1
    obtain ⟨-, ⟨b1, b2, b3⟩, -, ⟨d1, d2, d3⟩⟩ := hcn
    refine cal_ev (fun r => call_X10_lets d b μ1 m p) (ev_row (fun n => tX10_lets_0 _ n b μ1 m p) ?_)
    have hM := sX10_isMan m b μ1 (by omega) (by omega) d (by omega)
    have hP := sX10_isPerson p b μ1 (by omega) (by omega) d (by omega)
    have bad : ∀ (Q : Int → (Nat → Int → Int) → Prop), Q (-1) μ1 → Ev (fun n => mRun (mCallN d) kX10_lets n 25 [some (mP 96), some (mI m), some (mI p)] [] (SH, μ1, RHO b)) b Q := fun Q hQ => ev_row (fun n => tX10_lets_25 _ n b μ1 m p) (ev_row (fun n => tX10_lets_26 _ n b μ1 m p (-1)) (ev_ret hQ))
    by_cases e1 : 0 ≤ m ∧ m < μ1 (tw b + 1) 1
    · rw [t01_pos (by omega)] at hM
      by_cases e2 : 0 ≤ p ∧ p < μ1 (tw b + 1) 3
      · rw [t01_pos (by omega)] at hP
        refine ev_call hM (ev_neg (by show ¬ ((1 : Int) = 0); decide) (ev_call hP (ev_neg (by show ¬ ((1 : Int) = 0); decide) (ev_callP (R_costOf m p hR1 e1.1 e1.2 e2.1 e2.2 d (by omega)) (fun v μ' h => ev_row (fun n => tX10_lets_26 _ n b μ' m p v) (ev_ret ⟨fg_sc h.1 (sub_R (by decide)) (sub_J (by decide)), ?_⟩))))))
        rw [if_pos ⟨e1.1, e1.2, e2.1, e2.2⟩]; exact h.2
      · rw [t01_neg (by omega)] at hP
        exact ev_call hM (ev_neg (by show ¬ ((1 : Int) = 0); decide) (ev_call hP (ev_pos rfl (bad _ ⟨fg_rfl, by rw [if_neg (by omega)]⟩))))
    · rw [t01_neg (by omega)] at hM
      exact ev_call hM (ev_pos rfl (bad _ ⟨fg_rfl, by rw [if_neg (by omega)]⟩))
  · rw [h1, h2, letP_same (scC_tw hf) (scC_ne hf (by decide)), scC_tw (b := b) hf (tw b + 1) (by simp [twL])]
