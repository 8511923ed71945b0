/-! ===== an act keeps all tied ===== -/
theorem sumN_congr {f g : Int → Int} : ∀ n : Nat, (∀ i, 0 ≤ i → i < (n : Int) → f i = g i) → sumN f n = sumN g n
  | 0, _ => rfl
  | n + 1, h => by rw [sumN, sumN, sumN_congr n (fun i h0 h1 => h i h0 (by omega)), h n (by omega) (by omega)]
theorem rowA_congr {f g : Int → Int} (h : ∀ i, 0 ≤ i → i < 62 → g i = f i) (hr : rowA f) : rowA g := by
  obtain ⟨h1, h2, h3, h4⟩ := hr
  refine ⟨?_, ?_, fun m m0 m1 => ?_, fun p p0 p1 => ?_⟩
  · rw [h 0 (by omega) (by omega)]; exact h1
  · rw [h 1 (by omega) (by omega)]; exact h2
  · rw [h _ (by omega) (by omega)]; exact h3 m m0 m1
  · rw [h _ (by omega) (by omega)]; exact h4 p p0 p1
theorem rowOK_congr {C gm tc f g : Int → Int} (hC : 0 ≤ C 1 ∧ 0 ≤ C 2 ∧ C 2 ≤ 12 ∧ 0 ≤ C 3 ∧ C 3 ≤ 6) (h : ∀ i, 0 ≤ i → i < 62 → g i = f i) (hr : rowOK C gm tc f) : rowOK C gm tc g := by
  obtain ⟨h1, h2, h3, h4, h5, h6, h7, h8, h9, h10, h11⟩ := hr
  refine ⟨rowA_congr h h1, fun x x0 x1 => ?_, fun x y x0 x1 y0 y1 e => ?_, fun m => ?_, fun x x0 x1 => ?_, fun x x0 x1 => ?_, fun x x0 x1 => ?_, fun x x0 x1 => ?_, fun x x0 x1 => ?_, fun x x0 x1 => ?_, ?_⟩
  · rw [h _ (by omega) (by omega)]; exact h2 x x0 x1
  · rw [h _ (by omega) (by omega), h _ (by omega) (by omega)] at e; exact h3 x y x0 x1 y0 y1 e
  · rw [← h4 m]
    constructor
    · rintro ⟨x, x0, x1, x2⟩; exact ⟨x, x0, x1, by rw [← h _ (by omega) (by omega)]; exact x2⟩
    · rintro ⟨x, x0, x1, x2⟩; exact ⟨x, x0, x1, by rw [h _ (by omega) (by omega)]; exact x2⟩
  · rw [h _ (by omega) (by omega)]; exact h5 x x0 x1
  · rw [h _ (by omega) (by omega)]; exact h6 x x0 x1
  · rw [h _ (by omega) (by omega), h _ (by omega) (by omega)]; exact h7 x x0 x1
  · rw [h _ (by omega) (by omega), h _ (by omega) (by omega), h _ (by omega) (by omega)]; exact h8 x x0 x1
  · rw [h _ (by omega) (by omega)]; exact h9 x x0 x1
  · rw [h _ (by omega) (by omega), h _ (by omega) (by omega), h _ (by omega) (by omega), h _ (by omega) (by omega)]; exact h10 x x0 x1
  · rw [sumN_congr 6 (fun i i0 i1 => h (50 + i) (by omega) (by omega)), sumN_congr 12 (fun i i0 i1 => h (26 + i) (by omega) (by omega))]; exact h11
theorem Rrow_congr {f g f' g' : Int → Int} (h : ∀ i, 0 ≤ i → i < 62 → f' i = f i) (h2 : ∀ i, 0 ≤ i → i < 62 → g' i = g i) (hr : Rrow f g) : Rrow f' g' := by
  obtain ⟨r1, r2⟩ := hr
  refine ⟨fun i i0 i1 => ?_, fun p p0 p1 => ?_⟩
  · rw [h i i0 (by omega), h2 i i0 (by omega)]; exact r1 i i0 i1
  · obtain ⟨q1, q2, q3, q4⟩ := r2 p p0 p1
    rw [h _ (by omega) (by omega), h _ (by omega) (by omega), h _ (by omega) (by omega), h _ (by omega) (by omega), h2 _ (by omega) (by omega), h2 _ (by omega) (by omega), h2 _ (by omega) (by omega), h2 _ (by omega) (by omega)]
    exact ⟨q1, q2, q3, q4⟩
theorem Rcnt_C {b : Bool} {μ : Nat → Int → Int} (h : Rcnt b μ) : 0 ≤ μ (tw b + 1) 1 ∧ 0 ≤ μ (tw b + 1) 2 ∧ μ (tw b + 1) 2 ≤ 12 ∧ 0 ≤ μ (tw b + 1) 3 ∧ μ (tw b + 1) 3 ≤ 6 := by
  unfold Rcnt at h; omega
theorem twL_or {b : Bool} {a : Nat} (h : a ∈ twL b) : (tw b < a ∧ a ≤ tw b + 18) ∨ (120 ≤ a ∧ a ≤ 134 ∧ a ≠ 133 ∧ a ≠ 131 ∧ a ≠ 132 ∧ a ≠ 123 ∧ a ≠ 127) := by
  unfold twL at h
  simp only [List.mem_cons, List.not_mem_nil, or_false] at h
  omega
theorem muBegin_50 {μ : Nat → Int → Int} (h5 : 0 ≤ μ 50 1) (h6 : μ 50 1 < 20) : muBegin μ 50 1 = nx20 (μ 50 1) ∧ muBegin μ 50 2 = (if μ 50 2 < 20 then μ 50 2 + 1 else 20) := by
  unfold muBegin
  rw [m2_ne (by decide : (50 : Nat) ≠ 46), m2_ne (by decide : (50 : Nat) ≠ 44), m2_at, m2_at, if_neg (by decide), if_pos rfl]
  rw [m2_at, if_pos rfl]
  exact ⟨rfl, rfl⟩
theorem muBegin_row {μ : Nat → Int → Int} (h5 : 0 ≤ μ 50 1) (h6 : μ 50 1 < 20) (j : Nat) (hj : j < 20) (i : Int) (i0 : 0 ≤ i) (i1 : i < 62) : muBegin μ (52 + j) i = if (j : Int) = μ 50 1 then μ 74 i else μ (52 + j) i := by
  unfold muBegin
  rw [m2_ne (by omega), m2_ne (by omega), m2_ne (by omega), m2_ne (by omega)]
  by_cases e : (j : Int) = μ 50 1
  · rw [if_pos e, show j = (μ 50 1).toNat by omega, mCp_at, if_pos (by omega)]; congr 1; omega
  · rw [if_neg e, mCp_ne (by omega)]
theorem muKeeps_96 {μ : Nat → Int → Int} : muKeeps μ 96 59 = nx20 (μ 96 59) ∧ muKeeps μ 96 58 = (if μ 96 58 < 20 then μ 96 58 + 1 else 20) ∧ ∀ j, j ≠ 58 → j ≠ 59 → muKeeps μ 96 j = μ 96 j := by
  unfold muKeeps
  refine ⟨?_, ?_, fun j h1 h2 => ?_⟩
  · rw [m2_at, if_neg (by decide), mCp_ne (by decide), m2_at, if_pos rfl]
  · rw [m2_at, if_pos rfl]
  · rw [m2_at, if_neg h1, mCp_ne (by decide), m2_at, if_neg h2]
theorem muKeeps_138 {μ : Nat → Int → Int} (i : Int) : muKeeps μ 138 i = if 62 * nx20 (μ 96 59) ≤ i ∧ i < 62 * nx20 (μ 96 59) + 62 then μ 133 (i - 62 * nx20 (μ 96 59)) else μ 138 i := by
  unfold muKeeps
  rw [m2_ne (by decide : (138 : Nat) ≠ 96), mCp_at, m2_ne (by decide : (133 : Nat) ≠ 96), m2_ne (by decide : (138 : Nat) ≠ 96)]
  split
  · congr 1; omega
  · rfl
theorem R_act {b : Bool} {μ μ1 μ2 : Nat → Int → Int} (hR : R b μ) (h1 : ∀ a, a ≠ 74 → a ≠ 0 → μ1 a = muBegin μ a) (h10 : ∀ j, j ≠ 11 → μ1 0 j = μ 0 j) (h2 : ∀ a, a ≠ 133 → a ≠ 96 → μ2 a = muKeeps μ1 a) (h20 : ∀ j, j ≠ 60 → μ2 96 j = muKeeps μ1 96 j) (hs : μ2 96 60 = μ1 0 11 ∧ 0 ≤ μ1 0 11 ∧ μ1 0 11 < 2147483648) (hrow : Rrow (μ1 74) (μ2 133)) (hok : rowR b μ (μ1 74)) : R b μ2 := by
  obtain ⟨r1, r2, r3, r4, r5⟩ := hR
  obtain ⟨⟨c1, c2, c3⟩, ⟨n1, n2, n3⟩, hh1, hh2⟩ := r3
  have kc : ∀ a, a ≠ 96 → a ≠ 133 → a ≠ 138 → a ≠ 74 → a ≠ 0 → a ≠ 44 → a ≠ 46 → a ≠ 50 → (a < 52 ∨ 72 ≤ a) → μ2 a = μ a := fun a a1 a2 a3 a4 a5 a6 a7 a8 a9 => by
    rw [h2 a a2 a1, muKeeps_ne a1 a3, h1 a a4 a5, muBegin_ne a6 a7 a8 a9 n2 n3]
  have k96 : ∀ j, μ1 96 j = μ 96 j := fun j => by rw [h1 96 (by decide) (by decide), muBegin_ne (by decide) (by decide) (by decide) (by decide) n2 n3]
  have ht : ∀ a, a ∈ twL b → μ2 a = μ a := fun a ha => by
    have := twL_or ha
    have := tw_or b
    exact kc a (by omega) (by omega) (by omega) (by omega) (by omega) (by omega) (by omega) (by omega) (by omega)
  have hcls : ∀ a, a < 96 → μ2 a = μ1 a := fun a ha => by rw [h2 a (by omega) (by omega), muKeeps_ne (by omega) (by omega)]
  have hb50 := muBegin_50 (μ := μ) n2 n3
  have m50 : μ2 50 = muBegin μ 50 := by rw [hcls 50 (by decide), h1 50 (by decide) (by decide)]
  have mrow : ∀ (j : Nat), j < 20 → ∀ i, 0 ≤ i → i < 62 → μ2 (52 + j) i = if (j : Int) = μ 50 1 then μ 74 i else μ (52 + j) i := fun j hj i i0 i1 => by
    rw [hcls _ (by omega), h1 _ (by omega) (by omega)]; exact muBegin_row n2 n3 j hj i i0 i1
  have m138 : ∀ i, μ2 138 i = if 62 * nx20 (μ 50 1) ≤ i ∧ i < 62 * nx20 (μ 50 1) + 62 then μ 133 (i - 62 * nx20 (μ 50 1)) else μ 138 i := fun i => by
    rw [h2 138 (by decide) (by decide), muKeeps_138, k96, n1, h1 133 (by decide) (by decide), h1 138 (by decide) (by decide), muBegin_ne (by decide) (by decide) (by decide) (by decide) n2 n3, muBegin_ne (by decide) (by decide) (by decide) (by decide) n2 n3]
  have hCC := Rcnt_C r1.1
  refine ⟨Rtw_same ht r1, ⟨?_, ?_⟩, ⟨?_, ?_, ?_, ?_⟩, ?_, ?_⟩
  · rw [hcls 74 (by decide)]; exact hrow
  · rw [hcls 74 (by decide)]; exact rowR_same ht hok
  · rw [m50, hb50.2, h20 58 (by decide), muKeeps_96.2.1, k96, c1]
    split <;> omega
  · rw [m50, hb50.1, h20 59 (by decide), muKeeps_96.1, k96, n1]
    unfold nx20
    split <;> omega
  · intro j j0 j1
    have hm := mrow j.toNat (by omega)
    rw [show ((j.toNat : Nat) : Int) = j by omega] at hm
    by_cases e : j = μ 50 1
    · refine Rrow_congr (f := μ 74) (g := μ 133) (fun i i0 i1 => ?_) (fun i i0 i1 => ?_) r2.1
      · rw [hm i i0 i1, if_pos e]
      · rw [m138, e, if_pos (by omega)]; congr 1; omega
    · refine Rrow_congr (f := μ (52 + j.toNat)) (g := fun i => μ 138 (62 * nx20 j + i)) (fun i i0 i1 => ?_) (fun i i0 i1 => ?_) (hh1 j j0 j1)
      · rw [hm i i0 i1, if_neg e]
      · rw [m138, if_neg]
        unfold nx20
        (repeat' split) <;> omega
  · intro i i0 i1
    rw [m50, hb50.2] at i1
    rw [m50, hb50.1]
    have hx : (nx20 (μ 50 1) - i) % 20 = (μ 50 1 - (i - 1)) % 20 := by unfold nx20; split <;> omega
    rw [hx]
    by_cases e : i = 1
    · subst e
      have e2 : ((μ 50 1 - (1 - 1)) % 20).toNat = (μ 50 1).toNat := by omega
      rw [e2]
      refine rowR_same ht (rowOK_congr hCC (fun k k0 k1 => ?_) r2.2)
      rw [mrow _ (by omega) k k0 k1, if_pos (by omega)]
    · have hc : i - 1 ≤ μ 50 2 := by split at i1 <;> omega
      have hi19 : i - 1 ≤ 19 := by split at i1 <;> omega
      refine rowR_same ht (rowOK_congr hCC (fun k k0 k1 => ?_) (hh2 (i - 1) (by omega) hc))
      rw [mrow _ (by omega) k k0 k1, if_neg (by omega)]
  · have r4' := r4
    obtain ⟨q1, q2, q3, q4, q5, q6⟩ := r4
    have j96 : ∀ j, j ≠ 60 → j ≠ 58 → j ≠ 59 → μ2 96 j = μ 96 j := fun j a1 a2 a3 => by rw [h20 j a1, muKeeps_96.2.2 j a2 a3, k96]
    have k0 : ∀ j, j ≠ 11 → μ2 0 j = μ 0 j := fun j hj => by rw [hcls 0 (by decide), h10 j hj]
    have kk : ∀ a, a ∈ [1, 2, 3, 72, 73, 76, 97, 141, 143] → μ2 a = μ a := fun a ha => by
      simp only [List.mem_cons, List.not_mem_nil, or_false] at ha
      exact kc a (by omega) (by omega) (by omega) (by omega) (by omega) (by omega) (by omega) (by omega) (by omega)
    refine ⟨?_, ?_, ?_, ?_, ?_, ?_⟩
    · unfold Rtap at q1 ⊢
      rw [kk 2 (by decide), kk 3 (by decide), kk 97 (by decide), j96 1 (by decide) (by decide) (by decide)]; exact q1
    · rw [kk 1 (by decide), j96 7 (by decide) (by decide) (by decide), j96 8 (by decide) (by decide) (by decide)]; exact q2
    · unfold Rsee at q3 ⊢
      rw [kk 76 (by decide), kk 141 (by decide), k0 10 (by decide), j96 67 (by decide) (by decide) (by decide), ht (tw b + 1) (by simp [twL])]; exact q3
    · rw [hcls 0 (by decide)]; exact hs
    · unfold Rimg at q5 ⊢
      rw [kk 72 (by decide), kk 73 (by decide), kk 143 (by decide), j96 71 (by decide) (by decide) (by decide)]; exact q5
    · intro j hj i hi
      rw [kc (98 + j) (by omega) (by omega) (by omega) (by omega) (by omega) (by omega) (by omega) (by omega) (by omega)]
      exact q6 j hj i hi
  · have m44 : μ2 44 4 = 0 := by
      rw [hcls 44 (by decide), h1 44 (by decide) (by decide)]
      unfold muBegin
      rw [m2_ne (by decide : (44 : Nat) ≠ 46), m2_at, if_pos rfl]
    have m46 : μ2 46 4 = 0 := by
      rw [hcls 46 (by decide), h1 46 (by decide) (by decide)]
      unfold muBegin
      rw [m2_at, if_pos rfl]
    exact ⟨Or.inl m44, Or.inl m46, fun h => absurd h (by rw [m44]; decide), fun h => absurd h (by rw [m46]; decide)⟩
