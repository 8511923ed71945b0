/-! ===== acts, pair by pair ===== -/
theorem R_seed {b : Bool} {μ μ' : Nat → Int → Int} {s : Int} (hR : R b μ) (h0 : 0 ≤ s) (h1 : s < 2147483648) (ha : ∀ a, a ≠ 0 → a ≠ 96 → μ' a = μ a) (hb : ∀ j, j ≠ 11 → μ' 0 j = μ 0 j) (hc : ∀ j, j ≠ 60 → μ' 96 j = μ 96 j) (hs : μ' 0 11 = s ∧ μ' 96 60 = s) : R b μ' := by
  obtain ⟨r1, r2, r3, r4, r5⟩ := hR
  have ht : ∀ a, a ∈ twL b → μ' a = μ a := fun a h => by
    have := twL_or h
    have := tw_or b
    exact ha a (by omega) (by omega)
  refine ⟨Rtw_same ht r1, ⟨?_, ?_⟩, Rhis_same ht (ha 50 (by decide) (by decide)) (fun a h1 h2 => ha a (by omega) (by omega)) (ha 138 (by decide) (by decide)) (fun j hj => hc j ?_) r3, ?_, Rsta_same ht (fun a h => ha a ?_ ?_) r5⟩
  · rw [ha 74 (by decide) (by decide), ha 133 (by decide) (by decide)]; exact r2.1
  · rw [ha 74 (by decide) (by decide)]; exact rowR_same ht r2.2
  · simp only [List.mem_cons, List.not_mem_nil, or_false] at hj; omega
  · obtain ⟨q1, q2, q3, q4, q5, q6⟩ := r4
    refine ⟨?_, ?_, ?_, ?_, ?_, ?_⟩
    · unfold Rtap at q1 ⊢
      rw [ha 2 (by decide) (by decide), ha 3 (by decide) (by decide), ha 97 (by decide) (by decide), hc 1 (by decide)]; exact q1
    · rw [ha 1 (by decide) (by decide), hc 7 (by decide), hc 8 (by decide)]; exact q2
    · unfold Rsee at q3 ⊢
      rw [ha 76 (by decide) (by decide), ha 141 (by decide) (by decide), hb 10 (by decide), hc 67 (by decide), ht (tw b + 1) (by simp [twL])]; exact q3
    · rw [hs.1, hs.2]; exact ⟨rfl, h0, h1⟩
    · unfold Rimg at q5 ⊢
      rw [ha 72 (by decide) (by decide), ha 73 (by decide) (by decide), ha 143 (by decide) (by decide), hc 71 (by decide)]; exact q5
    · intro j hj i hi
      rw [ha (98 + j) (by omega) (by omega)]
      exact q6 j hj i hi
  · simp only [List.mem_cons, List.not_mem_nil, or_false] at h; omega
  · simp only [List.mem_cons, List.not_mem_nil, or_false] at h; omega
theorem R_tape {b : Bool} {μ μ' : Nat → Int → Int} (hR : R b μ) (ha : ∀ a, a ≠ 2 → a ≠ 3 → a ≠ 97 → a ≠ 96 → μ' a = μ a) (hc : ∀ j, j ≠ 1 → μ' 96 j = μ 96 j) (hs : Rtap μ') : R b μ' := by
  obtain ⟨r1, r2, r3, r4, r5⟩ := hR
  have ht : ∀ a, a ∈ twL b → μ' a = μ a := fun a h => by
    have := twL_or h
    have := tw_or b
    exact ha a (by omega) (by omega) (by omega) (by omega)
  refine ⟨Rtw_same ht r1, ⟨?_, ?_⟩, Rhis_same ht (ha 50 (by decide) (by decide) (by decide) (by decide)) (fun a h1 h2 => ha a (by omega) (by omega) (by omega) (by omega)) (ha 138 (by decide) (by decide) (by decide) (by decide)) (fun j hj => hc j ?_) r3, ?_, Rsta_same ht (fun a h => ?_) r5⟩
  · rw [ha 74 (by decide) (by decide) (by decide) (by decide), ha 133 (by decide) (by decide) (by decide) (by decide)]; exact r2.1
  · rw [ha 74 (by decide) (by decide) (by decide) (by decide)]; exact rowR_same ht r2.2
  · simp only [List.mem_cons, List.not_mem_nil, or_false] at hj; omega
  · obtain ⟨q1, q2, q3, q4, q5, q6⟩ := r4
    refine ⟨hs, ?_, ?_, ?_, ?_, ?_⟩
    · rw [ha 1 (by decide) (by decide) (by decide) (by decide), hc 7 (by decide), hc 8 (by decide)]; exact q2
    · unfold Rsee at q3 ⊢
      rw [ha 0 (by decide) (by decide) (by decide) (by decide), ha 76 (by decide) (by decide) (by decide) (by decide), ha 141 (by decide) (by decide) (by decide) (by decide), hc 67 (by decide), ht (tw b + 1) (by simp [twL])]; exact q3
    · rw [ha 0 (by decide) (by decide) (by decide) (by decide), hc 60 (by decide)]; exact q4
    · unfold Rimg at q5 ⊢
      rw [ha 72 (by decide) (by decide) (by decide) (by decide), ha 73 (by decide) (by decide) (by decide) (by decide), ha 143 (by decide) (by decide) (by decide) (by decide), hc 71 (by decide)]; exact q5
    · intro j hj i hi
      rw [ha (98 + j) (by omega) (by omega) (by omega) (by omega)]
      exact q6 j hj i hi
  · simp only [List.mem_cons, List.not_mem_nil, or_false] at h
    exact ha a (by omega) (by omega) (by omega) (by omega)
theorem p_seed {b : Bool} {μ : Nat → Int → Int} (s : Int) (hR : R b μ) (hs : w32 s = s) : ∀ d, 1 ≤ d → PairA d b μ 249 112 [mI s] := fun d hd => by
  have h1 := sX9_seed s b μ d hd
  by_cases e : s < 0
  · rw [if_pos e] at h1
    have h2 := sX10_seed s b μ d hd
    rw [if_pos e] at h2
    exact ⟨0, μ, μ, h1, h2, hR⟩
  · rw [if_neg e] at h1
    have h2 := sX10_seed s b (m2 μ 0 11 s) d hd
    rw [if_neg e] at h2
    have hlt : s < 2147483648 := by
      have := Int.bmod_lt (x := s) (m := 4294967296) (by decide)
      unfold w32 at hs
      omega
    refine ⟨1, _, _, h1, h2, R_seed hR (by omega) hlt (fun a a0 a1 => by rw [m2_ne a1, m2_ne a0]) (fun j hj => by rw [m2_ne (by decide), m2_at, if_neg hj]) (fun j hj => by rw [m2_at, if_neg hj, m2_ne (by decide)]) ⟨by rw [m2_ne (by decide), m2_at, if_pos rfl], by rw [m2_at, if_pos rfl]⟩⟩
theorem p_end {b : Bool} {μ : Nat → Int → Int} (n : Int) (hR : R b μ) : ∀ d, 1 ≤ d → PairA d b μ 214 32 [mI n] := fun d hd => by
  have h1 := sX9_end n b μ d hd
  obtain ⟨⟨t1, t2, t3⟩, t4⟩ := hR.2.2.2.1.1
  by_cases e : n < 0 ∨ μ 2 1 < n
  · rw [if_pos e] at h1
    have h2 := sX10_end n b μ d hd
    rw [t1, if_pos e] at h2
    exact ⟨0, μ, μ, h1, h2, hR⟩
  · rw [if_neg e] at h1
    have h2 := sX10_end n b (m2 μ 2 1 n) d hd
    rw [m2_ne (by decide), t1, if_neg e] at h2
    refine ⟨1, _, _, h1, h2, R_tape hR (fun a a1 a2 a3 a4 => by rw [m2_ne a4, m2_ne a1]) (fun j hj => by rw [m2_at, if_neg hj, m2_ne (by decide)]) ⟨⟨?_, ?_⟩, fun i i0 i1 => ?_⟩⟩
    · rw [m2_at, if_pos rfl, m2_ne (by decide), m2_at, if_pos rfl]
    · rw [m2_ne (by decide), m2_at, if_pos rfl]; omega
    · rw [m2_ne (by decide), m2_ne (by decide), m2_ne (by decide), m2_ne (by decide)]; exact t4 i i0 i1
theorem p_hour {b : Bool} {μ : Nat → Int → Int} (x : Int) (hR : R b μ) : ∀ d, 4 ≤ d → PairA d b μ 231 56 [mI x] := fun d hd => by
  obtain ⟨⟨c1, c2, c3⟩, ⟨n1, n2, n3⟩, -, -⟩ := hR.2.2.1
  have h1 := sX9_hour x b μ n2 n3 c2 c3 d hd
  have g1 := hR.2.1.1.1 1 (by decide) (by decide)
  by_cases e : 0 ≤ x ∧ x ≤ 23
  · rw [if_pos e] at h1
    have k96 : ∀ j, m2 (muBegin μ) 74 1 x 96 j = μ 96 j := fun j => by rw [m2_ne (by decide), muBegin_ne (by decide) (by decide) (by decide) (by decide) n2 n3]
    have h2 := sX10_hour x b (m2 (muBegin μ) 74 1 x) (by rw [k96, n1]; exact n2) (by rw [k96, n1]; exact n3) (by rw [k96, c1]; exact c2) (by rw [k96, c1]; exact c3) d (by omega)
    have k133 : m2 (muBegin μ) 74 1 x 133 = μ 133 := by rw [m2_ne (by decide), muBegin_ne (by decide) (by decide) (by decide) (by decide) n2 n3]
    rw [if_pos e, k133, g1] at h2
    have k74 : muBegin μ 74 = μ 74 := muBegin_ne (by decide) (by decide) (by decide) (by decide) n2 n3
    refine ⟨_, _, _, h1, h2, R_act hR (fun a a1 a2 => m2_ne a1) (fun j hj => by rw [m2_ne (by decide), muBegin_ne (by decide) (by decide) (by decide) (by decide) n2 n3]) (fun a a1 a2 => m2_ne a1) (fun j hj => by rw [m2_ne (by decide)]) ?_ ?_ ?_⟩
    · have q4 := hR.2.2.2.1.2.2.2.1
      rw [m2_ne (by decide), muKeeps_96.2.2 60 (by decide) (by decide), k96, m2_ne (by decide), muBegin_ne (by decide) (by decide) (by decide) (by decide) n2 n3]
      exact q4
    · have hm : muKeeps (m2 (muBegin μ) 74 1 x) 133 = μ 133 := by rw [muKeeps_ne (by decide) (by decide), k133]
      obtain ⟨q1, q2⟩ := hR.2.1.1
      refine ⟨fun i i0 i1 => ?_, fun p p0 p1 => ?_⟩
      · rw [m2_at, m2_at, hm, k74]
        split
        · rfl
        · exact q1 i i0 i1
      · rw [m2_at, m2_at, m2_at, m2_at, m2_at, m2_at, m2_at, m2_at, hm, k74, if_neg (by omega), if_neg (by omega), if_neg (by omega), if_neg (by omega), if_neg (by omega), if_neg (by omega), if_neg (by omega), if_neg (by omega)]; exact q2 p p0 p1
    · obtain ⟨⟨a1, a2, a3, a4⟩, o2, o3, o4, o5, o6, o7, o8, o9, o10, o11⟩ := hR.2.1.2
      have hk : ∀ i, i ≠ 1 → m2 (muBegin μ) 74 1 x 74 i = μ 74 i := fun i hi => by rw [m2_at, if_neg hi, k74]
      have hC := Rcnt_C hR.1.1
      have hk1 : m2 (muBegin μ) 74 1 x 74 1 = x := by rw [m2_at, if_pos rfl]
      generalize m2 (muBegin μ) 74 1 x 74 = f' at hk hk1
      refine ⟨⟨?_, ?_, fun m m0 m1 => ?_, fun p p0 p1 => ?_⟩, fun g g0 g1' => ?_, fun g h g0 g1' h0 h1' hh => ?_, fun m => ?_, fun g g0 g1' => ?_, fun m m0 m1 => ?_, fun m m0 m1 => ?_, fun p p0 p1 => ?_, fun p p0 p1 => ?_, fun p p0 p1 => ?_, ?_⟩
      · rw [hk 0 (by decide)]; exact a1
      · rw [hk1]; exact e
      · rw [hk _ (by omega)]; exact a3 m m0 m1
      · rw [hk _ (by omega)]; exact a4 p p0 p1
      · rw [hk _ (by omega)]; exact o2 g g0 g1'
      · rw [hk _ (by omega), hk _ (by omega)] at hh; exact o3 g h g0 g1' h0 h1' hh
      · rw [← o4 m]
        constructor
        · rintro ⟨y, y0, y1, y2⟩; exact ⟨y, y0, y1, by rw [← hk _ (by omega)]; exact y2⟩
        · rintro ⟨y, y0, y1, y2⟩; exact ⟨y, y0, y1, by rw [hk _ (by omega)]; exact y2⟩
      · rw [hk _ (by omega)]; exact o5 g g0 g1'
      · rw [hk _ (by omega)]; exact o6 m m0 m1
      · rw [hk _ (by omega), hk _ (by omega)]; exact o7 m m0 m1
      · rw [hk _ (by omega), hk _ (by omega), hk _ (by omega)]; exact o8 p p0 p1
      · rw [hk _ (by omega)]; exact o9 p p0 p1
      · rw [hk _ (by omega), hk _ (by omega), hk _ (by omega), hk _ (by omega)]; exact o10 p p0 p1
      · rw [sumN_congr 6 (fun i i0 i1 => hk (50 + i) (by omega)), sumN_congr 12 (fun i i0 i1 => hk (26 + i) (by omega))]; exact o11
  · rw [if_neg e] at h1
    have h2 := sX10_hour x b μ (by rw [n1]; exact n2) (by rw [n1]; exact n3) (by rw [c1]; exact c2) (by rw [c1]; exact c3) d (by omega)
    rw [if_neg e] at h2
    exact ⟨_, _, _, h1, h2, hR⟩
