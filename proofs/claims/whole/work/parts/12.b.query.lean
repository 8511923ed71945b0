theorem q_octet (b : Bool) (μ : Nat → Int → Int) (p0 : Int) (h1 : μ 96 71 = μ 72 1) (h2 : μ 72 1 ≤ 88) (h3 : ∀ i, 0 ≤ i → i < μ 72 1 → μ 143 i = μ 73 i) : ∀ d, 2 ≤ d → Alike d b μ 242 94 [mI p0] := deepA fun d hd => by
  by_cases e : 0 ≤ p0 ∧ p0 < μ 72 1
  · refine ⟨μ 73 p0, call_X9_octet d b μ p0 ⟨5, ?_⟩, call_X10_octet d b μ p0 ⟨5, ?_⟩⟩
    · simp only [tX9_octet_0, sX9_within _ _ _ _ d hd, mOptR_some, t01_pos e]
      rw [mBr_neg (by decide), if_pos (by omega), tX9_octet_27]
    · rw [tX10_octet_0, mBr_neg (by omega), mBr_pos (by omega), if_pos (by omega), tX10_octet_22, h3 p0 e.1 e.2]
  · refine ⟨-1, call_X9_octet d b μ p0 ⟨5, ?_⟩, call_X10_octet d b μ p0 ⟨5, ?_⟩⟩
    · simp only [tX9_octet_0, sX9_within _ _ _ _ d hd, mOptR_some, t01_neg e]
      rw [mBr_pos (by decide), tX9_octet_27]
    · rw [tX10_octet_0]
      by_cases e1 : p0 < 0
      · rw [mBr_pos e1, tX10_octet_21, tX10_octet_22]
      · rw [mBr_neg e1, mBr_neg (by omega), tX10_octet_21, tX10_octet_22]
theorem q_gate (b : Bool) (μ : Nat → Int → Int) (g w : Int) (hc : Rcnt b μ) (hg : Rgat b μ) (hr : Rrow (μ 74) (μ 133)) : ∀ d, 3 ≤ d → Alike d b μ 227 46 [mI g, mI w] := deepA fun d hd => by
  obtain ⟨-, -, ⟨hc1, hc2, hc3⟩, -⟩ := hc
  have hM := sX10_isGate g b μ (by omega) (by omega) d hd
  have hC := sX9_isGate g b μ d hd
  by_cases e : 0 ≤ g ∧ g < μ (tw b + 1) 2
  · obtain ⟨⟨g1, g2, g3⟩, -⟩ := hg g e.1 e.2
    rw [t01_pos (by omega)] at hM hC
    by_cases w0 : w = 0
    · refine ⟨μ (tw b + 8) g, call_X9_gate d b μ g w ⟨5, ?_⟩, call_X10_gate d b μ g w ⟨5, ?_⟩⟩
      · rw [tX9_gate_0, hC, mOptR_some, mBr_neg (by show ¬ ((1 : Int) = 0); decide), if_pos w0, if_pos (by omega)]
      · rw [tX10_gate_0, hM, mOptR_some, mBr_neg (by show ¬ ((1 : Int) = 0); decide), if_pos w0]
        simp only [sX10_firstRoom g b μ (by omega) (by omega) d (by omega), mOptR_some, g1]
    · by_cases w1 : w = 1
      · refine ⟨μ (tw b + 9) g, call_X9_gate d b μ g w ⟨5, ?_⟩, call_X10_gate d b μ g w ⟨5, ?_⟩⟩
        · rw [tX9_gate_0, hC, mOptR_some, mBr_neg (by show ¬ ((1 : Int) = 0); decide), if_neg w0, if_pos w1, if_pos (by omega)]
        · rw [tX10_gate_0, hM, mOptR_some, mBr_neg (by show ¬ ((1 : Int) = 0); decide), if_neg w0, if_pos w1]
          simp only [sX10_otherRoom g b μ (by omega) (by omega) d (by omega), mOptR_some, g2]
      · by_cases w2 : w = 2
        · refine ⟨μ 74 (2 + g), call_X9_gate d b μ g w ⟨5, ?_⟩, call_X10_gate d b μ g w ⟨5, ?_⟩⟩
          · rw [tX9_gate_0, hC, mOptR_some, mBr_neg (by show ¬ ((1 : Int) = 0); decide), if_neg w0, if_neg w1, if_pos w2, w32_id (by omega) (by omega), if_pos (by omega)]
          · rw [tX10_gate_0, hM, mOptR_some, mBr_neg (by show ¬ ((1 : Int) = 0); decide), if_neg w0, if_neg w1, if_pos w2]
            simp only [sX10_manAt g b μ (by omega) (by omega) d (by omega), mOptR_some, hr.1 (2 + g) (by omega) (by omega)]
        · refine ⟨-1, call_X9_gate d b μ g w ⟨5, ?_⟩, call_X10_gate d b μ g w ⟨5, ?_⟩⟩
          · rw [tX9_gate_0, hC, mOptR_some, mBr_neg (by show ¬ ((1 : Int) = 0); decide), if_neg w0, if_neg w1, if_neg w2]
          · rw [tX10_gate_0, hM, mOptR_some, mBr_neg (by show ¬ ((1 : Int) = 0); decide), if_neg w0, if_neg w1, if_neg w2]
  · rw [t01_neg (by omega)] at hM hC
    refine ⟨-1, call_X9_gate d b μ g w ⟨5, ?_⟩, call_X10_gate d b μ g w ⟨5, ?_⟩⟩
    · rw [tX9_gate_0, hC, mOptR_some, mBr_pos rfl]
    · rw [tX10_gate_0, hM, mOptR_some, mBr_pos rfl]
theorem q_person (b : Bool) (μ : Nat → Int → Int) (p w : Int) (hc : Rcnt b μ) (ht : Rtac b μ) (hr : Rrow (μ 74) (μ 133)) : ∀ d, 3 ≤ d → Alike d b μ 246 101 [mI p, mI w] := deepA fun d hd => by
  obtain ⟨-, -, -, ⟨hc1, hc2, hc3⟩⟩ := hc
  have hM := sX10_isPerson p b μ (by omega) (by omega) d hd
  have hC := sX9_isPerson p b μ d hd
  by_cases e : 0 ≤ p ∧ p < μ (tw b + 1) 3
  · rw [t01_pos (by omega)] at hM hC
    obtain ⟨r0, r1, r2, r3⟩ := hr.2 p e.1 (by omega)
    obtain ⟨t0, -, -⟩ := ht p e.1 e.2
    have n0 : ¬ ((1 : Int) = 0) := by decide
    have hP := fun k h2 h3 => sX10_personOf p k b μ e.1 (by omega) h2 h3 d (by omega)
    by_cases w0 : w = 0
    · refine ⟨μ 74 (38 + p), call_X9_person d b μ p w ⟨5, ?_⟩, call_X10_person d b μ p w ⟨5, ?_⟩⟩
      · rw [tX9_person_0, hC, mOptR_some, mBr_neg n0, if_pos w0, w32_id (by omega) (by omega), if_pos (by omega)]
      · rw [tX10_person_0, hM, mOptR_some, mBr_neg n0, if_pos w0]
        simp only [w0, hP 0 (by decide) (by decide), mOptR_some, r0]
    by_cases w1 : w = 1
    · refine ⟨μ 74 (44 + p), call_X9_person d b μ p w ⟨5, ?_⟩, call_X10_person d b μ p w ⟨5, ?_⟩⟩
      · rw [tX9_person_0, hC, mOptR_some, mBr_neg n0, if_neg w0, if_pos w1, w32_id (x := 44 + p) (by omega) (by omega), if_pos (by omega)]
      · rw [tX10_person_0, hM, mOptR_some, mBr_neg n0, if_neg w0, if_pos w1]
        simp only [w1, hP 1 (by decide) (by decide), mOptR_some, r1]
    by_cases w2 : w = 2
    · refine ⟨μ 74 (50 + p), call_X9_person d b μ p w ⟨5, ?_⟩, call_X10_person d b μ p w ⟨5, ?_⟩⟩
      · rw [tX9_person_0, hC, mOptR_some, mBr_neg n0, if_neg w0, if_neg w1, if_pos w2, w32_id (x := 50 + p) (by omega) (by omega), if_pos (by omega)]
      · rw [tX10_person_0, hM, mOptR_some, mBr_neg n0, if_neg w0, if_neg w1, if_pos w2]
        simp only [w2, hP 2 (by decide) (by decide), mOptR_some, r2]
    by_cases w3 : w = 3
    · refine ⟨μ (tw b + 14) p, call_X9_person d b μ p w ⟨5, ?_⟩, call_X10_person d b μ p w ⟨5, ?_⟩⟩
      · rw [tX9_person_0, hC, mOptR_some, mBr_neg n0, if_neg w0, if_neg w1, if_neg w2, if_pos w3, if_pos (by omega)]
      · rw [tX10_person_0, hM, mOptR_some, mBr_neg n0, if_neg w0, if_neg w1, if_neg w2, if_pos w3, if_pos (by omega)]; exact congrArg (fun x => some (x, SH, μ, RHO b)) t0
    by_cases w4 : w = 4
    · refine ⟨μ 74 (56 + p), call_X9_person d b μ p w ⟨5, ?_⟩, call_X10_person d b μ p w ⟨5, ?_⟩⟩
      · rw [tX9_person_0, hC, mOptR_some, mBr_neg n0, if_neg w0, if_neg w1, if_neg w2, if_neg w3, if_pos w4, w32_id (x := 56 + p) (by omega) (by omega), if_pos (by omega)]
      · rw [tX10_person_0, hM, mOptR_some, mBr_neg n0, if_neg w0, if_neg w1, if_neg w2, if_neg w3, if_pos w4]
        simp only [hP 3 (by decide) (by decide), mOptR_some, r3]
    refine ⟨-1, call_X9_person d b μ p w ⟨5, ?_⟩, call_X10_person d b μ p w ⟨5, ?_⟩⟩
    · rw [tX9_person_0, hC, mOptR_some, mBr_neg n0, if_neg w0, if_neg w1, if_neg w2, if_neg w3, if_neg w4]
    · rw [tX10_person_0, hM, mOptR_some, mBr_neg n0, if_neg w0, if_neg w1, if_neg w2, if_neg w3, if_neg w4]
  · rw [t01_neg (by omega)] at hM hC
    refine ⟨-1, call_X9_person d b μ p w ⟨5, ?_⟩, call_X10_person d b μ p w ⟨5, ?_⟩⟩
    · rw [tX9_person_0, hC, mOptR_some, mBr_pos rfl]
    · rw [tX10_person_0, hM, mOptR_some, mBr_pos rfl]
