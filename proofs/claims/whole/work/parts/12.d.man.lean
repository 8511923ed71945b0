theorem q_man (b : Bool) (μ : Nat → Int → Int) (m w : Int) (hc : Rcnt b μ) (ht : Rtir b μ) (hr : Rrow (μ 74) (μ 133)) : ∀ d, 4 ≤ d → Alike d b μ 240 82 [mI m, mI w] := deepA fun d hd => by
  obtain ⟨-, ⟨hc1, hc2, hc3⟩, ⟨hg1, hg2, hg3⟩, ⟨hp1, hp2, hp3⟩⟩ := hc
  have hM := sX10_isMan m b μ (by omega) (by omega) d (by omega)
  have hC := sX9_isMan m b μ d (by omega)
  by_cases e : 0 ≤ m ∧ m < μ (tw b + 1) 1
  · rw [t01_pos (by omega)] at hM hC
    have n0 : ¬ ((1 : Int) = 0) := by decide
    obtain ⟨t0, -, -⟩ := ht m e.1 e.2
    have r14 := hr.1 (14 + m) (by omega) (by omega)
    have r26 := hr.1 (26 + m) (by omega) (by omega)
    have e14 : w32 (14 + m) = 14 + m := w32_id (by omega) (by omega)
    have e26 : w32 (26 + m) = 26 + m := w32_id (by omega) (by omega)
    have e12 : w32 (12 + m) = 12 + m := w32_id (by omega) (by omega)
    by_cases w0 : w = 0
    · have h1 := sX9_gateOf m b μ hg2 hg3 d (by omega)
      have h2 := sX10_gateOf m b μ (by omega) (by omega) d (by omega)
      rw [hg1, fFirst_congr (g := fun i => μ 74 (2 + i)) _ _ (fun j j1 j2 => hr.1 (2 + j) (by omega) (by omega))] at h2
      refine ⟨fFirst (fun i => μ 74 (2 + i)) m (μ (tw b + 1) 2).toNat 0, call_X9_man d b μ m w ⟨5, ?_⟩, call_X10_man d b μ m w ⟨5, ?_⟩⟩
      · rw [tX9_man_0, hC, mOptR_some, mBr_neg n0, if_pos w0, h1, mOptR_some]
      · rw [tX10_man_0, hM, mOptR_some, mBr_neg n0, if_pos w0, h2, mOptR_some]
    by_cases w1 : w = 1
    · refine ⟨μ (tw b + 7) m, call_X9_man d b μ m w ⟨5, ?_⟩, call_X10_man d b μ m w ⟨5, ?_⟩⟩
      · rw [tX9_man_0, hC, mOptR_some, mBr_neg n0, if_neg w0, if_pos w1, if_pos (by omega)]
      · rw [tX10_man_0, hM, mOptR_some, mBr_neg n0, if_neg w0, if_pos w1, e12, if_pos (by omega)]; exact congrArg (fun x => some (x, SH, μ, RHO b)) t0
    by_cases w2 : w = 2
    · refine ⟨μ 74 (14 + m), call_X9_man d b μ m w ⟨5, ?_⟩, call_X10_man d b μ m w ⟨5, ?_⟩⟩
      · rw [tX9_man_0, hC, mOptR_some, mBr_neg n0, if_neg w0, if_neg w1, if_pos w2, e14, if_pos (by omega)]
      · rw [tX10_man_0, hM, mOptR_some, mBr_neg n0, if_neg w0, if_neg w1, if_pos w2, e14, if_pos (by omega)]; exact congrArg (fun x => some (x, SH, μ, RHO b)) r14
    by_cases w3 : w = 3
    · have h1 := sX7_hasFainted b 74 m b μ rfl e.1 (by omega) d (by omega)
      have h2 := sX10_hasFainted m b μ e.1 (by omega) d (by omega)
      rw [t0, r14] at h2
      by_cases q : μ (tw b + 7) m ≤ μ 74 (14 + m)
      · rw [t01_pos q] at h1 h2
        refine ⟨1, call_X9_man d b μ m w ⟨5, ?_⟩, call_X10_man d b μ m w ⟨5, ?_⟩⟩
        · rw [tX9_man_0, hC, mOptR_some, mBr_neg n0, if_neg w0, if_neg w1, if_neg w2, if_pos w3, h1, mOptR_some, mBr_neg n0, tX9_man_94]
        · rw [tX10_man_0, hM, mOptR_some, mBr_neg n0, if_neg w0, if_neg w1, if_neg w2, if_pos w3, h2, mOptR_some, mBr_neg n0, tX10_man_87]
      · rw [t01_neg q] at h1 h2
        refine ⟨0, call_X9_man d b μ m w ⟨5, ?_⟩, call_X10_man d b μ m w ⟨5, ?_⟩⟩
        · rw [tX9_man_0, hC, mOptR_some, mBr_neg n0, if_neg w0, if_neg w1, if_neg w2, if_pos w3, h1, mOptR_some, mBr_pos rfl, tX9_man_94]
        · rw [tX10_man_0, hM, mOptR_some, mBr_neg n0, if_neg w0, if_neg w1, if_neg w2, if_pos w3, h2, mOptR_some, mBr_pos rfl, tX10_man_87]
    by_cases w4 : w = 4
    · refine ⟨μ 74 (26 + m), call_X9_man d b μ m w ⟨5, ?_⟩, call_X10_man d b μ m w ⟨5, ?_⟩⟩
      · rw [tX9_man_0, hC, mOptR_some, mBr_neg n0, if_neg w0, if_neg w1, if_neg w2, if_neg w3, if_pos w4, e26, if_pos (by omega)]
      · rw [tX10_man_0, hM, mOptR_some, mBr_neg n0, if_neg w0, if_neg w1, if_neg w2, if_neg w3, if_pos w4, e26, if_pos (by omega)]; exact congrArg (fun x => some (x, SH, μ, RHO b)) r26
    by_cases w5 : w = 5
    · have h1 := sX9_friendsOf m b μ hp2 hp3 d (by omega)
      have h2 := sX10_friendsOf m b μ (by omega) (by omega) d (by omega)
      rw [hp1, wSum_congr (g := fun p => t01 (iAnd (iShr (μ 74 (56 + p)) m) 1 = 1)) _ _ _ (fun j j1 j2 => by show t01 (iAnd (iShr (μ 133 (38 + 4 * j + 3)) m) 1 = 1) = _; rw [(hr.2 j (by omega) (by omega)).2.2.2])] at h2
      refine ⟨wSum (fun p => t01 (iAnd (iShr (μ 74 (56 + p)) m) 1 = 1)) (μ (tw b + 1) 3).toNat 0 0, call_X9_man d b μ m w ⟨5, ?_⟩, call_X10_man d b μ m w ⟨5, ?_⟩⟩
      · rw [tX9_man_0, hC, mOptR_some, mBr_neg n0, if_neg w0, if_neg w1, if_neg w2, if_neg w3, if_neg w4, if_pos w5, h1, mOptR_some]
      · rw [tX10_man_0, hM, mOptR_some, mBr_neg n0, if_neg w0, if_neg w1, if_neg w2, if_neg w3, if_neg w4, if_pos w5, h2, mOptR_some]
    refine ⟨-1, call_X9_man d b μ m w ⟨5, ?_⟩, call_X10_man d b μ m w ⟨5, ?_⟩⟩
    · rw [tX9_man_0, hC, mOptR_some, mBr_neg n0, if_neg w0, if_neg w1, if_neg w2, if_neg w3, if_neg w4, if_neg w5]
    · rw [tX10_man_0, hM, mOptR_some, mBr_neg n0, if_neg w0, if_neg w1, if_neg w2, if_neg w3, if_neg w4, if_neg w5]
  · rw [t01_neg (by omega)] at hM hC
    refine ⟨-1, call_X9_man d b μ m w ⟨5, ?_⟩, call_X10_man d b μ m w ⟨5, ?_⟩⟩
    · rw [tX9_man_0, hC, mOptR_some, mBr_pos rfl]
    · rw [tX10_man_0, hM, mOptR_some, mBr_pos rfl]
