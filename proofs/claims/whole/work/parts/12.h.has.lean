theorem eX9_friendships {d : Nat} (hd : 1 ≤ d) {b : Bool} {μ : Nat → Int → Int} (hn : μ (tw b + 1) 3 ≤ 6) : ∀ (k : Nat) (i acc : Int), 0 ≤ i → i + k = μ (tw b + 1) 3 → mEv (mCallN d) kX9_friendships 4 [some (mP 0), some (mI acc), some (mI i)] [] (SH, μ, RHO b) (wSum (fun p => bcAll (μ 74 (56 + p))) k i acc, SH, μ, RHO b) := by
  intro k
  induction k with
  | zero => intro i acc h0 hk; exact ⟨1, by rw [tX9_friendships_4, mBr_neg (by omega)]; rfl⟩
  | succ k ih =>
    intro i acc h0 hk
    have e2 : w32 (i + 1) = i + 1 := w32_id (by omega) (by omega)
    have e56 : w32 (56 + i) = 56 + i := w32_id (by omega) (by omega)
    have hA := sJ6_bitCount (μ 74 (56 + i)) b μ d hd
    rw [wSum]
    obtain ⟨f, hf⟩ := ih (i + 1) (w32 (acc + bcAll (μ 74 (56 + i)))) (by omega) (by omega)
    refine ⟨f + 1, ?_⟩
    rw [tX9_friendships_4, mBr_pos (by omega), e56, if_pos (by omega), hA, mOptR_some, e2]; exact hf
theorem sX9_friendships (b : Bool) (μ : Nat → Int → Int) (h0 : 0 ≤ μ (tw b + 1) 3) (hn : μ (tw b + 1) 3 ≤ 6) : ∀ d, 2 ≤ d → mCallN d 226 [mP 0] (SH, μ, RHO b) = some (wSum (fun p => bcAll (μ 74 (56 + p))) (μ (tw b + 1) 3).toNat 0 0, SH, μ, RHO b) := deep fun d hd => by
  refine call_X9_friendships d b μ ?_
  obtain ⟨f, hf⟩ := eX9_friendships hd (b := b) (μ := μ) hn (μ (tw b + 1) 3).toNat 0 0 (by omega) (by omega)
  exact ⟨f + 1, by rw [tX9_friendships_0]; exact hf⟩
theorem q_has (b : Bool) (μ : Nat → Int → Int) (w : Int) (hc : Rcnt b μ) (ht : Rtir b μ) (hr : Rrow (μ 74) (μ 133)) (hu : μ 96 58 = μ 50 2) (hF : ∀ p, 0 ≤ p → p < μ (tw b + 1) 3 → 0 ≤ μ 74 (56 + p) ∧ μ 74 (56 + p) < 4096) : ∀ d, 3 ≤ d → Alike d b μ 230 53 [mI w] := deepA fun d hd => by
  obtain ⟨⟨ha1, ha2, ha3⟩, ⟨hc1, hc2, hc3⟩, ⟨hg1, hg2, hg3⟩, ⟨hp1, hp2, hp3⟩⟩ := hc
  have hM := fun w => sX10_countOf w b μ (by omega) (by omega) (by omega) (by omega) (fun p p0 p1 => by rw [(hr.2 p p0 (by omega)).2.2.2]; exact hF p p0 (by omega)) d hd
  have hsA : ∀ w : Int, (w = 7 ∨ w = 9) → wSum (cntA μ w) (μ 120 5).toNat 0 0 = 0 := fun w hw => wSum_zero _ _ _ (fun j _ _ => by rw [cntA, if_neg (by omega), if_neg (by omega)]) w32_0
  have hsB : ∀ w x : Int, (w = 6 ∨ w = 8) → w32 x = x → wSum (cntB μ w) (μ 120 6).toNat 0 x = x := fun w x hw hx => wSum_zero _ _ _ (fun j _ _ => by rw [cntB, if_neg (by omega), if_neg (by omega)]) hx
  have n0 : ∀ x : Int, 0 ≤ x ∧ x < 4 → True := fun _ _ => trivial
  by_cases w0 : w = 0
  · refine ⟨μ (tw b + 1) 0, call_X9_has d b μ w ⟨5, ?_⟩, call_X10_has d b μ w ⟨5, ?_⟩⟩
    · rw [tX9_has_0, if_pos w0, if_pos (by omega), w0]
    · rw [tX10_has_0, if_pos w0, sX10_roomMany b μ d (by omega), mOptR_some, ha1]
  by_cases w1 : w = 1
  · refine ⟨μ (tw b + 1) 1, call_X9_has d b μ w ⟨5, ?_⟩, call_X10_has d b μ w ⟨5, ?_⟩⟩
    · rw [tX9_has_0, if_neg w0, if_pos w1, if_pos (by omega), w1]
    · rw [tX10_has_0, if_neg w0, if_pos w1, sX10_manMany b μ d (by omega), mOptR_some, hc1]
  by_cases w2 : w = 2
  · refine ⟨μ (tw b + 1) 2, call_X9_has d b μ w ⟨5, ?_⟩, call_X10_has d b μ w ⟨5, ?_⟩⟩
    · rw [tX9_has_0, if_neg w0, if_neg w1, if_pos w2, if_pos (by omega), w2]
    · rw [tX10_has_0, if_neg w0, if_neg w1, if_pos w2, sX10_gateMany b μ d (by omega), mOptR_some, hg1]
  by_cases w3 : w = 3
  · refine ⟨μ (tw b + 1) 3, call_X9_has d b μ w ⟨5, ?_⟩, call_X10_has d b μ w ⟨5, ?_⟩⟩
    · rw [tX9_has_0, if_neg w0, if_neg w1, if_neg w2, if_pos w3, if_pos (by omega), w3]
    · rw [tX10_has_0, if_neg w0, if_neg w1, if_neg w2, if_pos w3, sX10_personMany b μ d (by omega), mOptR_some, hp1]
  by_cases w4 : w = 4
  · refine ⟨μ 74 1, call_X9_has d b μ w ⟨5, ?_⟩, call_X10_has d b μ w ⟨5, ?_⟩⟩
    · rw [tX9_has_0, if_neg w0, if_neg w1, if_neg w2, if_neg w3, if_pos w4]
    · rw [tX10_has_0, if_neg w0, if_neg w1, if_neg w2, if_neg w3, if_pos w4, hr.1 1 (by decide) (by decide)]
  by_cases w5 : w = 5
  · refine ⟨μ 74 0, call_X9_has d b μ w ⟨5, ?_⟩, call_X10_has d b μ w ⟨5, ?_⟩⟩
    · rw [tX9_has_0, if_neg w0, if_neg w1, if_neg w2, if_neg w3, if_neg w4, if_pos w5]
    · rw [tX10_has_0, if_neg w0, if_neg w1, if_neg w2, if_neg w3, if_neg w4, if_pos w5, hr.1 0 (by decide) (by decide)]
  by_cases w6 : w = 6
  · have h1 := sX9_faintedMen b μ hc2 hc3 d (by omega)
    have h2 := hM w
    rw [hsB w _ (by omega) (wSum_w32 _ _ _ _ w32_0), hc1, wSum_congr (g := fun m => t01 (μ (tw b + 7) m ≤ μ 74 (14 + m))) _ _ _ (fun j j1 j2 => by rw [cntA, if_pos w6, (ht j j1 (by omega)).1, hr.1 (14 + j) (by omega) (by omega)])] at h2
    refine ⟨wSum (fun m => t01 (μ (tw b + 7) m ≤ μ 74 (14 + m))) (μ (tw b + 1) 1).toNat 0 0, call_X9_has d b μ w ⟨5, ?_⟩, call_X10_has d b μ w ⟨5, ?_⟩⟩
    · rw [tX9_has_0, if_neg w0, if_neg w1, if_neg w2, if_neg w3, if_neg w4, if_neg w5, if_pos w6, h1, mOptR_some]
    · rw [tX10_has_0, if_neg w0, if_neg w1, if_neg w2, if_neg w3, if_neg w4, if_neg w5, if_pos w6, h2, mOptR_some]
  by_cases w7 : w = 7
  · have h1 := sX9_sumOf 74 62 50 (μ (tw b + 1) 3) b μ rfl (by decide) hp2 (by omega) (by decide) d (by omega)
    have h2 := hM w
    rw [hsA w (by omega), hp1, wSum_congr (g := fun p => μ 74 (50 + p)) _ _ _ (fun j j1 j2 => by rw [cntB, if_pos w7, (hr.2 j j1 (by omega)).2.2.1])] at h2
    refine ⟨wSum (fun p => μ 74 (50 + p)) (μ (tw b + 1) 3).toNat 0 0, call_X9_has d b μ w ⟨5, ?_⟩, call_X10_has d b μ w ⟨5, ?_⟩⟩
    · rw [tX9_has_0, if_neg w0, if_neg w1, if_neg w2, if_neg w3, if_neg w4, if_neg w5, if_neg w6, if_pos w7, h1, mOptR_some]
    · rw [tX10_has_0, if_neg w0, if_neg w1, if_neg w2, if_neg w3, if_neg w4, if_neg w5, if_neg w6, if_pos w7, h2, mOptR_some]
  by_cases w8 : w = 8
  · have h1 := sX9_sumOf 74 62 26 (μ (tw b + 1) 1) b μ rfl (by decide) hc2 (by omega) (by decide) d (by omega)
    have h2 := hM w
    rw [hsB w _ (by omega) (wSum_w32 _ _ _ _ w32_0), hc1, wSum_congr (g := fun p => μ 74 (26 + p)) _ _ _ (fun j j1 j2 => by rw [cntA, if_neg w6, if_pos w8, hr.1 (26 + j) (by omega) (by omega)])] at h2
    refine ⟨wSum (fun p => μ 74 (26 + p)) (μ (tw b + 1) 1).toNat 0 0, call_X9_has d b μ w ⟨5, ?_⟩, call_X10_has d b μ w ⟨5, ?_⟩⟩
    · rw [tX9_has_0, if_neg w0, if_neg w1, if_neg w2, if_neg w3, if_neg w4, if_neg w5, if_neg w6, if_neg w7, if_pos w8, h1, mOptR_some]
    · rw [tX10_has_0, if_neg w0, if_neg w1, if_neg w2, if_neg w3, if_neg w4, if_neg w5, if_neg w6, if_neg w7, if_pos w8, h2, mOptR_some]
  by_cases w9 : w = 9
  · have h1 := sX9_friendships b μ hp2 hp3 d (by omega)
    have h2 := hM w
    rw [hsA w (by omega), hp1, wSum_congr (g := fun p => bcAll (μ 74 (56 + p))) _ _ _ (fun j j1 j2 => by rw [cntB, if_neg w7, if_pos w9, (hr.2 j j1 (by omega)).2.2.2])] at h2
    refine ⟨wSum (fun p => bcAll (μ 74 (56 + p))) (μ (tw b + 1) 3).toNat 0 0, call_X9_has d b μ w ⟨5, ?_⟩, call_X10_has d b μ w ⟨5, ?_⟩⟩
    · rw [tX9_has_0, if_neg w0, if_neg w1, if_neg w2, if_neg w3, if_neg w4, if_neg w5, if_neg w6, if_neg w7, if_neg w8, if_pos w9, h1, mOptR_some]
    · rw [tX10_has_0, if_neg w0, if_neg w1, if_neg w2, if_neg w3, if_neg w4, if_neg w5, if_neg w6, if_neg w7, if_neg w8, if_pos w9, h2, mOptR_some]
  by_cases w10 : w = 10
  · refine ⟨μ 50 2, call_X9_has d b μ w ⟨5, ?_⟩, call_X10_has d b μ w ⟨5, ?_⟩⟩
    · rw [tX9_has_0, if_neg w0, if_neg w1, if_neg w2, if_neg w3, if_neg w4, if_neg w5, if_neg w6, if_neg w7, if_neg w8, if_neg w9, if_pos w10]
    · rw [tX10_has_0, if_neg w0, if_neg w1, if_neg w2, if_neg w3, if_neg w4, if_neg w5, if_neg w6, if_neg w7, if_neg w8, if_neg w9, if_pos w10, hu]
  refine ⟨-1, call_X9_has d b μ w ⟨5, ?_⟩, call_X10_has d b μ w ⟨5, ?_⟩⟩
  · rw [tX9_has_0, if_neg w0, if_neg w1, if_neg w2, if_neg w3, if_neg w4, if_neg w5, if_neg w6, if_neg w7, if_neg w8, if_neg w9, if_neg w10]
  · rw [tX10_has_0, if_neg w0, if_neg w1, if_neg w2, if_neg w3, if_neg w4, if_neg w5, if_neg w6, if_neg w7, if_neg w8, if_neg w9, if_neg w10]
