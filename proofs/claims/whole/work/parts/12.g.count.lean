def cntA (μ : Nat → Int → Int) (w m : Int) : Int := if w = 6 then t01 (μ 122 (12 + m) ≤ μ 133 (14 + m)) else if w = 8 then μ 133 (26 + m) else 0
def cntB (μ : Nat → Int → Int) (w p : Int) : Int := if w = 7 then μ 133 (38 + 4 * p + 2) else if w = 9 then bcAll (μ 133 (38 + 4 * p + 3)) else 0
theorem eX10_countA {d : Nat} (hd : 1 ≤ d) {b : Bool} {μ : Nat → Int → Int} {w : Int} {r : Int × mMem} (hn : μ 120 5 ≤ 12) : ∀ (k : Nat) (i acc : Int), 0 ≤ i → i + k = μ 120 5 → w32 acc = acc → mEv (mCallN d) kX10_countOf 55 [some (mP 96), some (mI w), some (mI (wSum (cntA μ w) k i acc)), some (mI 0)] [] (SH, μ, RHO b) r → mEv (mCallN d) kX10_countOf 4 [some (mP 96), some (mI w), some (mI acc), some (mI i)] [] (SH, μ, RHO b) r := by
  intro k
  induction k with
  | zero =>
    intro i acc h0 hk ha hE
    obtain ⟨f, hf⟩ := hE
    exact ⟨f + 1, by rw [tX10_countOf_4, sX10_manMany b μ d hd, mOptR_some, mBr_neg (by show ¬ (i < μ 120 5); omega)]; exact hf⟩
  | succ k ih =>
    intro i acc h0 hk ha hE
    have e2 : w32 (i + 1) = i + 1 := w32_id (by omega) (by omega)
    have e26 : w32 (26 + i) = 26 + i := w32_id (by omega) (by omega)
    have hA := sX10_hasFainted i b μ h0 (by omega) d hd
    rw [wSum] at hE
    by_cases w6 : w = 6
    · have w8 : ¬ w = 8 := by omega
      rw [show cntA μ w i = t01 (μ 122 (12 + i) ≤ μ 133 (14 + i)) from if_pos w6] at hE
      by_cases e : μ 122 (12 + i) ≤ μ 133 (14 + i)
      · rw [t01_pos e] at hA hE
        obtain ⟨f, hf⟩ := ih (i + 1) (w32 (acc + 1)) (by omega) (by omega) (w32_w32 _) hE
        refine ⟨f + 3, ?_⟩
        rw [tX10_countOf_4, sX10_manMany b μ d hd, mOptR_some, mBr_pos (by show i < μ 120 5; omega), mBr_pos w6, hA, mOptR_some, mBr_neg (by show ¬ ((1 : Int) = 0); decide), tX10_countOf_29, mBr_neg w8, tX10_countOf_47, e2]; exact hf
      · rw [t01_neg e] at hA hE
        rw [Int.add_zero, ha] at hE
        obtain ⟨f, hf⟩ := ih (i + 1) acc (by omega) (by omega) ha hE
        refine ⟨f + 3, ?_⟩
        rw [tX10_countOf_4, sX10_manMany b μ d hd, mOptR_some, mBr_pos (by show i < μ 120 5; omega), mBr_pos w6, hA, mOptR_some, mBr_pos (by show ((0 : Int) = 0); rfl), tX10_countOf_29, mBr_neg w8, tX10_countOf_47, e2]; exact hf
    · by_cases w8 : w = 8
      · rw [show cntA μ w i = μ 133 (26 + i) from (if_neg w6).trans (if_pos w8)] at hE
        obtain ⟨f, hf⟩ := ih (i + 1) (w32 (acc + μ 133 (26 + i))) (by omega) (by omega) (w32_w32 _) hE
        refine ⟨f + 3, ?_⟩
        rw [tX10_countOf_4, sX10_manMany b μ d hd, mOptR_some, mBr_pos (by show i < μ 120 5; omega), mBr_neg w6, tX10_countOf_29, mBr_pos w8, e26, if_pos (by omega), tX10_countOf_47, e2]; exact hf
      · rw [show cntA μ w i = 0 from (if_neg w6).trans (if_neg w8), Int.add_zero, ha] at hE
        obtain ⟨f, hf⟩ := ih (i + 1) acc (by omega) (by omega) ha hE
        refine ⟨f + 3, ?_⟩
        rw [tX10_countOf_4, sX10_manMany b μ d hd, mOptR_some, mBr_pos (by show i < μ 120 5; omega), mBr_neg w6, tX10_countOf_29, mBr_neg w8, tX10_countOf_47, e2]; exact hf
theorem eX10_countB {d : Nat} (hd : 1 ≤ d) {b : Bool} {μ : Nat → Int → Int} {w : Int} (hn : μ 120 6 ≤ 6) (hF : ∀ p, 0 ≤ p → p < μ 120 6 → 0 ≤ μ 133 (38 + 4 * p + 3) ∧ μ 133 (38 + 4 * p + 3) < 4096) : ∀ (k : Nat) (i acc : Int), 0 ≤ i → i + k = μ 120 6 → w32 acc = acc → mEv (mCallN d) kX10_countOf 55 [some (mP 96), some (mI w), some (mI acc), some (mI i)] [] (SH, μ, RHO b) (wSum (cntB μ w) k i acc, SH, μ, RHO b) := by
  intro k
  induction k with
  | zero =>
    intro i acc h0 hk ha
    exact ⟨1, by rw [tX10_countOf_55, sX10_personMany b μ d hd, mOptR_some, mBr_neg (by show ¬ (i < μ 120 6); omega)]; rfl⟩
  | succ k ih =>
    intro i acc h0 hk ha
    have e2 : w32 (i + 1) = i + 1 := w32_id (by omega) (by omega)
    have hP2 := sX10_personOf i 2 b μ h0 (by omega) (by decide) (by decide) d hd
    have hP3 := sX10_personOf i 3 b μ h0 (by omega) (by decide) (by decide) d hd
    obtain ⟨f1, f2⟩ := hF i h0 (by omega)
    have hB := sX10_bits (μ 133 (38 + 4 * i + 3)) b μ f1 f2 d hd
    rw [wSum]
    by_cases w7 : w = 7
    · have w9 : ¬ w = 9 := by omega
      rw [show cntB μ w i = μ 133 (38 + 4 * i + 2) from if_pos w7]
      obtain ⟨f, hf⟩ := ih (i + 1) (w32 (acc + μ 133 (38 + 4 * i + 2))) (by omega) (by omega) (w32_w32 _)
      refine ⟨f + 3, ?_⟩
      rw [tX10_countOf_55, sX10_personMany b μ d hd, mOptR_some, mBr_pos (by show i < μ 120 6; omega), mBr_pos w7, hP2, mOptR_some, tX10_countOf_78, mBr_neg w9, tX10_countOf_96, e2]; exact hf
    · by_cases w9 : w = 9
      · rw [show cntB μ w i = bcAll (μ 133 (38 + 4 * i + 3)) from (if_neg w7).trans (if_pos w9)]
        obtain ⟨f, hf⟩ := ih (i + 1) (w32 (acc + bcAll (μ 133 (38 + 4 * i + 3)))) (by omega) (by omega) (w32_w32 _)
        refine ⟨f + 3, ?_⟩
        rw [tX10_countOf_55, sX10_personMany b μ d hd, mOptR_some, mBr_pos (by show i < μ 120 6; omega), mBr_neg w7, tX10_countOf_78, mBr_pos w9, hP3, mOptR_some, hB, mOptR_some, tX10_countOf_96, e2]; exact hf
      · rw [show cntB μ w i = 0 from (if_neg w7).trans (if_neg w9), Int.add_zero, ha]
        obtain ⟨f, hf⟩ := ih (i + 1) acc (by omega) (by omega) ha
        refine ⟨f + 3, ?_⟩
        rw [tX10_countOf_55, sX10_personMany b μ d hd, mOptR_some, mBr_pos (by show i < μ 120 6; omega), mBr_neg w7, tX10_countOf_78, mBr_neg w9, tX10_countOf_96, e2]; exact hf
theorem wSum_w32 (f : Int → Int) : ∀ (k : Nat) (i acc : Int), w32 acc = acc → w32 (wSum f k i acc) = wSum f k i acc
  | 0, _, _, h => h
  | k + 1, i, acc, _ => wSum_w32 f k (i + 1) (w32 (acc + f i)) (w32_w32 _)
theorem wSum_zero {f : Int → Int} : ∀ (k : Nat) (i acc : Int), (∀ j, i ≤ j → j < i + k → f j = 0) → w32 acc = acc → wSum f k i acc = acc
  | 0, _, _, _, _ => rfl
  | k + 1, i, acc, h, ha => by
    rw [wSum, h i (by omega) (by omega), Int.add_zero, ha]
    exact wSum_zero k (i + 1) acc (fun j h1 h2 => h j (by omega) (by omega)) ha
theorem sX10_countOf (w : Int) (b : Bool) (μ : Nat → Int → Int) (m0 : 0 ≤ μ 120 5) (m1 : μ 120 5 ≤ 12) (n0 : 0 ≤ μ 120 6) (n1 : μ 120 6 ≤ 6) (hF : ∀ p, 0 ≤ p → p < μ 120 6 → 0 ≤ μ 133 (38 + 4 * p + 3) ∧ μ 133 (38 + 4 * p + 3) < 4096) : ∀ d, 2 ≤ d → mCallN d 27 [mP 96, mI w] (SH, μ, RHO b) = some (wSum (cntB μ w) (μ 120 6).toNat 0 (wSum (cntA μ w) (μ 120 5).toNat 0 0), SH, μ, RHO b) := deep fun d hd => by
  refine call_X10_countOf d b μ w ?_
  obtain ⟨f, hf⟩ := eX10_countA hd (b := b) (μ := μ) (w := w) m1 (μ 120 5).toNat 0 0 (by omega) (by omega) w32_0 (eX10_countB hd (b := b) (μ := μ) (w := w) n1 hF (μ 120 6).toNat 0 _ (by omega) (by omega) (wSum_w32 _ _ _ _ w32_0))
  exact ⟨f + 1, by rw [tX10_countOf_0]; exact hf⟩
