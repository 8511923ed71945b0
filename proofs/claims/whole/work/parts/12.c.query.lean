/-- the first place from i on, of k, where f is x; -1 -/
def fFirst (f : Int → Int) (x : Int) : Nat → Int → Int
  | 0, _ => -1
  | k + 1, i => if f i = x then i else fFirst f x k (i + 1)
theorem eX9_gateOf {Φ : mOrc} {b : Bool} {μ : Nat → Int → Int} {m : Int} (hn : μ (tw b + 1) 2 ≤ 12) : ∀ (k : Nat) (i : Int), 0 ≤ i → i + k = μ (tw b + 1) 2 → mEv Φ kX9_gateOf 2 [some (mP 0), some (mI m), some (mI i)] [] (SH, μ, RHO b) (fFirst (fun i => μ 74 (2 + i)) m k i, SH, μ, RHO b)
  | 0, i, h0, hk => ⟨1, by rw [tX9_gateOf_2, mBr_neg (by omega)]; rfl⟩
  | k + 1, i, h0, hk => by
    obtain ⟨f, hf⟩ := eX9_gateOf (Φ := Φ) (b := b) (μ := μ) (m := m) hn k (i + 1) (by omega) (by omega)
    refine ⟨f + 1, ?_⟩
    rw [tX9_gateOf_2, mBr_pos (by omega), w32_id (x := 2 + i) (by omega) (by omega), if_pos (by omega), w32_id (x := i + 1) (by omega) (by omega)]
    by_cases e : μ 74 (2 + i) = m
    · rw [mBr_pos e, fFirst, if_pos e]
    · rw [mBr_neg e, fFirst, if_neg e]; exact hf
theorem sX9_gateOf (m : Int) (b : Bool) (μ : Nat → Int → Int) (h0 : 0 ≤ μ (tw b + 1) 2) (hn : μ (tw b + 1) 2 ≤ 12) : ∀ d, 1 ≤ d → mCallN d 228 [mP 0, mI m] (SH, μ, RHO b) = some (fFirst (fun i => μ 74 (2 + i)) m (μ (tw b + 1) 2).toNat 0, SH, μ, RHO b) := deep fun d _ => by
  refine call_X9_gateOf d b μ m ?_
  obtain ⟨f, hf⟩ := eX9_gateOf (Φ := mCallN d) (b := b) (μ := μ) (m := m) hn (μ (tw b + 1) 2).toNat 0 (by omega) (by omega)
  exact ⟨f + 1, by rw [tX9_gateOf_0]; exact hf⟩
theorem eX10_gateOf {d : Nat} (hd : 1 ≤ d) {b : Bool} {μ : Nat → Int → Int} {m : Int} (hn : μ 120 7 ≤ 12) : ∀ (k : Nat) (i : Int), 0 ≤ i → i + k = μ 120 7 → mEv (mCallN d) kX10_gateOf 2 [some (mP 96), some (mI m), some (mI i)] [] (SH, μ, RHO b) (fFirst (fun i => μ 133 (2 + i)) m k i, SH, μ, RHO b)
  | 0, i, h0, hk => ⟨1, by rw [tX10_gateOf_2, sX10_gateMany b μ d hd, mOptR_some, mBr_neg (by show ¬ (i < μ 120 7); omega)]; rfl⟩
  | k + 1, i, h0, hk => by
    obtain ⟨f, hf⟩ := eX10_gateOf hd (b := b) (μ := μ) (m := m) hn k (i + 1) (by omega) (by omega)
    refine ⟨f + 1, ?_⟩
    rw [tX10_gateOf_2, sX10_gateMany b μ d hd, mOptR_some, mBr_pos (by show i < μ 120 7; omega)]
    simp only [sX10_manAt i b μ h0 (by omega) d hd, mOptR_some]
    rw [w32_id (x := i + 1) (by omega) (by omega)]
    by_cases e : μ 133 (2 + i) = m
    · rw [mBr_pos e, fFirst, if_pos e]
    · rw [mBr_neg e, fFirst, if_neg e]; exact hf
theorem sX10_gateOf (m : Int) (b : Bool) (μ : Nat → Int → Int) (h0 : 0 ≤ μ 120 7) (hn : μ 120 7 ≤ 12) : ∀ d, 2 ≤ d → mCallN d 48 [mP 96, mI m] (SH, μ, RHO b) = some (fFirst (fun i => μ 133 (2 + i)) m (μ 120 7).toNat 0, SH, μ, RHO b) := deep fun d hd => by
  refine call_X10_gateOf d b μ m ?_
  obtain ⟨f, hf⟩ := eX10_gateOf hd (b := b) (μ := μ) (m := m) hn (μ 120 7).toNat 0 (by omega) (by omega)
  exact ⟨f + 1, by rw [tX10_gateOf_0]; exact hf⟩
theorem fFirst_congr {f g : Int → Int} {x : Int} : ∀ (k : Nat) (i : Int), (∀ j, i ≤ j → j < i + k → f j = g j) → fFirst f x k i = fFirst g x k i
  | 0, _, _ => rfl
  | k + 1, i, h => by
    rw [fFirst, fFirst, h i (by omega) (by omega), fFirst_congr k (i + 1) (fun j h1 h2 => h j (by omega) (by omega))]
theorem wSum_congr {f g : Int → Int} : ∀ (k : Nat) (i acc : Int), (∀ j, i ≤ j → j < i + k → f j = g j) → wSum f k i acc = wSum g k i acc
  | 0, _, _, _ => rfl
  | k + 1, i, acc, h => by
    rw [wSum, wSum, h i (by omega) (by omega), wSum_congr k (i + 1) _ (fun j h1 h2 => h j (by omega) (by omega))]
/-! how many -/
theorem eX9_friendsOf {d : Nat} (hd : 1 ≤ d) {b : Bool} {μ : Nat → Int → Int} {m : Int} (hn : μ (tw b + 1) 3 ≤ 6) : ∀ (k : Nat) (i acc : Int), 0 ≤ i → i + k = μ (tw b + 1) 3 → mEv (mCallN d) kX9_friendsOf 4 [some (mP 0), some (mI m), some (mI acc), some (mI i)] [] (SH, μ, RHO b) (wSum (fun p => t01 (iAnd (iShr (μ 74 (56 + p)) m) 1 = 1)) k i acc, SH, μ, RHO b)
  | 0, i, acc, h0, hk => ⟨1, by rw [tX9_friendsOf_4, mBr_neg (by omega)]; rfl⟩
  | k + 1, i, acc, h0, hk => by
    obtain ⟨f, hf⟩ := eX9_friendsOf hd (b := b) (μ := μ) (m := m) hn k (i + 1) (w32 (acc + t01 (iAnd (iShr (μ 74 (56 + i)) m) 1 = 1))) (by omega) (by omega)
    refine ⟨f + 2, ?_⟩
    rw [tX9_friendsOf_4, mBr_pos (by omega), sX7_areFriends 74 i m b μ rfl h0 (by omega) d hd, mOptR_some, wSum]
    by_cases e : iAnd (iShr (μ 74 (56 + i)) m) 1 = 1
    · rw [t01_pos e] at hf ⊢
      rw [mBr_neg (by show ¬ ((1 : Int) = 0); decide), tX9_friendsOf_35, w32_id (x := i + 1) (by omega) (by omega)]; exact hf
    · rw [t01_neg e] at hf ⊢
      rw [mBr_pos (by show ((0 : Int) = 0); rfl), tX9_friendsOf_35, w32_id (x := i + 1) (by omega) (by omega)]; exact hf
theorem sX9_friendsOf (m : Int) (b : Bool) (μ : Nat → Int → Int) (h0 : 0 ≤ μ (tw b + 1) 3) (hn : μ (tw b + 1) 3 ≤ 6) : ∀ d, 2 ≤ d → mCallN d 225 [mP 0, mI m] (SH, μ, RHO b) = some (wSum (fun p => t01 (iAnd (iShr (μ 74 (56 + p)) m) 1 = 1)) (μ (tw b + 1) 3).toNat 0 0, SH, μ, RHO b) := deep fun d hd => by
  refine call_X9_friendsOf d b μ m ?_
  obtain ⟨f, hf⟩ := eX9_friendsOf hd (b := b) (μ := μ) (m := m) hn (μ (tw b + 1) 3).toNat 0 0 (by omega) (by omega)
  exact ⟨f + 1, by rw [tX9_friendsOf_0]; exact hf⟩
/-- a sum at home -/
theorem w32_add0 {x : Int} (h1 : -2147483648 ≤ x) (h2 : x < 2147483648) : w32 (x + 0) = x := by rw [Int.add_zero]; exact w32_id h1 h2
theorem eX10_friendsOf {d : Nat} (hd : 2 ≤ d) {b : Bool} {μ : Nat → Int → Int} {m : Int} (hn : μ 120 6 ≤ 6) : ∀ (k : Nat) (i acc : Int), 0 ≤ i → i + k = μ 120 6 → 0 ≤ acc → acc ≤ i → mEv (mCallN d) kX10_friendsOf 4 [some (mP 96), some (mI m), some (mI acc), some (mI i)] [] (SH, μ, RHO b) (wSum (fun p => t01 (iAnd (iShr (μ 133 (38 + 4 * p + 3)) m) 1 = 1)) k i acc, SH, μ, RHO b) := by
  intro k
  induction k with
  | zero => 
    intro i acc h0 hk _ _
    exact ⟨1, by rw [tX10_friendsOf_4, sX10_personMany b μ d (by omega), mOptR_some, mBr_neg (by show ¬ (i < μ 120 6); omega)]; rfl⟩
  | succ k ih =>
    intro i acc h0 hk ha hb
    have e1 : w32 (acc + 1) = acc + 1 := w32_id (by omega) (by omega)
    have e2 : w32 (i + 1) = i + 1 := w32_id (by omega) (by omega)
    have e3 : w32 (acc + 0) = acc := w32_add0 (by omega) (by omega)
    have hA := sX10_areFriends i m b μ h0 (by omega) d hd
    rw [wSum]
    by_cases e : iAnd (iShr (μ 133 (38 + 4 * i + 3)) m) 1 = 1
    · rw [t01_pos e] at hA ⊢
      obtain ⟨f, hf⟩ := ih (i + 1) (acc + 1) (by omega) (by omega) (by omega) (by omega)
      refine ⟨f + 2, ?_⟩
      rw [e1, tX10_friendsOf_4, sX10_personMany b μ d (by omega), mOptR_some, mBr_pos (by show i < μ 120 6; omega), hA, mOptR_some, mBr_neg (by show ¬ ((1 : Int) = 0); decide), tX10_friendsOf_24, e1, e2]; exact hf
    · rw [t01_neg e] at hA ⊢
      obtain ⟨f, hf⟩ := ih (i + 1) acc (by omega) (by omega) ha (by omega)
      refine ⟨f + 2, ?_⟩
      rw [e3, tX10_friendsOf_4, sX10_personMany b μ d (by omega), mOptR_some, mBr_pos (by show i < μ 120 6; omega), hA, mOptR_some, mBr_pos (by show ((0 : Int) = 0); rfl), tX10_friendsOf_24, e2]; exact hf
theorem sX10_friendsOf (m : Int) (b : Bool) (μ : Nat → Int → Int) (h0 : 0 ≤ μ 120 6) (hn : μ 120 6 ≤ 6) : ∀ d, 3 ≤ d → mCallN d 45 [mP 96, mI m] (SH, μ, RHO b) = some (wSum (fun p => t01 (iAnd (iShr (μ 133 (38 + 4 * p + 3)) m) 1 = 1)) (μ 120 6).toNat 0 0, SH, μ, RHO b) := deep fun d hd => by
  refine call_X10_friendsOf d b μ m ?_
  obtain ⟨f, hf⟩ := eX10_friendsOf hd (b := b) (μ := μ) (m := m) hn (μ 120 6).toNat 0 0 (by omega) (by omega) (by omega) (by omega)
  exact ⟨f + 1, by rw [tX10_friendsOf_0]; exact hf⟩
