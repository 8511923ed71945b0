/-! ===== contracts of the class's leaves ===== -/
def shp (a : Nat) : Nat × Nat := (SH[a]?).getD (99, 0)
theorem arr_of {a N : Nat} {μ : Nat → Int → Int} {r : Nat → Int → Option Nat} (h : shp a = (0, N)) : mArr (SH, μ, r) a 0 = true := by
  show Nat.beq (shp a).1 0 = true
  rw [h]; rfl
theorem shape_of {a N : Nat} {μ : Nat → Int → Int} {r : Nat → Int → Option Nat} (h : shp a = (0, N)) : mShape (SH, μ, r) a = (0, N) := h
theorem shp_tw (c : Bool) (j N : Nat) (h1 : shp (4 + j) = (0, N)) (h2 : shp (77 + j) = (0, N)) : shp (tw c + j) = (0, N) := by cases c; exact h2; exact h1
theorem sJ9_min (x y : Int) (b : Bool) (μ : Nat → Int → Int) : ∀ d, 1 ≤ d → mCallN d 5 [mI x, mI y] (SH, μ, RHO b) = some (if y < x then y else x, SH, μ, RHO b) := deep fun d _ => by
  refine call_J9_min_7cf53 d b μ x y ⟨5, ?_⟩
  by_cases h : y < x
  · simp only [tJ9_min_7cf53_0, tJ9_min_7cf53_10, mBr, if_pos h]
  · simp only [tJ9_min_7cf53_0, tJ9_min_7cf53_10, mBr, if_neg h]
theorem sJ9_max (x y : Int) (b : Bool) (μ : Nat → Int → Int) : ∀ d, 1 ≤ d → mCallN d 3 [mI x, mI y] (SH, μ, RHO b) = some (if x < y then y else x, SH, μ, RHO b) := deep fun d _ => by
  refine call_J9_max_7cf53 d b μ x y ⟨5, ?_⟩
  by_cases h : x < y
  · simp only [tJ9_max_7cf53_0, tJ9_max_7cf53_10, mBr, if_pos h]
  · simp only [tJ9_max_7cf53_0, tJ9_max_7cf53_10, mBr, if_neg h]
/-- a cell filled up to a place -/
def mFl (μ : Nat → Int → Int) (a : Nat) (n v : Int) : Nat → Int → Int := fun a' i' => if a' = a ∧ 0 ≤ i' ∧ i' < n then v else μ a' i'
theorem mFl_step (μ : Nat → Int → Int) (a : Nat) (n v : Int) (h : 0 ≤ n) : m2 (mFl μ a n v) a n v = mFl μ a (n + 1) v := by
  funext a' i'
  unfold m2 mFl
  by_cases e : a' = a
  · subst e
    by_cases e2 : i' = n
    · subst e2; rw [if_pos ⟨rfl, rfl⟩, if_pos ⟨rfl, h, by omega⟩]
    · rw [if_neg (by rintro ⟨-, h2⟩; exact e2 h2)]
      by_cases e3 : 0 ≤ i' ∧ i' < n
      · rw [if_pos ⟨rfl, e3⟩, if_pos ⟨rfl, e3.1, by omega⟩]
      · rw [if_neg (by rintro ⟨-, h2⟩; exact e3 h2), if_neg (by rintro ⟨-, h2, h3⟩; omega)]
  · rw [if_neg (by rintro ⟨h1, -⟩; exact e h1), if_neg (by rintro ⟨h1, -⟩; exact e h1), if_neg (by rintro ⟨h1, -⟩; exact e h1)]
theorem mFl_0 (μ : Nat → Int → Int) (a : Nat) (v : Int) : mFl μ a 0 v = μ := by
  funext a' i'
  unfold mFl
  rw [if_neg (by rintro ⟨-, h2, h3⟩; omega)]
theorem mFl_ne {μ : Nat → Int → Int} {a a' : Nat} {n v : Int} (h : a' ≠ a) : mFl μ a n v a' = μ a' := by
  funext i'; unfold mFl; rw [if_neg (by rintro ⟨h1, -⟩; exact h h1)]
theorem mFl_at {μ : Nat → Int → Int} {a : Nat} {n v i : Int} : mFl μ a n v a i = if 0 ≤ i ∧ i < n then v else μ a i := by
  unfold mFl
  by_cases e : 0 ≤ i ∧ i < n
  · rw [if_pos ⟨rfl, e⟩, if_pos e]
  · rw [if_neg (by rintro ⟨-, h2⟩; exact e h2), if_neg e]
theorem eJ7_fill {Φ : mOrc} {b : Bool} {μ : Nat → Int → Int} {a N : Nat} {v : Int} (hs : shp a = (0, N)) (hN : N ≤ 100000) : ∀ (k : Nat) (i : Int), 0 ≤ i → i + k = N → mEv Φ kJ7_fill_53178 5 [some (mP a), some (mI v), some (mI i), some (mI (N : Int))] [] (SH, mFl μ a i v, RHO b) (0, SH, mFl μ a N v, RHO b)
  | 0, i, h0, hk => ⟨1, by rw [tJ7_fill_53178_5, mBr_neg (by omega)]; rw [show i = N by omega]⟩
  | k + 1, i, h0, hk => by
    obtain ⟨n, hn⟩ := eJ7_fill (Φ := Φ) (b := b) (μ := μ) (v := v) hs hN k (i + 1) (by omega) (by omega)
    refine ⟨n + 1, ?_⟩
    rw [tJ7_fill_53178_5, mBr_pos (by omega), arr_of hs, cond_true, shape_of hs, if_pos ⟨h0, by show i < (N : Int); omega⟩, mFl_step _ _ _ _ h0, w32_id (by omega) (by omega)]
    exact hn
theorem sJ7_fill (a N : Nat) (v : Int) (b : Bool) (μ : Nat → Int → Int) (hs : shp a = (0, N)) (hN : N ≤ 100000) : ∀ d, 1 ≤ d → mCallN d 1 [mP a, mI v] (SH, μ, RHO b) = some (0, SH, mFl μ a N v, RHO b) := deep fun d _ => by
  refine call_J7_fill_53178 d b μ a v ?_
  obtain ⟨n, hn⟩ := eJ7_fill (Φ := mCallN d) (b := b) (μ := μ) (v := v) hs hN N 0 (by omega) (by omega)
  refine ⟨n + 1, ?_⟩
  rw [tJ7_fill_53178_0, shape_of hs]
  rw [mFl_0] at hn
  exact hn
theorem sX7_hasFainted (c : Bool) (a : Nat) (m : Int) (b : Bool) (μ : Nat → Int → Int) (hs : shp a = (0, 62)) (h0 : 0 ≤ m) (h1 : m < 12) : ∀ d, 1 ≤ d → mCallN d 199 [mP (tw c), mP a, mI m] (SH, μ, RHO b) = some (t01 (μ (tw c + 7) m ≤ μ a (14 + m)), SH, μ, RHO b) := deep fun d _ => by
  refine call_X7_hasFainted d b μ a m c ⟨5, ?_⟩
  rw [tX7_hasFainted_0, arr_of hs, cond_true, shape_of hs, w32_id (by omega) (by omega), if_pos ⟨by omega, by show 14 + m < (62 : Int); omega⟩, if_pos (by omega)]
  by_cases e : μ a (14 + m) < μ (tw c + 7) m
  · rw [mBr_pos e, tX7_hasFainted_20, t01_neg (by omega)]; rfl
  · rw [mBr_neg e, tX7_hasFainted_20, t01_pos (by omega)]; rfl
theorem sX7_areFriends (a : Nat) (p m : Int) (b : Bool) (μ : Nat → Int → Int) (hs : shp a = (0, 62)) (h0 : 0 ≤ p) (h1 : p < 6) : ∀ d, 1 ≤ d → mCallN d 195 [mP a, mI p, mI m] (SH, μ, RHO b) = some (t01 (iAnd (iShr (μ a (56 + p)) m) 1 = 1), SH, μ, RHO b) := deep fun d _ => by
  refine call_X7_areFriends d b μ a p m ⟨5, ?_⟩
  rw [tX7_areFriends_0, arr_of hs, cond_true, shape_of hs, w32_id (by omega) (by omega), if_pos ⟨by omega, by show 56 + p < (62 : Int); omega⟩]
  by_cases e : iAnd (iShr (μ a (56 + p)) m) 1 = 1
  · rw [mBr_pos e, tX7_areFriends_19, t01_pos e]; rfl
  · rw [mBr_neg e, tX7_areFriends_19, t01_neg e]; rfl
theorem sX7_across (c : Bool) (g r : Int) (b : Bool) (μ : Nat → Int → Int) (h0 : 0 ≤ g) (h1 : g < 12) : ∀ d, 1 ≤ d → mCallN d 194 [mP (tw c), mI g, mI r] (SH, μ, RHO b) = some (if μ (tw c + 8) g = r then μ (tw c + 9) g else if μ (tw c + 9) g = r then μ (tw c + 8) g else -1, SH, μ, RHO b) := deep fun d _ => by
  refine call_X7_across d b μ g r c ⟨5, ?_⟩
  simp only [tX7_across_0, tX7_across_37, mBr, if_pos (show 0 ≤ g ∧ g < 12 from ⟨h0, h1⟩)]
  by_cases e1 : μ (tw c + 8) g = r
  · simp only [if_pos e1]
  · by_cases e2 : μ (tw c + 9) g = r
    · simp only [if_neg e1, if_pos e2]
    · simp only [if_neg e1, if_neg e2]
theorem sX9_exchangeIn (a N : Nat) (i j : Int) (b : Bool) (μ : Nat → Int → Int) (hs : shp a = (0, N)) (h0 : 0 ≤ i) (h1 : i < N) (h2 : 0 ≤ j) (h3 : j < N) : ∀ d, 1 ≤ d → mCallN d 216 [mP a, mI i, mI j] (SH, μ, RHO b) = some (0, SH, m2 (m2 μ a i (μ a j)) a j (μ a i), RHO b) := deep fun d _ => by
  refine call_X9_exchangeIn d b μ a i j ⟨1, ?_⟩
  simp only [tX9_exchangeIn_0, arr_of hs, shape_of hs, cond_true, if_pos (show (0 : Int) ≤ i ∧ i < (N : Int) from ⟨h0, h1⟩), if_pos (show (0 : Int) ≤ j ∧ j < (N : Int) from ⟨h2, h3⟩)]
/-- a sum as the machine folds it -/
def wSum (f : Int → Int) : Nat → Int → Int → Int
  | 0, _, acc => acc
  | k + 1, i, acc => wSum f k (i + 1) (w32 (acc + f i))
theorem eX9_sumOf {Φ : mOrc} {b : Bool} {μ : Nat → Int → Int} {a N : Nat} {o n : Int} (hs : shp a = (0, N)) (ho : 0 ≤ o) (hN : o + n ≤ N) (hN2 : N ≤ 100000) : ∀ (k : Nat) (i acc : Int), 0 ≤ i → i + k = n → mEv Φ kX9_sumOf 5 [some (mP a), some (mI o), some (mI n), some (mI acc), some (mI i)] [] (SH, μ, RHO b) (wSum (fun i => μ a (o + i)) k i acc, SH, μ, RHO b)
  | 0, i, acc, h0, hk => ⟨1, by rw [tX9_sumOf_5, mBr_neg (by omega)]; rfl⟩
  | k + 1, i, acc, h0, hk => by
    obtain ⟨f, hf⟩ := eX9_sumOf (Φ := Φ) (b := b) (μ := μ) hs ho hN hN2 k (i + 1) (w32 (acc + μ a (o + i))) (by omega) (by omega)
    refine ⟨f + 1, ?_⟩
    rw [tX9_sumOf_5, mBr_pos (by omega), arr_of hs, cond_true, shape_of hs, w32_id (x := o + i) (by omega) (by omega), if_pos ⟨by omega, by show o + i < (N : Int); omega⟩, w32_id (x := i + 1) (by omega) (by omega)]
    exact hf
theorem sX9_sumOf (a N : Nat) (o n : Int) (b : Bool) (μ : Nat → Int → Int) (hs : shp a = (0, N)) (ho : 0 ≤ o) (hn : 0 ≤ n) (hN : o + n ≤ N) (hN2 : N ≤ 100000) : ∀ d, 1 ≤ d → mCallN d 252 [mP a, mI o, mI n] (SH, μ, RHO b) = some (wSum (fun i => μ a (o + i)) n.toNat 0 0, SH, μ, RHO b) := deep fun d _ => by
  refine call_X9_sumOf d b μ a o n ?_
  obtain ⟨f, hf⟩ := eX9_sumOf (Φ := mCallN d) (b := b) (μ := μ) hs ho hN hN2 n.toNat 0 0 (by omega) (by omega)
  exact ⟨f + 1, by rw [tX9_sumOf_0]; exact hf⟩
