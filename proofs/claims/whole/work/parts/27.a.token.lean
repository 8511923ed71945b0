/-! ===== the text's tokens ===== -/
def byA (T : Int → Int) (n i : Int) : Int := if 0 ≤ i ∧ i < n then T i else -1
def kdO (c : Int) : Int := if c = -1 then 0 else if 97 ≤ c ∧ c ≤ 122 then 1 else if 48 ≤ c ∧ c ≤ 57 then 2 else 3
def skK (T : Int → Int) : Nat → Int → Int
  | 0, i => i
  | k + 1, i => if T i = 32 ∨ T i = 10 then skK T k (i + 1) else i
def skp (T : Int → Int) (n i : Int) : Int := skK T (n - i).toNat i
def rnK (T : Int → Int) (kd : Int) : Nat → Int → Int
  | 0, i => i
  | k + 1, i => if kdO (T i) = kd then rnK T kd k (i + 1) else i
def bhd (T : Int → Int) (n s : Int) : Int := if kdO (byA T n s) = 0 then s else if kdO (byA T n s) = 3 then s + 1 else rnK T (kdO (byA T n s)) (n - (s + 1)).toNat (s + 1)
theorem skK_in {T : Int → Int} : ∀ (k : Nat) (i : Int), i ≤ skK T k i ∧ skK T k i ≤ i + k ∧ (∀ j, i ≤ j → j < skK T k i → (T j = 32 ∨ T j = 10)) ∧ (skK T k i < i + k → ¬ (T (skK T k i) = 32 ∨ T (skK T k i) = 10))
  | 0, i => ⟨Int.le_refl _, by rw [skK]; omega, fun j h1 h2 => by rw [skK] at h2; omega, fun h => by rw [skK] at h; omega⟩
  | k + 1, i => by
    rw [skK]
    by_cases c : T i = 32 ∨ T i = 10
    · rw [if_pos c]
      obtain ⟨h1, h2, h3, h4⟩ := skK_in (T := T) k (i + 1)
      refine ⟨by omega, by omega, fun j j1 j2 => ?_, fun h => h4 (by omega)⟩
      by_cases e : j = i
      · rw [e]; exact c
      · exact h3 j (by omega) j2
    · rw [if_neg c]
      exact ⟨Int.le_refl _, by omega, fun j h1 h2 => by omega, fun _ => c⟩
theorem skp_in {T : Int → Int} {n i : Int} (h : i ≤ n) : i ≤ skp T n i ∧ skp T n i ≤ n ∧ (∀ j, i ≤ j → j < skp T n i → (T j = 32 ∨ T j = 10)) ∧ (skp T n i < n → ¬ (T (skp T n i) = 32 ∨ T (skp T n i) = 10)) := by
  obtain ⟨h1, h2, h3, h4⟩ := skK_in (T := T) (n - i).toNat i
  unfold skp
  exact ⟨h1, by omega, h3, fun q => h4 (by omega)⟩
theorem rnK_in {T : Int → Int} {kd : Int} : ∀ (k : Nat) (i : Int), i ≤ rnK T kd k i ∧ rnK T kd k i ≤ i + k ∧ (∀ j, i ≤ j → j < rnK T kd k i → kdO (T j) = kd) ∧ (rnK T kd k i < i + k → ¬ kdO (T (rnK T kd k i)) = kd)
  | 0, i => ⟨Int.le_refl _, by rw [rnK]; omega, fun j h1 h2 => by rw [rnK] at h2; omega, fun h => by rw [rnK] at h; omega⟩
  | k + 1, i => by
    rw [rnK]
    by_cases c : kdO (T i) = kd
    · rw [if_pos c]
      obtain ⟨h1, h2, h3, h4⟩ := rnK_in (T := T) (kd := kd) k (i + 1)
      refine ⟨by omega, by omega, fun j j1 j2 => ?_, fun h => h4 (by omega)⟩
      by_cases e : j = i
      · rw [e]; exact c
      · exact h3 j (by omega) j2
    · rw [if_neg c]
      exact ⟨Int.le_refl _, by omega, fun j h1 h2 => by omega, fun _ => c⟩
theorem kdO_or (c : Int) : (kdO c = 0 ∧ c = -1) ∨ (kdO c = 1 ∧ 97 ≤ c ∧ c ≤ 122) ∨ (kdO c = 2 ∧ 48 ≤ c ∧ c ≤ 57) ∨ (kdO c = 3 ∧ c ≠ -1 ∧ ¬ (97 ≤ c ∧ c ≤ 122) ∧ ¬ (48 ≤ c ∧ c ≤ 57)) := by
  unfold kdO
  by_cases h1 : c = -1
  · rw [if_pos h1]; exact Or.inl ⟨rfl, h1⟩
  · rw [if_neg h1]
    by_cases h2 : 97 ≤ c ∧ c ≤ 122
    · rw [if_pos h2]; exact Or.inr (Or.inl ⟨rfl, h2⟩)
    · rw [if_neg h2]
      by_cases h3 : 48 ≤ c ∧ c ≤ 57
      · rw [if_pos h3]; exact Or.inr (Or.inr (Or.inl ⟨rfl, h3⟩))
      · rw [if_neg h3]; exact Or.inr (Or.inr (Or.inr ⟨rfl, h1, h2, h3⟩))
/-- the tape -/
def Tp (T : Int → Int) (n : Int) : Prop := 0 ≤ n ∧ n ≤ 1600 ∧ ∀ i, 0 ≤ i → i < 1600 → 0 ≤ T i ∧ T i ≤ 255
theorem byA_in {T : Int → Int} {n s : Int} (h0 : 0 ≤ s) (h1 : s < n) : byA T n s = T s := if_pos ⟨h0, h1⟩
theorem byA_out {T : Int → Int} {n s : Int} (h1 : n ≤ s) : byA T n s = -1 := if_neg (by omega)
/-- behind a token -/
theorem bhd_in {T : Int → Int} {n s : Int} (hT : Tp T n) (h0 : 0 ≤ s) (h1 : s ≤ n) : s ≤ bhd T n s ∧ bhd T n s ≤ n ∧ (s < n → s < bhd T n s) ∧ (s = n → bhd T n s = s) ∧ (kdO (byA T n s) = 0 ↔ s = n) := by
  have hk : kdO (byA T n s) = 0 ↔ s = n := by
    constructor
    · intro e
      rcases kdO_or (byA T n s) with ⟨-, q⟩ | ⟨q, -⟩ | ⟨q, -⟩ | ⟨q, -⟩
      · by_cases c : s < n
        · rw [byA_in h0 c] at q
          have := hT.2.2 s h0 (by have := hT.2.1; omega)
          omega
        · omega
      · omega
      · omega
      · omega
    · intro e
      rw [byA_out (by omega)]; rfl
  unfold bhd
  by_cases c : kdO (byA T n s) = 0
  · rw [if_pos c]
    have := hk.1 c
    exact ⟨by omega, by omega, fun q => by omega, fun _ => rfl, hk⟩
  · have hs : s < n := by
      by_cases q : s = n
      · exact absurd (hk.2 q) c
      · omega
    rw [if_neg c]
    by_cases c2 : kdO (byA T n s) = 3
    · rw [if_pos c2]
      exact ⟨by omega, by omega, fun q => by omega, fun q => by omega, hk⟩
    · rw [if_neg c2]
      obtain ⟨q1, q2, q3, q4⟩ := rnK_in (T := T) (kd := kdO (byA T n s)) (n - (s + 1)).toNat (s + 1)
      exact ⟨by omega, by omega, fun q => by omega, fun q => by omega, hk⟩
/-- a run of letters or of digits -/
theorem bhd_run {T : Int → Int} {n s : Int} (h0 : 0 ≤ s) (h1 : s < n) (hk : kdO (T s) = 1 ∨ kdO (T s) = 2) : (∀ j, s ≤ j → j < bhd T n s → kdO (T j) = kdO (T s)) ∧ (bhd T n s < n → ¬ kdO (T (bhd T n s)) = kdO (T s)) ∧ s < bhd T n s ∧ bhd T n s ≤ n := by
  unfold bhd
  rw [byA_in h0 h1, if_neg (by omega), if_neg (by omega)]
  obtain ⟨q1, q2, q3, q4⟩ := rnK_in (T := T) (kd := kdO (T s)) (n - (s + 1)).toNat (s + 1)
  refine ⟨fun j j1 j2 => ?_, fun q => q4 (by omega), by omega, by omega⟩
  by_cases e : j = s
  · rw [e]
  · exact q3 j (by omega) j2
theorem bhd_sign {T : Int → Int} {n s : Int} (h0 : 0 ≤ s) (h1 : s < n) (hk : kdO (T s) = 3) : bhd T n s = s + 1 := by
  unfold bhd
  rw [byA_in h0 h1, if_neg (by omega), if_pos hk]
/-! own words -/
def wdB (T : Int → Int) (s len : Int) (j : Nat) : Bool := decide (len = ((wLen.getD j 0 : Nat) : Int)) && (List.range (wLen.getD j 0)).all (fun i => decide (T (s + (i : Int)) = xWords.getD (6 * j + i) 0))
theorem wdB_iff {T : Int → Int} {s len : Int} {j : Nat} : wdB T s len j = true ↔ len = ((wLen.getD j 0 : Nat) : Int) ∧ ∀ i : Nat, i < wLen.getD j 0 → T (s + (i : Int)) = xWords.getD (6 * j + i) 0 := by
  unfold wdB
  rw [Bool.and_eq_true, decide_eq_true_eq, List.all_eq_true]
  constructor
  · rintro ⟨h1, h2⟩
    exact ⟨h1, fun i hi => of_decide_eq_true (h2 i (List.mem_range.2 hi))⟩
  · rintro ⟨h1, h2⟩
    exact ⟨h1, fun i hi => decide_eq_true (h2 i (List.mem_range.1 hi))⟩
def owK (T : Int → Int) (s len : Int) : Nat → Nat → Int
  | 0, _ => -1
  | k + 1, j => if wdB T s len j = true then (j : Int) else owK T s len k (j + 1)
def owN (T : Int → Int) (n s : Int) : Int := owK T s (bhd T n s - s) 22 0
def wdT (j : Nat) : Bool := decide (2 ≤ wLen.getD j 0 ∧ wLen.getD j 0 ≤ 6) && (List.range 6).all (fun k => if k < wLen.getD j 0 then decide (97 ≤ xWords.getD (6 * j + k) 0 ∧ xWords.getD (6 * j + k) 0 ≤ 122) else decide (xWords.getD (6 * j + k) 0 = 32))
theorem wdT_a : (List.range 22).all wdT = true := by decide +kernel
def wdD (i j : Nat) : Bool := decide (i = j) || (decide (wLen.getD i 0 ≠ wLen.getD j 0) || (List.range (wLen.getD i 0)).any (fun k => decide (xWords.getD (6 * i + k) 0 ≠ xWords.getD (6 * j + k) 0)))
theorem wdD_a : (List.range 22).all (fun i => (List.range 22).all (wdD i)) = true := by decide +kernel
theorem wd_tab {j : Nat} (hj : j < 22) : (2 ≤ wLen.getD j 0 ∧ wLen.getD j 0 ≤ 6) ∧ ∀ k : Nat, k < 6 → (k < wLen.getD j 0 → 97 ≤ xWords.getD (6 * j + k) 0 ∧ xWords.getD (6 * j + k) 0 ≤ 122) ∧ (¬ k < wLen.getD j 0 → xWords.getD (6 * j + k) 0 = 32) := by
  have h := List.all_eq_true.mp wdT_a j (List.mem_range.2 hj)
  unfold wdT at h
  rw [Bool.and_eq_true, decide_eq_true_eq, List.all_eq_true] at h
  refine ⟨h.1, fun k hk => ⟨fun q => ?_, fun q => ?_⟩⟩
  · have := h.2 k (List.mem_range.2 hk)
    rw [if_pos q] at this
    exact of_decide_eq_true this
  · have := h.2 k (List.mem_range.2 hk)
    rw [if_neg q] at this
    exact of_decide_eq_true this
theorem wd_uniq {T : Int → Int} {s len : Int} {i j : Nat} (hi : i < 22) (hj : j < 22) (h1 : wdB T s len i = true) (h2 : wdB T s len j = true) : i = j := by
  have h := List.all_eq_true.mp (List.all_eq_true.mp wdD_a i (List.mem_range.2 hi)) j (List.mem_range.2 hj)
  unfold wdD at h
  rw [wdB_iff] at h1 h2
  rw [Bool.or_eq_true, Bool.or_eq_true, decide_eq_true_eq, decide_eq_true_eq, List.any_eq_true] at h
  rcases h with h | h | ⟨k, hk, h⟩
  · exact h
  · exact absurd (by omega) h
  · have hk' := List.mem_range.1 hk
    have := of_decide_eq_true h
    have e1 := h1.2 k hk'
    have e2 := h2.2 k (by omega)
    exact absurd (by rw [← e1, ← e2]) this
theorem owK_or {T : Int → Int} {s len : Int} : ∀ (k j : Nat), (owK T s len k j = -1 ∧ ∀ i, j ≤ i → i < j + k → ¬ wdB T s len i = true) ∨ ∃ i, j ≤ i ∧ i < j + k ∧ owK T s len k j = (i : Int) ∧ wdB T s len i = true
  | 0, j => Or.inl ⟨rfl, fun i h1 h2 => by omega⟩
  | k + 1, j => by
    rw [owK]
    by_cases c : wdB T s len j = true
    · rw [if_pos c]; exact Or.inr ⟨j, Nat.le_refl j, by omega, rfl, c⟩
    · rw [if_neg c]
      rcases owK_or (T := T) (s := s) (len := len) k (j + 1) with ⟨h1, h2⟩ | ⟨i, i1, i2, i3, i4⟩
      · refine Or.inl ⟨h1, fun i i1 i2 => ?_⟩
        by_cases e : i = j
        · rw [e]; exact c
        · exact h2 i (by omega) (by omega)
      · exact Or.inr ⟨i, by omega, by omega, i3, i4⟩
theorem owN_or (T : Int → Int) (n s : Int) : (owN T n s = -1 ∧ ∀ i, i < 22 → ¬ wdB T s (bhd T n s - s) i = true) ∨ ∃ i, i < 22 ∧ owN T n s = ((i : Nat) : Int) ∧ wdB T s (bhd T n s - s) i = true := by
  rcases owK_or (T := T) (s := s) (len := bhd T n s - s) 22 0 with ⟨h1, h2⟩ | ⟨i, i1, i2, i3, i4⟩
  · exact Or.inl ⟨h1, fun i hi => h2 i (by omega) (by omega)⟩
  · exact Or.inr ⟨i, by omega, i3, i4⟩
theorem owN_iff {T : Int → Int} {n s : Int} {j : Nat} (hj : j < 22) : owN T n s = (j : Int) ↔ wdB T s (bhd T n s - s) j = true := by
  rcases owN_or T n s with ⟨h1, h2⟩ | ⟨i, hi, h1, h2⟩
  · rw [h1]
    exact ⟨fun q => by omega, fun q => absurd q (h2 j hj)⟩
  · rw [h1]
    constructor
    · intro q
      have : i = j := by omega
      rw [← this]; exact h2
    · intro q
      rw [wd_uniq hi hj h2 q]
/-- what stands next, by where and whether it sticks to what was before -/
def tkK (T : Int → Int) (n s : Int) (g : Bool) : Int := if g = true ∧ (kdO (byA T n s) = 1 ∨ kdO (byA T n s) = 2) then 4 else kdO (byA T n s)
def tkW (T : Int → Int) (n s : Int) (g : Bool) : Int := if tkK T n s g = 1 then owN T n s else -1
def tkS (T : Int → Int) (n s : Int) (g : Bool) : Int := if tkK T n s g = 3 then T s else -1
def nxS (T : Int → Int) (n s : Int) : Int := skp T n (bhd T n s)
def nxG (T : Int → Int) (n s : Int) (g : Bool) : Bool := decide (tkK T n s g = 1 ∨ tkK T n s g = 2) && decide (nxS T n s = bhd T n s)
/-- a place where something stands -/
def VC (T : Int → Int) (n s : Int) : Prop := 0 ≤ s ∧ s ≤ n ∧ (s < n → ¬ (T s = 32 ∨ T s = 10))
theorem nx_in {T : Int → Int} {n s : Int} (hT : Tp T n) (h : VC T n s) : VC T n (nxS T n s) ∧ s ≤ nxS T n s ∧ (s < n → s < nxS T n s) ∧ bhd T n s ≤ nxS T n s ∧ (∀ j, bhd T n s ≤ j → j < nxS T n s → (T j = 32 ∨ T j = 10)) := by
  obtain ⟨q1, q2, q3, q4, -⟩ := bhd_in hT h.1 h.2.1
  obtain ⟨p1, p2, p3, p4⟩ := skp_in (T := T) q2
  have h0 := h.1
  unfold nxS
  exact ⟨⟨by omega, p2, p4⟩, by omega, fun q => by have := q3 q; omega, p1, p3⟩
theorem tkK_or {T : Int → Int} {n s : Int} {g : Bool} (hT : Tp T n) (h : VC T n s) : (tkK T n s g = 0 ∧ s = n) ∨ (s < n ∧ ((tkK T n s g = 1 ∧ g = false ∧ kdO (T s) = 1) ∨ (tkK T n s g = 2 ∧ g = false ∧ kdO (T s) = 2) ∨ (tkK T n s g = 3 ∧ kdO (T s) = 3) ∨ (tkK T n s g = 4 ∧ g = true ∧ (kdO (T s) = 1 ∨ kdO (T s) = 2)))) := by
  obtain ⟨q1, q2, q3, q4, q5⟩ := bhd_in hT h.1 h.2.1
  by_cases e : s = n
  · left
    unfold tkK
    have := q5.2 e
    rw [if_neg (by omega), this]
    exact ⟨rfl, e⟩
  · right
    have hs : s < n := by have := h.2.1; omega
    refine ⟨hs, ?_⟩
    unfold tkK
    rw [byA_in h.1 hs]
    have hne : kdO (T s) ≠ 0 := fun q => e (q5.1 (by rw [byA_in h.1 hs]; exact q))
    rcases kdO_or (T s) with ⟨a, -⟩ | ⟨a, -⟩ | ⟨a, -⟩ | ⟨a, -⟩
    · exact absurd a hne
    · cases g with
      | true => rw [if_pos ⟨rfl, Or.inl a⟩]; exact Or.inr (Or.inr (Or.inr ⟨rfl, rfl, Or.inl a⟩))
      | false => rw [if_neg (by simp)]; exact Or.inl ⟨a, rfl, a⟩
    · cases g with
      | true => rw [if_pos ⟨rfl, Or.inr a⟩]; exact Or.inr (Or.inr (Or.inr ⟨rfl, rfl, Or.inr a⟩))
      | false => rw [if_neg (by simp)]; exact Or.inr (Or.inl ⟨a, rfl, a⟩)
    · rw [if_neg (by omega)]; exact Or.inr (Or.inr (Or.inl ⟨a, a⟩))
/-! ===== the class's small parts of reading ===== -/
theorem sX6_byteA (k : Int) (b : Bool) (μ : Nat → Int → Int) (h2 : μ 2 1 ≤ 1600) : ∀ d, 1 ≤ d → mCallN d 191 [mP 2, mI k] (SH, μ, RHO b) = some (byA (μ 3) (μ 2 1) k, SH, μ, RHO b) := deep fun d _ => by
  refine cal_eq (cal_ev (fun r => call_X6_byteAt d b μ k) (ev_row (fun m => tX6_byteAt_0 _ m b μ k) ?_))
  unfold byA
  refine ev_br (fun e => ?_) (fun e => ev_br (fun e2 => ?_) (fun e2 => ?_))
  · rw [if_neg (by omega)]
    exact ev_row (fun m => tX6_byteAt_21 _ m b μ k) (ev_row (fun m => tX6_byteAt_22 _ m b μ k (-1)) (ev_ret ⟨rfl, rfl⟩))
  · rw [if_pos (by omega)]
    exact ev_if (by omega) (ev_row (fun m => tX6_byteAt_22 _ m b μ k _) (ev_ret ⟨rfl, rfl⟩))
  · rw [if_neg (by omega)]
    exact ev_row (fun m => tX6_byteAt_21 _ m b μ k) (ev_row (fun m => tX6_byteAt_22 _ m b μ k (-1)) (ev_ret ⟨rfl, rfl⟩))
theorem sX4_kindOf (c : Int) (b : Bool) (μ : Nat → Int → Int) : ∀ d, 1 ≤ d → mCallN d 162 [mI c] (SH, μ, RHO b) = some (kdO c, SH, μ, RHO b) := deep fun d _ => by
  refine cal_eq (cal_ev (fun r => call_X4_kindOf d b μ c) (ev_row (fun m => tX4_kindOf_0 _ m b μ c) ?_))
  have r3 : kdO c = 3 → Ev (fun m => mRun (mCallN d) kX4_kindOf m 37 [some (mI c)] [] (SH, μ, RHO b)) b (fun v' μ2 => v' = kdO c ∧ μ2 = μ) := fun h => ev_row (fun m => tX4_kindOf_37 _ m b μ c) (ev_row (fun m => tX4_kindOf_38 _ m b μ c 3) (ev_ret ⟨h.symm, rfl⟩))
  have r21 : c ≠ -1 → ¬ (97 ≤ c ∧ c ≤ 122) → Ev (fun m => mRun (mCallN d) kX4_kindOf m 21 [some (mI c)] [] (SH, μ, RHO b)) b (fun v' μ2 => v' = kdO c ∧ μ2 = μ) := fun h1 h2 => by
    refine ev_row (fun m => tX4_kindOf_21 _ m b μ c) (ev_br (fun e => r3 ?_) (fun e => ev_br (fun e2 => r3 ?_) (fun e2 => ev_row (fun m => tX4_kindOf_38 _ m b μ c 2) (ev_ret ⟨?_, rfl⟩))))
    · unfold kdO; rw [if_neg h1, if_neg h2, if_neg (by omega)]
    · unfold kdO; rw [if_neg h1, if_neg h2, if_neg (by omega)]
    · unfold kdO; rw [if_neg h1, if_neg h2, if_pos (by omega)]
  refine ev_br (fun e => ev_ret ⟨?_, rfl⟩) (fun e => ev_br (fun e2 => r21 e (by omega)) (fun e2 => ev_br (fun e3 => r21 e (by omega)) (fun e3 => ev_ret ⟨?_, rfl⟩)))
  · unfold kdO; rw [if_pos e]
  · unfold kdO; rw [if_neg e, if_pos (by omega)]
/-- a word is own: all six places -/
theorem six_iff {T : Int → Int} {s len : Int} {j : Nat} (hj : j < 22) (l1 : 1 ≤ len) (l6 : len ≤ 6) (hl : ∀ i, 0 ≤ i → i < len → kdO (T (s + i)) = 1) : (∀ k : Nat, k < 6 → xWords.getD (6 * j + k) 0 = if (k : Int) < len then T (s + (k : Int)) else 32) ↔ wdB T s len j = true := by
  obtain ⟨⟨t1, t2⟩, t3⟩ := wd_tab hj
  have hlet : ∀ i : Int, 0 ≤ i → i < len → 97 ≤ T (s + i) ∧ T (s + i) ≤ 122 := fun i i0 i1 => by
    rcases kdO_or (T (s + i)) with ⟨q, -⟩ | ⟨q, q2⟩ | ⟨q, -⟩ | ⟨q, -⟩
    · have := hl i i0 i1; omega
    · exact q2
    · have := hl i i0 i1; omega
    · have := hl i i0 i1; omega
  rw [wdB_iff]
  constructor
  · intro h
    have hle : len = ((wLen.getD j 0 : Nat) : Int) := by
      rcases Int.lt_trichotomy len ((wLen.getD j 0 : Nat) : Int) with c | c | c
      · have h1 := h len.toNat (by omega)
        rw [if_neg (by omega)] at h1
        have := ((t3 len.toNat (by omega)).1 (by omega))
        omega
      · exact c
      · have h1 := h (wLen.getD j 0) (by omega)
        rw [if_pos (by omega)] at h1
        have h2 := (t3 (wLen.getD j 0) (by omega)).2 (by omega)
        have := hlet ((wLen.getD j 0 : Nat) : Int) (by omega) c
        omega
    refine ⟨hle, fun i hi => ?_⟩
    have h1 := h i (by omega)
    rw [if_pos (by omega)] at h1
    exact h1.symm
  · rintro ⟨h1, h2⟩ k hk
    by_cases c : k < wLen.getD j 0
    · rw [if_pos (by omega), h2 k c]
    · rw [if_neg (by omega)]; exact (t3 k hk).2 c
theorem sX4_ownWord {T : Int → Int} {n s : Int} (hT : Tp T n) (b : Bool) (μ : Nat → Int → Int) (h3 : μ 3 = T) (h7 : μ 1 7 = s) (h8 : μ 1 8 = bhd T n s) (h0 : 0 ≤ s) (h1 : s < n) (hk : kdO (T s) = 1) : ∀ d, 1 ≤ d → mCallN d 164 [mP 1] (SH, μ, RHO b) = some (owN T n s, SH, μ, RHO b) := deep fun d _ => by
  obtain ⟨r1, r2, r3, r4⟩ := bhd_run h0 h1 (Or.inl hk)
  have hn := hT.2.1
  generalize hlen : bhd T n s - s = len at *
  have hl : ∀ i, 0 ≤ i → i < len → kdO (T (s + i)) = 1 := fun i i0 i1 => by rw [r1 (s + i) (by omega) (by omega)]; exact hk
  refine cal_eq (cal_ev (fun r => call_X4_ownWord d b μ) (ev_row (fun m => tX4_ownWord_0 _ m b μ) ?_))
  rw [h7, h8, hlen, w32_id (by omega) (by omega)]
  have inner : ∀ (j : Nat), j < 22 → len ≤ 6 → ∀ (r k : Nat), k + r = 6 → (∀ i : Nat, i < k → xWords.getD (6 * j + i) 0 = if (i : Int) < len then T (s + (i : Int)) else 32) → (∀ v4, wdB T s len j = true → Ev (fun m => mRun (mCallN d) kX4_ownWord m 93 [some (mP 1), some (mI len), some (mI j), some (mI 1), some (mI v4)] [] (SH, μ, RHO b)) b (fun v' μ2 => v' = owN T n s ∧ μ2 = μ)) → (∀ v4, ¬ wdB T s len j = true → Ev (fun m => mRun (mCallN d) kX4_ownWord m 93 [some (mP 1), some (mI len), some (mI j), some (mI 0), some (mI v4)] [] (SH, μ, RHO b)) b (fun v' μ2 => v' = owN T n s ∧ μ2 = μ)) → Ev (fun m => mRun (mCallN d) kX4_ownWord m 29 [some (mP 1), some (mI len), some (mI j), some (mI 1), some (mI k)] [] (SH, μ, RHO b)) b (fun v' μ2 => v' = owN T n s ∧ μ2 = μ) := by
    intro j hj hl6 r
    induction r with
    | zero =>
      intro k hk6 hd hy hn'
      exact ev_row (fun m => tX4_ownWord_29 _ m b μ _ _ _ _) (ev_neg (by omega) (hy _ ((six_iff hj (by omega) hl6 hl).1 (fun i hi => hd i (by omega)))))
    | succ r ih =>
      intro k hk6 hd hy hn'
      have E : ∀ _ : True, w32 (w32 ((j : Int) * 6) + (k : Int)) = ((6 * j + k : Nat) : Int) := fun _ => by
        rw [show w32 ((j : Int) * 6) = (j : Int) * 6 from w32_id (by omega) (by omega), w32_id (by omega) (by omega)]; omega
      have E2 : ∀ _ : True, w32 (s + (k : Int)) = s + (k : Int) := fun _ => w32_id (by omega) (by omega)
      have E3 : ∀ _ : True, w32 ((k : Int) + 1) = ((k + 1 : Nat) : Int) := fun _ => by rw [w32_id (by omega) (by omega)]; rfl
      refine ev_row (fun m => tX4_ownWord_29 _ m b μ _ _ _ _) (ev_pos (by omega) (ev_neg (by decide) ?_))
      rw [E trivial, h7, E2 trivial, h3, Int.toNat_natCast]
      refine ev_if (by omega) ?_
      have go : ∀ c : Int, (c = if (k : Int) < len then T (s + (k : Int)) else 32) → Ev (fun m => mRun (mCallN d) kX4_ownWord m 78 [some (mP 1), some (mI len), some (mI j), some (mI 1), some (mI k)] [mI c, mI (xWords.getD (6 * j + k) 0)] (SH, μ, RHO b)) b (fun v' μ2 => v' = owN T n s ∧ μ2 = μ) := fun c hc => by
        refine ev_row (fun m => tX4_ownWord_78 _ m b μ _ _ _ _ _ _) (ev_br (fun e => ?_) (fun e => ?_))
        · refine ev_row (fun m => tX4_ownWord_86 _ m b μ _ _ _ _ _) ?_
          rw [E3 trivial]
          refine ih (k + 1) (by omega) (fun i hi => ?_) hy hn'
          by_cases q : i = k
          · rw [q, e, hc]
          · exact hd i (by omega)
        · refine ev_row (fun m => tX4_ownWord_86 _ m b μ _ _ _ _ _) ?_
          refine ev_row (fun m => tX4_ownWord_29 _ m b μ _ _ _ _) ?_
          have hno : ¬ wdB T s len j = true := fun h => e (by rw [hc]; exact (six_iff hj (by omega) hl6 hl).2 h k (by omega))
          exact ev_br (fun _ => ev_pos rfl (hn' _ hno)) (fun _ => hn' _ hno)
      refine ev_br (fun e => ev_if (by omega) (go _ (by rw [if_pos e]))) (fun e => go _ (by rw [if_neg e]))
  have outer : ∀ (r j : Nat) (v3 v4 : Option mV), j + r = 22 → owN T n s = owK T s len r j → Ev (fun m => mRun (mCallN d) kX4_ownWord m 12 [some (mP 1), some (mI len), some (mI j), v3, v4] [] (SH, μ, RHO b)) b (fun v' μ2 => v' = owN T n s ∧ μ2 = μ) := by
    intro r
    induction r with
    | zero =>
      intro j v3 v4 hj he
      refine ev_row (fun m => tX4_ownWord_12 _ m b μ _ _ v3 v4) (ev_neg (by omega) (ev_row (fun m => tX4_ownWord_105 _ m b μ _ _ v3 v4) (ev_ret ⟨?_, rfl⟩)))
      rw [he]; rfl
    | succ r ih =>
      intro j v3 v4 hj he
      refine ev_row (fun m => tX4_ownWord_12 _ m b μ _ _ v3 v4) (ev_pos (by omega) (ev_br (fun e => ev_row (fun m => tX4_ownWord_105 _ m b μ _ _ v3 v4) (ev_ret ⟨?_, rfl⟩)) (fun e => ?_)))
      · rcases owN_or T n s with ⟨q, -⟩ | ⟨i, hi, -, q⟩
        · exact q.symm
        · rw [hlen, wdB_iff] at q
          have := (wd_tab hi).1
          omega
      · refine inner j (by omega) (by omega) 6 0 rfl (fun i hi => absurd hi (by omega)) (fun v4 hy => ?_) (fun v4 hn' => ?_)
        · refine ev_row (fun m => tX4_ownWord_93 _ m b μ _ _ _ _) (ev_neg (by decide) (ev_ret ⟨?_, rfl⟩))
          rw [he, owK, if_pos hy]
        · refine ev_row (fun m => tX4_ownWord_93 _ m b μ _ _ _ _) (ev_pos rfl ?_)
          rw [show w32 ((j : Int) + 1) = ((j + 1 : Nat) : Int) from by rw [w32_id (by omega) (by omega)]; rfl]
          refine ih (j + 1) _ _ (by omega) ?_
          rw [he, owK, if_neg hn']
  exact outer 22 0 none none rfl (by unfold owN; rw [hlen])
