theorem R_msc {b : Bool} {μ μ' : Nat → Int → Int} (hR : R b μ) (ht : ∀ a, a ∈ twL b → μ' a = μ a) (hk : ∀ a, a ∈ [44, 45, 46, 47, 50, 74, 133, 138] → μ' a = μ a) (hh : ∀ a : Nat, 52 ≤ a → a < 72 → μ' a = μ a) (h5 : ∀ j, j ∈ [58, 59] → μ' 96 j = μ 96 j) (hm : Rmsc b μ') : R b μ' := by
  obtain ⟨r1, r2, r3, r4, r5⟩ := hR
  refine ⟨Rtw_same ht r1, ⟨?_, ?_⟩, Rhis_same ht (hk 50 (by decide)) hh (hk 138 (by decide)) h5 r3, hm, Rsta_same ht (fun a ha => hk a ?_) r5⟩
  · rw [hk 74 (by decide), hk 133 (by decide)]; exact r2.1
  · rw [hk 74 (by decide)]; exact rowR_same ht r2.2
  · simp only [List.mem_cons, List.not_mem_nil, or_false] at ha ⊢; omega
def okS (f : Int → Int) (P : Int) : Nat → Int → Prop
  | 0, _ => True
  | k + 1, i => (f i ≤ 23 ∧ (0 ≤ f (i + 1) ∧ f (i + 1) < P) ∧ f (i + 2) ≤ 1) ∧ okS f P k (i + 3)
theorem okS_all {f : Int → Int} {P : Int} : ∀ (k : Nat) (i : Int), okS f P k i → ∀ j, 0 ≤ j → j < (k : Int) → f (i + 3 * j) ≤ 23 ∧ (0 ≤ f (i + 3 * j + 1) ∧ f (i + 3 * j + 1) < P) ∧ f (i + 3 * j + 2) ≤ 1
  | 0, _, _, j, h0, h1 => absurd h0 (by omega)
  | k + 1, i, h, j, h0, h1 => by
    by_cases e : j = 0
    · rw [e, show i + 3 * 0 = i by omega]; exact h.1
    · have := okS_all k (i + 3) h.2 (j - 1) (by omega) (by omega)
      rw [show i + 3 + 3 * (j - 1) = i + 3 * j by omega] at this
      exact this
theorem okS_congr {f g : Int → Int} {P : Int} : ∀ (k : Nat) (i : Int), (∀ x, i ≤ x → x < i + 3 * k → g x = f x) → (okS g P k i ↔ okS f P k i)
  | 0, _, _ => Iff.rfl
  | k + 1, i, h => by
    rw [okS, okS, h i (by omega) (by omega), h (i + 1) (by omega) (by omega), h (i + 2) (by omega) (by omega), okS_congr k (i + 3) (fun x x0 x1 => h x (by omega) (by omega))]
theorem eX9_see {d : Nat} (hd : 2 ≤ d) {b : Bool} {L : Int} {μ : Nat → Int → Int} (hL0 : 0 ≤ L) (hL : L ≤ 60) : ∀ (k : Nat) (i : Int), 0 ≤ i → i + 3 * k = L → Ev (fun n => mRun (mCallN d) kX9_see n 40 [some (mP 0), some (mI L), some (mI i)] [] (SH, μ, RHO b)) b (fun v μ' => (okS (μ 3) (μ (tw b + 1) 3) k i ∧ v = L / 3 ∧ μ' = m2 (mCp μ 3 76 0 0 L) 0 10 (L / 3)) ∨ (¬ okS (μ 3) (μ (tw b + 1) 3) k i ∧ v = -1 ∧ μ' = μ)) := by
  intro k
  induction k with
  | zero =>
    intro i h0 hk
    have e : iDiv L 3 = L / 3 := iDiv_p hL0 (by omega) (by decide) (by decide)
    refine ev_row (fun n => tX9_see_40 _ n b μ L i) (ev_neg (by omega) (ev_if (by omega) (ev_ret (Or.inl ⟨trivial, ?_, ?_⟩))))
    · rw [m2_at, if_pos rfl, e]
    · rw [e]
  | succ k ih =>
    intro i h0 hk
    have e1 : w32 (i + 1) = i + 1 := w32_id (by omega) (by omega)
    have e2 : w32 (i + 2) = i + 2 := w32_id (by omega) (by omega)
    have e3 : w32 (i + 3) = i + 3 := w32_id (by omega) (by omega)
    have bad : ¬ okS (μ 3) (μ (tw b + 1) 3) (k + 1) i → Ev (fun n => mRun (mCallN d) kX9_see n 92 [some (mP 0), some (mI L), some (mI i)] [] (SH, μ, RHO b)) b (fun v μ' => (okS (μ 3) (μ (tw b + 1) 3) (k + 1) i ∧ v = L / 3 ∧ μ' = m2 (mCp μ 3 76 0 0 L) 0 10 (L / 3)) ∨ (¬ okS (μ 3) (μ (tw b + 1) 3) (k + 1) i ∧ v = -1 ∧ μ' = μ)) := fun h => ev_row (fun n => tX9_see_92 _ n b μ L i) (ev_ret (Or.inr ⟨h, rfl, rfl⟩))
    have hP := sX9_isPerson (μ 3 (i + 1)) b μ d hd
    refine ev_row (fun n => tX9_see_40 _ n b μ L i) (ev_pos (by omega) (ev_if (by omega) (ev_br (fun c => bad (fun h => by have := h.1.1; omega)) (fun c => ?_))))
    rw [e1, e2, e3]
    refine ev_if (by omega) ?_
    by_cases q : 0 ≤ μ 3 (i + 1) ∧ μ 3 (i + 1) < μ (tw b + 1) 3
    · rw [t01_pos q] at hP
      refine ev_call hP (ev_neg (by show ¬ ((1 : Int) = 0); decide) (ev_if (by omega) (ev_br (fun c2 => bad (fun h => ?_)) (fun c2 => ?_))))
      · have c2' : 1 < μ 3 (i + 2) := c2
        have := h.1.2.2; omega
      · have c2' : ¬ 1 < μ 3 (i + 2) := c2
        refine ev_mono (ih (i + 3) (by omega) (by omega)) (fun v μ' h => ?_)
        have : okS (μ 3) (μ (tw b + 1) 3) (k + 1) i ↔ okS (μ 3) (μ (tw b + 1) 3) k (i + 3) := ⟨fun h => h.2, fun h => ⟨⟨by omega, q, by omega⟩, h⟩⟩
        rw [this]; exact h
    · rw [t01_neg q] at hP
      exact ev_call hP (ev_pos rfl (bad (fun h => q h.1.2.1)))
theorem eX10_see_85 {Φ : mOrc} {b : Bool} {L : Int} {μ0 : Nat → Int → Int} (hL0 : 0 ≤ L) (hL : L ≤ 60) : ∀ (k : Nat) (i : Int) (μ : Nat → Int → Int), 0 ≤ i → i + k = L → μ = mCp μ0 97 141 0 0 i → Ev (fun n => mRun Φ kX10_see n 85 [some (mP 96), some (mI L), some (mI i)] [] (SH, μ, RHO b)) b (fun v μ' => v = L / 3 ∧ μ' = m2 (mCp μ0 97 141 0 0 L) 96 67 (L / 3)) := by
  have e : iDiv L 3 = L / 3 := iDiv_p hL0 (by omega) (by decide) (by decide)
  intro k
  induction k with
  | zero =>
    intro i μ h0 hk hμ
    refine ev_row (fun n => tX10_see_85 _ n b μ L i) (ev_neg (by omega) (ev_ret ⟨?_, ?_⟩))
    · rw [m2_at, if_pos rfl, e]
    · rw [e, hμ, show i = L by omega]
  | succ k ih =>
    intro i μ h0 hk hμ
    have e1 : w32 (i + 1) = i + 1 := w32_id (by omega) (by omega)
    refine ev_row (fun n => tX10_see_85 _ n b μ L i) (ev_pos (by omega) (ev_if (by omega) (ev_if (by omega) ?_)))
    rw [e1]
    refine ih (i + 1) _ (by omega) (by omega) ?_
    have := mCp_step (μ := μ0) (s := 97) (d := 141) (sp := 0) (dp := 0) (n := i) h0
    rw [Int.zero_add] at this
    rw [hμ, mCp_ne (by decide : (97 : Nat) ≠ 141)]; exact this
theorem eX10_see {d : Nat} (hd : 2 ≤ d) {b : Bool} {L : Int} {μ : Nat → Int → Int} (hL0 : 0 ≤ L) (hL : L ≤ 60) (hc : 0 ≤ μ 120 6 ∧ μ 120 6 ≤ 12) : ∀ (k : Nat) (i : Int), 0 ≤ i → i + 3 * k = L → Ev (fun n => mRun (mCallN d) kX10_see n 32 [some (mP 96), some (mI L), some (mI i)] [] (SH, μ, RHO b)) b (fun v μ' => (okS (μ 97) (μ 120 6) k i ∧ v = L / 3 ∧ μ' = m2 (mCp μ 97 141 0 0 L) 96 67 (L / 3)) ∨ (¬ okS (μ 97) (μ 120 6) k i ∧ v = -1 ∧ μ' = μ)) := by
  intro k
  induction k with
  | zero =>
    intro i h0 hk
    refine ev_row (fun n => tX10_see_32 _ n b μ L i) (ev_neg (by omega) ?_)
    exact ev_mono (eX10_see_85 hL0 hL L.toNat 0 μ (by omega) (by omega) (by rw [mCp_0])) (fun v μ' h => Or.inl ⟨trivial, h.1, h.2⟩)
  | succ k ih =>
    intro i h0 hk
    have e1 : w32 (i + 1) = i + 1 := w32_id (by omega) (by omega)
    have e2 : w32 (i + 2) = i + 2 := w32_id (by omega) (by omega)
    have e3 : w32 (i + 3) = i + 3 := w32_id (by omega) (by omega)
    have bad : ¬ okS (μ 97) (μ 120 6) (k + 1) i → Ev (fun n => mRun (mCallN d) kX10_see n 75 [some (mP 96), some (mI L), some (mI i)] [] (SH, μ, RHO b)) b (fun v μ' => (okS (μ 97) (μ 120 6) (k + 1) i ∧ v = L / 3 ∧ μ' = m2 (mCp μ 97 141 0 0 L) 96 67 (L / 3)) ∨ (¬ okS (μ 97) (μ 120 6) (k + 1) i ∧ v = -1 ∧ μ' = μ)) := fun h => ev_row (fun n => tX10_see_75 _ n b μ L i) (ev_ret (Or.inr ⟨h, rfl, rfl⟩))
    have hP := sX10_isPerson (μ 97 (i + 1)) b μ hc.1 hc.2 d hd
    refine ev_row (fun n => tX10_see_32 _ n b μ L i) (ev_pos (by omega) (ev_if (by omega) (ev_br (fun c => bad (fun h => by have := h.1.1; omega)) (fun c => ?_))))
    rw [e1, e2, e3]
    refine ev_if (by omega) ?_
    by_cases q : 0 ≤ μ 97 (i + 1) ∧ μ 97 (i + 1) < μ 120 6
    · rw [t01_pos q] at hP
      refine ev_call hP (ev_neg (by show ¬ ((1 : Int) = 0); decide) (ev_if (by omega) (ev_br (fun c2 => bad (fun h => ?_)) (fun c2 => ?_))))
      · have c2' : 1 < μ 97 (i + 2) := c2
        have := h.1.2.2; omega
      · have c2' : ¬ 1 < μ 97 (i + 2) := c2
        refine ev_mono (ih (i + 3) (by omega) (by omega)) (fun v μ' h => ?_)
        have : okS (μ 97) (μ 120 6) (k + 1) i ↔ okS (μ 97) (μ 120 6) k (i + 3) := ⟨fun h => h.2, fun h => ⟨⟨by omega, q, by omega⟩, h⟩⟩
        rw [this]; exact h
    · rw [t01_neg q] at hP
      exact ev_call hP (ev_pos rfl (bad (fun h => q h.1.2.1)))
theorem p_see {b : Bool} {μ : Nat → Int → Int} (hR : R b μ) : ∀ d, 3 ≤ d → PairA d b μ 248 111 [] := deep fun d hd => by
  have hM := hR.2.2.2.1
  obtain ⟨⟨⟨t1, t2, t3⟩, t4⟩, m2', m3', m4', m5', m6'⟩ := hM
  have hcn := hR.1.1
  have hC := Rcnt_C hcn
  obtain ⟨-, -, -, ⟨d1, d2, d3⟩⟩ := hcn
  have er : iRem (μ 2 1) 3 = μ 2 1 % 3 := iRem_p t2 (by omega) (by decide) (by decide)
  have ed : iDiv (μ 2 1) 3 = μ 2 1 / 3 := iDiv_p t2 (by omega) (by decide) (by decide)
  have tw1 : tw b + 1 ≠ 2 := by have := tw_or b; omega
  have hS0 : ∀ μ', (∀ a, a ≠ 2 → a ≠ 96 → μ' a = μ a) → (∀ j, j ≠ 1 → μ' 96 j = μ 96 j) → μ' 2 1 = 0 → μ' 96 1 = 0 → R b μ' := fun μ' h1 h2 h3 h4 => R_tape hR (fun a a1 a2 a3 a4 => h1 a a1 a4) h2 ⟨⟨by rw [h3, h4], by omega⟩, fun i i0 i1 => by rw [h1 97 (by decide) (by decide), h1 3 (by decide) (by decide)]; exact t4 i i0 i1⟩
  by_cases c : 3 ≤ μ 2 1 ∧ μ 2 1 ≤ 60 ∧ μ 2 1 % 3 = 0
  · have hA : Cal (d + 1) 248 [mP 0] b μ (fun v μ' => (okS (μ 3) (μ (tw b + 1) 3) (μ 2 1 / 3).toNat 0 ∧ v = μ 2 1 / 3 ∧ μ' = m2 (mCp (m2 μ 2 1 0) 3 76 0 0 (μ 2 1)) 0 10 (μ 2 1 / 3)) ∨ (¬ okS (μ 3) (μ (tw b + 1) 3) (μ 2 1 / 3).toNat 0 ∧ v = -1 ∧ μ' = m2 μ 2 1 0)) := by
      refine cal_ev (fun r => call_X9_see d b μ) (ev_row (fun n => tX9_see_0 _ n b μ) (ev_neg (by omega) (ev_neg (by omega) (ev_pos (by rw [er]; omega) ?_))))
      have := eX9_see (d := d) (by omega) (b := b) (L := μ 2 1) (μ := m2 μ 2 1 0) t2 (by omega) (μ 2 1 / 3).toNat 0 (by decide) (by omega)
      rw [m2_ne (by decide : (3 : Nat) ≠ 2), m2_ne tw1] at this
      exact this
    obtain ⟨v, μ1, h1, h2⟩ := hA
    have key : ∀ μ1, (∀ a, a ≠ 0 → a ≠ 2 → a ≠ 76 → μ1 a = μ a) → Cal (d + 1) 111 [mP 96] b μ1 (fun v μ' => (okS (μ 3) (μ (tw b + 1) 3) (μ 2 1 / 3).toNat 0 ∧ v = μ 2 1 / 3 ∧ μ' = m2 (mCp (m2 μ1 96 1 0) 97 141 0 0 (μ 2 1)) 96 67 (μ 2 1 / 3)) ∨ (¬ okS (μ 3) (μ (tw b + 1) 3) (μ 2 1 / 3).toNat 0 ∧ v = -1 ∧ μ' = m2 μ1 96 1 0)) := fun μ1 hk => by
      have k96 : μ1 96 1 = μ 2 1 := by rw [hk 96 (by decide) (by decide) (by decide)]; exact t1
      refine cal_ev (fun r => call_X10_see d b μ1) (ev_row (fun n => tX10_see_0 _ n b μ1) (ev_neg (by omega) (ev_pos (by rw [k96, er]; omega) (ev_neg (by rw [k96, ed]; omega) ?_))))
      rw [k96]
      have h120 : m2 μ1 96 1 0 120 6 = μ (tw b + 1) 3 := by rw [m2_ne (by decide), hk 120 (by decide) (by decide) (by decide)]; exact d1
      have h97 : m2 μ1 96 1 0 97 = μ 97 := by rw [m2_ne (by decide), hk 97 (by decide) (by decide) (by decide)]
      have := eX10_see (d := d) (by omega) (b := b) (L := μ 2 1) (μ := m2 μ1 96 1 0) t2 (by omega) (by rw [h120]; omega) (μ 2 1 / 3).toNat 0 (by decide) (by omega)
      rw [h120, h97, okS_congr (f := μ 3) _ _ (fun x x0 x1 => (t4 x (by omega) (by omega)).1)] at this
      exact this
    rcases h2 with ⟨o1, o2, o3⟩ | ⟨o1, o2, o3⟩
    · have hk1 : ∀ a, a ≠ 0 → a ≠ 2 → a ≠ 76 → μ1 a = μ a := fun a a1 a2 a3 => by rw [o3, m2_ne a1, mCp_ne a3, m2_ne a2]
      have k0 : ∀ j, j ≠ 10 → μ1 0 j = μ 0 j := fun j hj => by rw [o3, m2_at, if_neg hj, mCp_ne (by decide), m2_ne (by decide)]
      have k010 : μ1 0 10 = μ 2 1 / 3 := by rw [o3, m2_at, if_pos rfl]
      have k2 : μ1 2 1 = 0 := by rw [o3, m2_ne (by decide), mCp_ne (by decide), m2_at, if_pos rfl]
      have k76 : ∀ i, 0 ≤ i → i < μ 2 1 → μ1 76 i = μ 3 i := fun i i0 i1 => by rw [o3, m2_ne (by decide), mCp_at, if_pos (by omega), m2_ne (by decide)]; congr 1; omega
      obtain ⟨v', μ2, g1, g2⟩ := key μ1 hk1
      rcases g2 with ⟨-, u2, u3⟩ | ⟨u1, -, -⟩
      · rw [u2, ← o2] at g1
        have jk : ∀ a, a ≠ 96 → a ≠ 141 → μ2 a = μ1 a := fun a a1 a2 => by rw [u3, m2_ne a1, mCp_ne a2, m2_ne a1]
        have j96 : ∀ j, j ≠ 1 → j ≠ 67 → μ2 96 j = μ 96 j := fun j a1 a2 => by rw [u3, m2_at, if_neg a2, mCp_ne (by decide), m2_at, if_neg a1, hk1 96 (by decide) (by decide) (by decide)]
        have j1 : μ2 96 1 = 0 := by rw [u3, m2_at, if_neg (by decide), mCp_ne (by decide), m2_at, if_pos rfl]
        have j67 : μ2 96 67 = μ 2 1 / 3 := by rw [u3, m2_at, if_pos rfl]
        have j141 : ∀ i, 0 ≤ i → i < μ 2 1 → μ2 141 i = μ 97 i := fun i i0 i1 => by rw [u3, m2_ne (by decide), mCp_at, if_pos (by omega), m2_ne (by decide), hk1 97 (by decide) (by decide) (by decide)]; congr 1; omega
        have kk : ∀ a, a ≠ 0 → a ≠ 2 → a ≠ 76 → a ≠ 96 → a ≠ 141 → μ2 a = μ a := fun a a1 a2 a3 a4 a5 => by rw [jk a a4 a5, hk1 a a1 a2 a3]
        have ht : ∀ a, a ∈ twL b → μ2 a = μ a := fun a ha => by
          have := twL_or ha
          have := tw_or b
          exact kk a (by omega) (by omega) (by omega) (by omega) (by omega)
        refine ⟨v, μ1, μ2, h1, g1, R_msc hR ht (fun a ha => ?_) (fun a a0 a1 => kk a (by omega) (by omega) (by omega) (by omega) (by omega)) (fun j hj => ?_) ⟨⟨⟨?_, ?_⟩, fun i i0 i1 => ?_⟩, ?_, ⟨⟨?_, ?_⟩, fun k k0' k1' => ?_⟩, ?_, ?_, ?_⟩⟩
        · simp only [List.mem_cons, List.not_mem_nil, or_false] at ha
          exact kk a (by omega) (by omega) (by omega) (by omega) (by omega)
        · simp only [List.mem_cons, List.not_mem_nil, or_false] at hj
          exact j96 j (by omega) (by omega)
        · rw [j1, jk 2 (by decide) (by decide), k2]
        · rw [jk 2 (by decide) (by decide), k2]; omega
        · rw [kk 97 (by decide) (by decide) (by decide) (by decide) (by decide), kk 3 (by decide) (by decide) (by decide) (by decide) (by decide)]; exact t4 i i0 i1
        · rw [j96 7 (by decide) (by decide), j96 8 (by decide) (by decide), kk 1 (by decide) (by decide) (by decide) (by decide) (by decide)]; exact m2'
        · rw [j67, jk 0 (by decide) (by decide), k010]
        · rw [jk 0 (by decide) (by decide), k010]; omega
        · rw [jk 0 (by decide) (by decide), k010] at k1'
          rw [jk 76 (by decide) (by decide), ht (tw b + 1) (by simp [twL]), k76 _ (by omega) (by omega), k76 _ (by omega) (by omega), k76 _ (by omega) (by omega), j141 _ (by omega) (by omega), j141 _ (by omega) (by omega), j141 _ (by omega) (by omega)]
          have q := okS_all _ _ o1 k k0' (by omega)
          rw [Int.zero_add] at q
          have q1 := t4 (3 * k) (by omega) (by omega)
          have q2 := t4 (3 * k + 1) (by omega) (by omega)
          have q3 := t4 (3 * k + 2) (by omega) (by omega)
          omega
        · rw [j96 60 (by decide) (by decide), jk 0 (by decide) (by decide), k0 11 (by decide)]; exact m4'
        · unfold Rimg at m5' ⊢
          rw [j96 71 (by decide) (by decide), kk 72 (by decide) (by decide) (by decide) (by decide) (by decide), kk 73 (by decide) (by decide) (by decide) (by decide) (by decide), kk 143 (by decide) (by decide) (by decide) (by decide) (by decide)]; exact m5'
        · intro j hj i hi
          rw [kk (98 + j) (by omega) (by omega) (by omega) (by omega) (by omega)]; exact m6' j hj i hi
      · exact absurd o1 u1
    · have hk1 : ∀ a, a ≠ 0 → a ≠ 2 → a ≠ 76 → μ1 a = μ a := fun a a1 a2 a3 => by rw [o3, m2_ne a2]
      obtain ⟨v', μ2, g1, g2⟩ := key μ1 hk1
      rcases g2 with ⟨u1, -, -⟩ | ⟨-, u2, u3⟩
      · exact absurd u1 o1
      · rw [u2, ← o2] at g1
        refine ⟨v, μ1, μ2, h1, g1, hS0 μ2 (fun a a1 a2 => by rw [u3, m2_ne a2, o3, m2_ne a1]) (fun j hj => by rw [u3, m2_at, if_neg hj, o3, m2_ne (by decide)]) (by rw [u3, m2_ne (by decide), o3, m2_at, if_pos rfl]) (by rw [u3, m2_at, if_pos rfl])⟩
  · have h1 : mCallN (d + 1) 248 [mP 0] (SH, μ, RHO b) = some (-1, SH, m2 μ 2 1 0, RHO b) := by
      refine cal_eq (cal_ev (fun r => call_X9_see d b μ) (ev_row (fun n => tX9_see_0 _ n b μ) ?_))
      have bad : Ev (fun n => mRun (mCallN d) kX9_see n 36 [some (mP 0), some (mI (μ 2 1)), none] [] (SH, m2 μ 2 1 0, RHO b)) b (fun v' μ2 => v' = -1 ∧ μ2 = m2 μ 2 1 0) := ev_row (fun n => tX9_see_36 _ n b _ (μ 2 1)) (ev_ret ⟨rfl, rfl⟩)
      refine ev_br (fun _ => bad) (fun c1 => ev_br (fun _ => bad) (fun c2 => ev_br (fun c3 => ?_) (fun _ => bad)))
      rw [er] at c3; exact absurd ⟨by omega, by omega, by omega⟩ c
    have h2 : mCallN (d + 1) 111 [mP 96] (SH, m2 μ 2 1 0, RHO b) = some (-1, SH, m2 (m2 μ 2 1 0) 96 1 0, RHO b) := by
      have k96 : m2 μ 2 1 0 96 1 = μ 2 1 := by rw [m2_ne (by decide)]; exact t1
      refine cal_eq (cal_ev (fun r => call_X10_see d b _) (ev_row (fun n => tX10_see_0 _ n b _) ?_))
      have bad : ∀ v1, Ev (fun n => mRun (mCallN d) kX10_see n 28 [some (mP 96), some (mI v1), none] [] (SH, m2 (m2 μ 2 1 0) 96 1 0, RHO b)) b (fun v' μ2 => v' = -1 ∧ μ2 = m2 (m2 μ 2 1 0) 96 1 0) := fun v1 => ev_row (fun n => tX10_see_28 _ n b _ v1) (ev_ret ⟨rfl, rfl⟩)
      refine ev_br (fun _ => bad _) (fun c1 => ev_br (fun c3 => ev_br (fun _ => bad _) (fun c2 => ?_)) (fun _ => bad _))
      rw [k96, er] at c3
      rw [k96, ed] at c2
      rw [k96] at c1
      exact absurd ⟨by omega, by omega, by omega⟩ c
    exact ⟨-1, _, _, h1, h2, hS0 _ (fun a a1 a2 => by rw [m2_ne a2, m2_ne a1]) (fun j hj => by rw [m2_at, if_neg hj, m2_ne (by decide)]) (by rw [m2_ne (by decide), m2_at, if_pos rfl]) (by rw [m2_at, if_pos rfl])⟩
