/-! ===== feed, see, seen ===== -/
theorem iAnd_255 (x : Int) : 0 ≤ iAnd x 255 ∧ iAnd x 255 ≤ 255 := by
  have h : (Int32.ofInt x &&& Int32.ofInt 255).toBitVec.toNat ≤ 255 := by
    rw [Int32.toBitVec_and, BitVec.toNat_and]
    exact Nat.le_trans Nat.and_le_right (by decide)
  unfold iAnd
  rw [bv_int rfl (by omega)]
  omega
def byt (v j : Int) : Int := iAnd (iShr v (24 - 8 * j)) 255
theorem eX6_putNumber {Φ : mOrc} {b : Bool} {v : Int} {μ0 : Nat → Int → Int} (h0 : 0 ≤ μ0 2 1) (h1 : μ0 2 1 + 4 ≤ 1600) : ∀ (k : Nat) (j : Int) (μ : Nat → Int → Int), 0 ≤ j → j + k = 4 → (∀ a, a ≠ 2 → a ≠ 3 → μ a = μ0 a) → μ 2 1 = μ0 2 1 + j → (∀ i, i ≠ 1 → μ 2 i = μ0 2 i) → (∀ x, μ 3 x = if μ0 2 1 ≤ x ∧ x < μ0 2 1 + j then byt v (x - μ0 2 1) else μ0 3 x) → Ev (fun n => mRun Φ kX6_putNumber n 3 [some (mP 2), some (mI v), some (mI (24 - 8 * j))] [] (SH, μ, RHO b)) b (fun _ μ' => (∀ a, a ≠ 2 → a ≠ 3 → μ' a = μ0 a) ∧ μ' 2 1 = μ0 2 1 + 4 ∧ (∀ i, i ≠ 1 → μ' 2 i = μ0 2 i) ∧ ∀ x, μ' 3 x = if μ0 2 1 ≤ x ∧ x < μ0 2 1 + 4 then byt v (x - μ0 2 1) else μ0 3 x) := by
  intro k
  induction k with
  | zero =>
    intro j μ j0 hk ha hl hi hx
    have hj : j = 4 := by omega
    subst hj
    exact ev_row (fun n => tX6_putNumber_3 _ n b μ v _) (ev_pos (by omega) (ev_row (fun n => tX6_putNumber_49 _ n b μ v _) (ev_ret ⟨ha, hl, hi, hx⟩)))
  | succ k ih =>
    intro j μ j0 hk ha hl hi hx
    have e1 : w32 (24 - 8 * j + (-8)) = 24 - 8 * (j + 1) := by rw [w32_id (by omega) (by omega)]; omega
    refine ev_row (fun n => tX6_putNumber_3 _ n b μ v _) (ev_neg (by omega) (ev_pos (by omega) (ev_if (by omega) ?_)))
    rw [e1, m2_ne (by decide : (2 : Nat) ≠ 3), w32_id (by omega) (by omega)]
    refine ih (j + 1) _ (by omega) (by omega) (fun a a1 a2 => by rw [m2_ne a1, m2_ne a2, ha a a1 a2]) (by rw [m2_at, if_pos rfl, hl]; omega) (fun i hi' => by rw [m2_at, if_neg hi', m2_ne (by decide), hi i hi']) (fun x => ?_)
    rw [m2_ne (by decide : (3 : Nat) ≠ 2), m2_at, hl, hx x]
    by_cases e : x = μ0 2 1 + j
    · rw [if_pos e, if_pos (by omega)]; unfold byt; congr 2; omega
    · rw [if_neg e]
      by_cases e2 : μ0 2 1 ≤ x ∧ x < μ0 2 1 + j
      · rw [if_pos e2, if_pos (by omega)]
      · rw [if_neg e2, if_neg (by omega)]
theorem sX6_putNumber (v : Int) (b : Bool) (μ : Nat → Int → Int) (h0 : 0 ≤ μ 2 1) (h1 : μ 2 1 + 4 ≤ 1600) : ∀ d, 1 ≤ d → Cal d 193 [mP 2, mI v] b μ (fun _ μ' => (∀ a, a ≠ 2 → a ≠ 3 → μ' a = μ a) ∧ μ' 2 1 = μ 2 1 + 4 ∧ (∀ i, i ≠ 1 → μ' 2 i = μ 2 i) ∧ ∀ x, μ' 3 x = if μ 2 1 ≤ x ∧ x < μ 2 1 + 4 then byt v (x - μ 2 1) else μ 3 x) := deepC fun d _ => by
  refine cal_ev (fun r => call_X6_putNumber d b μ v) (ev_row (fun n => tX6_putNumber_0 _ n b μ v) ?_)
  exact eX6_putNumber h0 h1 4 0 μ (by decide) (by decide) (fun _ _ _ => rfl) (by omega) (fun _ _ => rfl) (fun x => by rw [if_neg (by omega)])
def fW (a b c d e k : Int) : Int := if k < 4 then a else if k < 8 then b else if k < 12 then c else if k < 16 then d else e
def fB (a b c d e k : Int) : Int := byt (fW a b c d e k) (k % 4)
theorem eX10_feed {Φ : mOrc} {b : Bool} {p0 p1 p2 p3 p4 : Int} {μ0 : Nat → Int → Int} (h0 : 0 ≤ μ0 96 1) (h1 : μ0 96 1 + 20 ≤ 1600) : ∀ (k : Nat) (j : Int) (v7 : Option mV) (μ : Nat → Int → Int), 0 ≤ j → j + k = 20 → (∀ a, a ≠ 96 → a ≠ 97 → μ a = μ0 a) → μ 96 1 = μ0 96 1 + j → (∀ i, i ≠ 1 → μ 96 i = μ0 96 i) → (∀ x, μ 97 x = if μ0 96 1 ≤ x ∧ x < μ0 96 1 + j then fB p0 p1 p2 p3 p4 (x - μ0 96 1) else μ0 97 x) → Ev (fun n => mRun Φ kX10_feed n 18 [some (mP 96), some (mI p0), some (mI p1), some (mI p2), some (mI p3), some (mI p4), some (mI j), v7] [] (SH, μ, RHO b)) b (fun v μ' => v = μ0 96 1 + 20 ∧ (∀ a, a ≠ 96 → a ≠ 97 → μ' a = μ0 a) ∧ μ' 96 1 = μ0 96 1 + 20 ∧ (∀ i, i ≠ 1 → μ' 96 i = μ0 96 i) ∧ ∀ x, μ' 97 x = if μ0 96 1 ≤ x ∧ x < μ0 96 1 + 20 then fB p0 p1 p2 p3 p4 (x - μ0 96 1) else μ0 97 x) := by
  intro k
  induction k with
  | zero =>
    intro j v7 μ j0 hk ha hl hi hx
    have hj : j = 20 := by omega
    subst hj
    exact ev_row (fun n => tX10_feed_18 _ n b μ p0 p1 p2 p3 p4 20 v7) (ev_neg (by decide) (ev_ret ⟨hl, ha, hl, hi, hx⟩))
  | succ k ih =>
    intro j v7 μ j0 hk ha hl hi hx
    have e0 : w32 (j + 1) = j + 1 := w32_id (by omega) (by omega)
    have e1 : iRem j 4 = j % 4 := iRem_p j0 (by omega) (by decide) (by decide)
    have e2 : w32 (3 - j % 4) = 3 - j % 4 := w32_id (by omega) (by omega)
    have e3 : w32 (8 * (3 - j % 4)) = 24 - 8 * (j % 4) := by rw [w32_id (by omega) (by omega)]; omega
    have key : ∀ s0, s0 = fW p0 p1 p2 p3 p4 j → Ev (fun n => mRun Φ kX10_feed n 71 [some (mP 96), some (mI p0), some (mI p1), some (mI p2), some (mI p3), some (mI p4), some (mI j), v7] [mI s0] (SH, μ, RHO b)) b (fun v μ' => v = μ0 96 1 + 20 ∧ (∀ a, a ≠ 96 → a ≠ 97 → μ' a = μ0 a) ∧ μ' 96 1 = μ0 96 1 + 20 ∧ (∀ i, i ≠ 1 → μ' 96 i = μ0 96 i) ∧ ∀ x, μ' 97 x = if μ0 96 1 ≤ x ∧ x < μ0 96 1 + 20 then fB p0 p1 p2 p3 p4 (x - μ0 96 1) else μ0 97 x) := fun s0 hs => by
      refine ev_row (fun n => tX10_feed_71 _ n b μ p0 p1 p2 p3 p4 j v7 s0) (ev_if (by omega) ?_)
      rw [e0, e1, e2, e3, m2_ne (by decide : (96 : Nat) ≠ 97), w32_id (x := μ 96 1 + 1) (by omega) (by omega)]
      refine ih (j + 1) (some (mI s0)) _ (by omega) (by omega) (fun a a1 a2 => by rw [m2_ne a1, m2_ne a2, ha a a1 a2]) (by rw [m2_at, if_pos rfl, hl]; omega) (fun i hi' => by rw [m2_at, if_neg hi', m2_ne (by decide), hi i hi']) (fun x => ?_)
      rw [m2_ne (by decide : (97 : Nat) ≠ 96), m2_at, hl, hx x]
      by_cases e : x = μ0 96 1 + j
      · rw [if_pos e, if_pos (by omega), show x - μ0 96 1 = j by omega, hs]; rfl
      · rw [if_neg e]
        by_cases e2 : μ0 96 1 ≤ x ∧ x < μ0 96 1 + j
        · rw [if_pos e2, if_pos (by omega)]
        · rw [if_neg e2, if_neg (by omega)]
    unfold fW at key
    refine ev_row (fun n => tX10_feed_18 _ n b μ p0 p1 p2 p3 p4 j v7) (ev_pos (by omega) (ev_br (fun c1 => key _ (by rw [if_pos c1])) (fun c1 => ev_br (fun c2 => key _ (by rw [if_neg c1, if_pos c2])) (fun c2 => ev_br (fun c3 => key _ (by rw [if_neg c1, if_neg c2, if_pos c3])) (fun c3 => ev_br (fun c4 => key _ (by rw [if_neg c1, if_neg c2, if_neg c3, if_pos c4])) (fun c4 => key _ (by rw [if_neg c1, if_neg c2, if_neg c3, if_neg c4])))))))
theorem p_feed {b : Bool} {μ : Nat → Int → Int} (p0 p1 p2 p3 p4 : Int) (hR : R b μ) : ∀ d, 2 ≤ d → PairA d b μ 219 38 [mI p0, mI p1, mI p2, mI p3, mI p4] := deep fun d hd => by
  obtain ⟨⟨t1, t2, t3⟩, t4⟩ := hR.2.2.2.1.1
  have e1 : w32 (μ 2 1 + 20) = μ 2 1 + 20 := w32_id (by omega) (by omega)
  by_cases e : 1600 < μ 2 1 + 20
  · refine ⟨-1, μ, μ, call_X9_feed d b μ p0 p1 p2 p3 p4 ⟨1, ?_⟩, call_X10_feed d b μ p0 p1 p2 p3 p4 ⟨1, ?_⟩, hR⟩
    · rw [tX9_feed_0, e1, mBr_pos e]
    · rw [tX10_feed_0, t1, e1, mBr_pos e]
  · have hA : Cal (d + 1) 219 [mP 0, mI p0, mI p1, mI p2, mI p3, mI p4] b μ (fun v μ' => v = μ 2 1 + 20 ∧ (∀ a, a ≠ 2 → a ≠ 3 → μ' a = μ a) ∧ μ' 2 1 = μ 2 1 + 20 ∧ (∀ i, i ≠ 1 → μ' 2 i = μ 2 i) ∧ ∀ x, μ' 3 x = if μ 2 1 ≤ x ∧ x < μ 2 1 + 20 then fB p0 p1 p2 p3 p4 (x - μ 2 1) else μ 3 x) := by
      refine cal_ev (fun r => call_X9_feed d b μ p0 p1 p2 p3 p4) (ev_row (fun n => tX9_feed_0 _ n b μ p0 p1 p2 p3 p4) ?_)
      rw [e1]
      refine ev_neg e ?_
      refine ev_callP (sX6_putNumber p0 b μ (by omega) (by omega) d hd) (fun _ μ1 ⟨a1, a2, a3, a4⟩ => ?_)
      refine ev_callP (sX6_putNumber p1 b μ1 (by omega) (by omega) d hd) (fun _ μ2 ⟨b1, b2, b3, b4⟩ => ?_)
      refine ev_callP (sX6_putNumber p2 b μ2 (by omega) (by omega) d hd) (fun _ μ3 ⟨c1, c2, c3, c4⟩ => ?_)
      refine ev_callP (sX6_putNumber p3 b μ3 (by omega) (by omega) d hd) (fun _ μ4 ⟨d1, d2, d3, d4⟩ => ?_)
      refine ev_callP (sX6_putNumber p4 b μ4 (by omega) (by omega) d hd) (fun _ μ5 ⟨f1, f2, f3, f4⟩ => ev_ret ⟨?_, fun a h1 h2 => ?_, ?_, fun i hi => ?_, fun x => ?_⟩)
      · show μ5 2 1 = _; omega
      · show μ5 a = μ a; rw [f1 a h1 h2, d1 a h1 h2, c1 a h1 h2, b1 a h1 h2, a1 a h1 h2]
      · show μ5 2 1 = _; omega
      · show μ5 2 i = μ 2 i; rw [f3 i hi, d3 i hi, c3 i hi, b3 i hi, a3 i hi]
      · show μ5 3 x = _
        rw [f4 x, d4 x, c4 x, b4 x, a4 x, d2, c2, b2, a2]
        unfold fB fW
        by_cases q : μ 2 1 ≤ x ∧ x < μ 2 1 + 20
        · rw [if_pos q]
          by_cases q1 : x < μ 2 1 + 4
          · rw [if_neg (by omega), if_neg (by omega), if_neg (by omega), if_neg (by omega), if_pos (by omega), if_pos (by omega)]; congr 1; omega
          by_cases q2 : x < μ 2 1 + 8
          · rw [if_neg (by omega), if_neg (by omega), if_neg (by omega), if_pos (by omega), if_neg (by omega), if_pos (by omega)]; congr 1; omega
          by_cases q3 : x < μ 2 1 + 12
          · rw [if_neg (by omega), if_neg (by omega), if_pos (by omega), if_neg (by omega), if_neg (by omega), if_pos (by omega)]; congr 1; omega
          by_cases q4 : x < μ 2 1 + 16
          · rw [if_neg (by omega), if_pos (by omega), if_neg (by omega), if_neg (by omega), if_neg (by omega), if_pos (by omega)]; congr 1; omega
          · rw [if_pos (by omega), if_neg (by omega), if_neg (by omega), if_neg (by omega), if_neg (by omega)]; congr 1; omega
        · rw [if_neg q, if_neg (by omega), if_neg (by omega), if_neg (by omega), if_neg (by omega), if_neg (by omega)]
    obtain ⟨v, μ1, h1, h2, h3, h4, h5, h6⟩ := hA
    have k96 : μ1 96 = μ 96 := h3 96 (by decide) (by decide)
    have k97 : μ1 97 = μ 97 := h3 97 (by decide) (by decide)
    have hB : Cal (d + 1) 38 [mP 96, mI p0, mI p1, mI p2, mI p3, mI p4] b μ1 (fun v μ' => v = μ1 96 1 + 20 ∧ (∀ a, a ≠ 96 → a ≠ 97 → μ' a = μ1 a) ∧ μ' 96 1 = μ1 96 1 + 20 ∧ (∀ i, i ≠ 1 → μ' 96 i = μ1 96 i) ∧ ∀ x, μ' 97 x = if μ1 96 1 ≤ x ∧ x < μ1 96 1 + 20 then fB p0 p1 p2 p3 p4 (x - μ1 96 1) else μ1 97 x) := by
      refine cal_ev (fun r => call_X10_feed d b μ1 p0 p1 p2 p3 p4) (ev_row (fun n => tX10_feed_0 _ n b μ1 p0 p1 p2 p3 p4) ?_)
      refine ev_neg (by rw [k96, t1, e1]; exact e) ?_
      exact eX10_feed (by rw [k96]; omega) (by rw [k96]; omega) 20 0 none μ1 (by decide) (by decide) (fun _ _ _ => rfl) (by omega) (fun _ _ => rfl) (fun x => by rw [if_neg (by omega)])
    obtain ⟨v', μ2, g1, g2, g3, g4, g5, g6⟩ := hB
    rw [k96, t1] at g2 g4 g6
    rw [g2, ← h2] at g1
    refine ⟨v, μ1, μ2, h1, g1, R_tape hR (fun a a1 a2 a3 a4 => by rw [g3 a a4 a3, h3 a a1 a2]) (fun j hj => by rw [g5 j hj, k96]) ⟨⟨?_, ?_⟩, fun i i0 i1 => ?_⟩⟩
    · rw [g4, g3 2 (by decide) (by decide), h4]
    · rw [g3 2 (by decide) (by decide), h4]; omega
    · rw [g6 i, k97, g3 3 (by decide) (by decide), h6 i]
      by_cases q : μ 2 1 ≤ i ∧ i < μ 2 1 + 20
      · rw [if_pos q, if_pos q]
        have := iAnd_255 (iShr (fW p0 p1 p2 p3 p4 (i - μ 2 1)) (24 - 8 * ((i - μ 2 1) % 4)))
        exact ⟨rfl, this.1, this.2⟩
      · rw [if_neg q, if_neg q]; exact t4 i i0 i1
