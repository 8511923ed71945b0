/-! ===== who can pay; reached, out, tact ===== -/
def dstN (b : Bool) (μ : Nat → Int → Int) (w : Int → Int) (s t : Int) : Int := dst (μ (tw b + 8)) (μ (tw b + 9)) w (μ (tw b + 1) 2).toNat s t
theorem dstN_congr {b : Bool} {μ : Nat → Int → Int} {w w' : Int → Int} (h : ∀ g, 0 ≤ g → g < μ (tw b + 1) 2 → w' g = w g) (s t : Int) : dstN b μ w' s t = dstN b μ w s t := dst_congr (fun g g0 g1 => ⟨rfl, rfl, h g g0 (by omega)⟩) s t
theorem dstN_same {b : Bool} {μ μ' : Nat → Int → Int} (h : ∀ a, a ∈ twL b → μ' a = μ a) (w : Int → Int) (s t : Int) : dstN b μ' w s t = dstN b μ w s t := by
  unfold dstN
  rw [h (tw b + 8) (by simp [twL]), h (tw b + 9) (by simp [twL]), h (tw b + 1) (by simp [twL])]
theorem R_place {b : Bool} {μ : Nat → Int → Int} (hR : R b μ) {p : Int} (p0 : 0 ≤ p) (p1 : p < μ (tw b + 1) 3) : (0 ≤ μ 74 (38 + p) ∧ μ 74 (38 + p) < μ (tw b + 1) 0) ∧ (0 ≤ μ 74 (44 + p) ∧ μ 74 (44 + p) < μ (tw b + 1) 0) ∧ μ (tw b + 1) 0 ≤ 10 ∧ p < 6 := by
  obtain ⟨-, o2, o3, o4, o5, o6, o7, o8, o9, o10, o11⟩ := hR.2.1.2
  obtain ⟨q1, q2, -⟩ := o8 p p0 p1
  obtain ⟨⟨z1, z2, z3⟩, -, -, ⟨x1, x2, x3⟩⟩ := hR.1.1
  omega
theorem R_meas {b : Bool} {μ : Nat → Int → Int} (hR : R b μ) (s : Int) (hw : ∀ g, 0 ≤ g → g < μ (tw b + 1) 2 → -1 ≤ μ 27 g ∧ μ 27 g ≤ 100000) (hs0 : 0 ≤ s) (hs1 : s < 10) : ∀ d, 2 ≤ d → Cal d 207 [mP 26, mP (tw b), mI s] b μ (fun _ μ' => Fr [28] μ μ' ∧ ∀ v, 0 ≤ v → v < 10 → μ' 28 v = dstN b μ (μ 27) s v) := fun d hd => by
  have hC := Rcnt_C hR.1.1
  have hg := Rgat_ok (w := μ 27) hR.1.1 hR.1.2.1 (fun g g0 g1 => (hw g g0 g1).1)
  refine cal_mono (sX8_measure b s b μ hg (by omega) (by omega) (fun g g0 g1 => by have := (hw g g0 (by omega)).2; omega) hs0 hs1 d hd) (fun v μ' h => ⟨h.1, fun v v0 v1 => ?_⟩)
  exact Dist_dst hg hs0 hs1 (by decide : (0 : Int) ≤ 100000) (by decide) (fun g g0 g1 => (hw g g0 (by omega)).2) h.2 v0 v1
theorem sX9_canPay (p : Int) (b : Bool) (μ : Nat → Int → Int) (hR : R b μ) (p0 : 0 ≤ p) (p1 : p < μ (tw b + 1) 3) (hw : ∀ g, 0 ≤ g → g < μ (tw b + 1) 2 → -1 ≤ μ 27 g ∧ μ 27 g ≤ 100000) : ∀ d, 3 ≤ d → Cal d 212 [mP 0, mI p] b μ (fun v μ' => Fr [28] μ μ' ∧ v = t01 (dstN b μ (μ 27) (μ 74 (38 + p)) (μ 74 (44 + p)) ≤ μ 74 (50 + p))) := deepC fun d hd => by
  obtain ⟨h1, h2, h3, h4⟩ := R_place hR p0 p1
  refine cal_ev (fun r => call_X9_canPay d b μ p) (ev_row (fun n => tX9_canPay_0 _ n b μ p) ?_)
  have e1 : w32 (38 + p) = 38 + p := w32_id (by omega) (by omega)
  have e2 : w32 (44 + p) = 44 + p := w32_id (by omega) (by omega)
  have e3 : w32 (50 + p) = 50 + p := w32_id (by omega) (by omega)
  rw [e1, e2, e3]
  refine ev_if (by omega) (ev_callP (R_meas hR (μ 74 (38 + p)) hw h1.1 (by omega) d hd) (fun _ μ1 ⟨hf, hL⟩ => ?_))
  have k74 : μ1 74 = μ 74 := hf 74 (by decide)
  refine ev_if (by omega) (ev_if (by show 0 ≤ μ1 74 (44 + p) ∧ μ1 74 (44 + p) < 10; rw [k74]; omega) (ev_if (by omega) ?_))
  refine ev_br (fun e => ?_) (fun e => ?_)
  · have e' : μ1 74 (50 + p) < μ1 28 (μ1 74 (44 + p)) := e
    rw [k74, hL _ h2.1 (by omega)] at e'
    exact ev_row (fun n => tX9_canPay_54 _ n b μ1 p 0) (ev_if (Or.inl rfl) (ev_ret ⟨hf, by rw [t01_neg (by omega)]⟩))
  · have e' : ¬ (μ1 74 (50 + p) < μ1 28 (μ1 74 (44 + p))) := e
    rw [k74, hL _ h2.1 (by omega)] at e'
    exact ev_row (fun n => tX9_canPay_54 _ n b μ1 p 1) (ev_if (Or.inr rfl) (ev_ret ⟨hf, by rw [t01_pos (by omega)]⟩))
theorem RefOK_G {b : Bool} {μ : Nat → Int → Int} {f : Int → Int} (hO : RefOK b μ f) : ∀ g, 0 ≤ g → g < (((μ (tw b + 1) 2).toNat : Nat) : Int) → μ 124 (36 + 3 * g) = μ (tw b + 8) g ∧ μ 124 (36 + 3 * g + 1) = μ (tw b + 9) g ∧ μ 135 g = μ 135 g := fun g g0 g1 => by
  obtain ⟨⟨h1, h2, -⟩, -⟩ := hO.2.2.2.1 g g0 (by omega)
  exact ⟨h1, h2, rfl⟩
theorem sX10_canPay (p wo : Int) (f : Int → Int) (b : Bool) (μ : Nat → Int → Int) (hO : RefOK b μ f) (p0 : 0 ≤ p) (p1 : p < μ (tw b + 1) 3) (hc : ∀ g, 0 ≤ g → g < μ (tw b + 1) 2 → 0 ≤ μ 135 g ∧ μ 135 g ≤ 99) : ∀ d, 3 ≤ d → Cal d 19 [mP 96, mI p, mI wo] b μ (fun v μ' => Fr [136, 137] μ μ' ∧ v = t01 (dstN b μ (wc (μ 135) wo) (f (38 + p)) (f (44 + p)) ≤ f (50 + p)) ∧ ∃ F, Dist (μ (tw b + 8)) (μ (tw b + 9)) (wr (μ 135) wo) (μ (tw b + 1) 2).toNat 10 268435456 (f (44 + p)) F ∧ RL (μ' 136) (μ' 137) F) := deepC fun d hd => by
  have hG := RefOK_G hO
  obtain ⟨hcn, hcod, htir, hgat, hrow, hA, hmen, hppl⟩ := hO
  have hC := Rcnt_C hcn
  obtain ⟨-, q1, q2, q3⟩ := hppl p p0 p1
  obtain ⟨r0, r1, r2, r3⟩ := hrow.2 p p0 (by omega)
  have hg := Rgat_ok (w := μ 135) hcn hgat (fun g g0 g1 => by have := hc g g0 g1; omega)
  obtain ⟨-, -, ⟨y1, y2, y3⟩, -⟩ := hcn
  have hP1 := sX10_personOf p 1 b μ p0 (by omega) (by decide) (by decide) d (by omega)
  rw [r1] at hP1
  refine cal_ev (fun r => call_X10_canPay d b μ p wo) (ev_row (fun n => tX10_canPay_0 _ n b μ p wo) (ev_call hP1 ?_))
  refine ev_callP (sX10_finds (f (44 + p)) wo b μ hG hg (by omega) (by omega) (fun g g0 g1 => hc g g0 (by omega)) q2.1 (by omega) d hd) (fun _ μ1 ⟨hf, F, hD, hL⟩ => ?_)
  have k133 : μ1 133 = μ 133 := hf 133 (by decide)
  have hP0 := sX10_personOf p 0 b μ1 p0 (by omega) (by decide) (by decide) d (by omega)
  rw [k133, r0] at hP0
  have hP2 := sX10_personOf p 2 b μ1 p0 (by omega) (by decide) (by decide) d (by omega)
  rw [k133, r2] at hP2
  have hK := K_dst (s := f (38 + p)) hg (fun g g0 g1 => hc g g0 (by omega)) q1.1 q1.2 q2.1 q2.2 hD hL
  refine ev_call hP0 (ev_if (by omega) (ev_call hP2 ?_))
  dsimp only
  unfold dstN
  refine ev_br (fun e => ?_) (fun e => ?_)
  · refine ev_row (fun n => tX10_canPay_36 _ n b μ1 p wo 0) (ev_if (Or.inl rfl) (ev_ret ⟨hf, ?_, F, hD, hL⟩))
    rw [t01_neg (by rcases hK with h | h <;> omega)]
  · refine ev_row (fun n => tX10_canPay_36 _ n b μ1 p wo 1) (ev_if (Or.inr rfl) (ev_ret ⟨hf, ?_, F, hD, hL⟩))
    rw [t01_pos (by rcases hK with h | h <;> omega)]
/-- what each gate takes of one, as things stand -/
def wP (b : Bool) (μ : Nat → Int → Int) (p : Int) : Int → Int := fun g => letP b μ (μ 74 (2 + g)) p
theorem wP_same {b : Bool} {μ μ' : Nat → Int → Int} (h : ∀ a, a ∈ twL b → μ' a = μ a) (h2 : μ' 74 = μ 74) (p : Int) : wP b μ' p = wP b μ p := by
  unfold wP; rw [letP_same h h2, h2]
theorem wP_in (b : Bool) (μ : Nat → Int → Int) (p g : Int) : 0 ≤ wP b μ p g ∧ wP b μ p g ≤ 99 := letP_in _ _ _ _
theorem R_weigh {b : Bool} {μ : Nat → Int → Int} (p : Int) (hR : R b μ) (p0 : 0 ≤ p) (p1 : p < μ (tw b + 1) 3) : ∀ d, 6 ≤ d → Cal d 258 [mP 0, mI p, mI (μ (tw b + 14) p)] b μ (fun _ μ' => Fr [24, 25, 27] μ μ' ∧ ∀ g, 0 ≤ g → g < μ (tw b + 1) 2 → μ' 27 g = wP b μ p g) := fun d hd => by
  obtain ⟨t1, t2, t3⟩ := hR.1.2.2.2.2.1 p p0 p1
  exact sX9_weighPrices p (μ (tw b + 14) p) b μ hR p0 p1 ⟨t2, t3⟩ d hd
theorem R_costs {b : Bool} {μ : Nat → Int → Int} (p : Int) (hR : R b μ) (p0 : 0 ≤ p) (p1 : p < μ (tw b + 1) 3) : ∀ d, 6 ≤ d → Cal d 26 [mP 96, mI p] b μ (fun _ μ' => Fg [131, 132, 135] [50] μ μ' ∧ ∀ g, 0 ≤ g → g < μ (tw b + 1) 2 → μ' 135 g = wP b μ p g) := fun d hd => by
  obtain ⟨t1, t2, t3⟩ := hR.1.2.2.2.2.1 p p0 p1
  have := sX10_costs p (μ 74) b μ (R_refOK hR) p0 p1 d hd
  rw [t1] at this
  exact this
/-! reached -/
theorem eX9_reached {Φ : mOrc} {b : Bool} {p : Int} {μ : Nat → Int → Int} {z : Int → Bool} (h10 : μ (tw b + 1) 0 ≤ 10) (hz : ∀ r, 0 ≤ r → r < μ (tw b + 1) 0 → (z r = true ↔ μ 28 r = 0)) : ∀ (k : Nat) (i acc : Int), 0 ≤ i → i + k = μ (tw b + 1) 0 → Ev (fun n => mRun Φ kX9_reached n 48 [some (mP 0), some (mI p), some (mI acc), some (mI i)] [] (SH, μ, RHO b)) b (fun v μ' => μ' = μ ∧ v = setB z k i acc) := by
  intro k
  induction k with
  | zero =>
    intro i acc h0 hk
    exact ev_row (fun n => tX9_reached_48 _ n b μ p acc i) (ev_neg (by omega) (ev_ret ⟨rfl, rfl⟩))
  | succ k ih =>
    intro i acc h0 hk
    have e5 : w32 (i + 1) = i + 1 := w32_id (by omega) (by omega)
    have hzi := hz i h0 (by omega)
    refine ev_row (fun n => tX9_reached_48 _ n b μ p acc i) (ev_pos (by omega) (ev_if (by omega) (ev_br (fun e => ?_) (fun e => ?_))))
    · refine ev_row (fun n => tX9_reached_79 _ n b μ p _ i) ?_
      rw [e5, setB, if_pos (hzi.2 e)]
      exact ih (i + 1) _ (by omega) (by omega)
    · refine ev_row (fun n => tX9_reached_79 _ n b μ p _ i) ?_
      rw [e5, setB, if_neg (fun h => e (hzi.1 h))]
      exact ih (i + 1) _ (by omega) (by omega)
def reaP (b : Bool) (μ : Nat → Int → Int) (p : Int) : Int := setB (fun r => decide (dstN b μ (wP b μ p) (μ 74 (38 + p)) r = 0)) (μ (tw b + 1) 0).toNat 0 0
theorem p_reached {b : Bool} {μ : Nat → Int → Int} (p : Int) (hR : R b μ) : ∀ d, 7 ≤ d → PairA d b μ 247 108 [mI p] := deep fun d hd => by
  refine pair_q (V := fun μ v => v = if 0 ≤ p ∧ p < μ (tw b + 1) 3 then reaP b μ p else -1) hR ?_ (fun μ1 hR1 => ?_) (fun μ1 v v' hf h1 h2 => ?_)
  · have hP := sX9_isPerson p b μ d (by omega)
    refine cal_ev (fun r => call_X9_reached d b μ p) (ev_row (fun n => tX9_reached_0 _ n b μ p) ?_)
    by_cases e1 : 0 ≤ p ∧ p < μ (tw b + 1) 3
    · rw [t01_pos e1] at hP
      obtain ⟨h1, h2, h3, h4⟩ := R_place hR e1.1 e1.2
      have w1 : w32 (38 + p) = 38 + p := w32_id (by omega) (by omega)
      refine ev_call hP (ev_neg (by show ¬ ((1 : Int) = 0); decide) (ev_if (by omega) (ev_callP (R_weigh p hR e1.1 e1.2 d (by omega)) (fun _ μ1 ⟨hf1, hw⟩ => ?_))))
      have hf1' := fr_sc hf1 (sub_C (by decide))
      have hR1 := R_cls hf1' hR
      have kt := scC_tw (b := b) hf1'
      have k74 : μ1 74 = μ 74 := hf1 74 (by decide)
      have k1 := kt (tw b + 1) (by simp [twL])
      dsimp only
      rw [w1, k74]
      refine ev_if (by omega) (ev_callP (R_meas hR1 (μ 74 (38 + p)) (fun g g0 g1 => by rw [k1] at g1; rw [hw g g0 g1]; have := wP_in b μ p g; omega) h1.1 (by omega) d (by omega)) (fun _ μ2 ⟨hf2, hL⟩ => ?_))
      have k1' : μ2 (tw b + 1) = μ (tw b + 1) := by rw [hf2 _ (by have := tw_or b; simp only [List.mem_cons, List.not_mem_nil, or_false]; omega), k1]
      refine ev_mono (eX9_reached (b := b) (μ := μ2) (z := fun r => decide (dstN b μ (wP b μ p) (μ 74 (38 + p)) r = 0)) (by rw [k1']; omega) (fun r r0 r1 => ?_) (μ (tw b + 1) 0).toNat 0 0 (by omega) (by rw [k1']; omega)) (fun v μ' h => ⟨?_, ?_⟩)
      · rw [k1'] at r1
        rw [hL r r0 (by omega), dstN_same kt, dstN_congr (fun g g0 g1 => hw g g0 g1)]
        simp
      · rw [h.1]; exact fr_tr hf1' (fr_sc hf2 (sub_C (by decide))) (fun a h => h)
      · rw [if_pos e1]; exact h.2
    · rw [t01_neg e1] at hP
      exact ev_call hP (ev_pos rfl (ev_ret ⟨fr_rfl, by rw [if_neg e1]⟩))
  · have hcn := hR1.1.1
    obtain ⟨⟨z1, z2, z3⟩, -, ⟨y1, y2, y3⟩, ⟨d1, d2, d3⟩⟩ := hcn
    have hP := sX10_isPerson p b μ1 (by omega) (by omega) d (by omega)
    refine cal_ev (fun r => call_X10_reached d b μ1 p) (ev_row (fun n => tX10_reached_0 _ n b μ1 p) ?_)
    by_cases e1 : 0 ≤ p ∧ p < μ1 (tw b + 1) 3
    · rw [t01_pos (by omega)] at hP
      obtain ⟨h1, h2, h3, h4⟩ := R_place hR1 e1.1 e1.2
      refine ev_call hP (ev_neg (by show ¬ ((1 : Int) = 0); decide) (ev_callP (R_costs p hR1 e1.1 e1.2 d (by omega)) (fun _ μ2 ⟨hf2, hw⟩ => ?_)))
      have hf2' := fg_sc hf2 (sub_R (by decide)) (sub_J (by decide))
      have hR2 := R_ref hf2' hR1
      have kt := scR_tw (b := b) hf2'
      have k1 := kt (tw b + 1) (by simp [twL])
      have hO := R_refOK hR2
      have k133 : μ2 133 = μ1 133 := hf2.1 133 (by decide) (by decide)
      have hP0 := sX10_personOf p 0 b μ2 e1.1 (by omega) (by decide) (by decide) d (by omega)
      rw [k133, (hR1.2.1.1.2 p e1.1 (by omega)).1] at hP0
      refine ev_call hP0 ?_
      dsimp only
      have hc2 : ∀ g, 0 ≤ g → g < μ2 (tw b + 1) 2 → 0 ≤ μ2 135 g ∧ μ2 135 g ≤ 99 := fun g g0 g1 => by
        rw [k1] at g1; rw [hw g g0 g1]; exact wP_in b μ1 p g
      have hgN : gOk (μ2 (tw b + 8)) (μ2 (tw b + 9)) (μ2 135) (μ2 (tw b + 1) 2).toNat (μ1 (tw b + 1) 0).toNat := fun g g0 g1 => by
        obtain ⟨-, q1, q2, -, -⟩ := hR2.1.2.1 g g0 (by rw [k1] at g1 ⊢; omega)
        have := hc2 g g0 (by rw [k1] at g1 ⊢; omega)
        rw [k1] at q1 q2
        exact ⟨⟨q1.1, by omega⟩, ⟨q2.1, by omega⟩, by omega⟩
      refine ev_callP (sX10_freely (μ1 74 (38 + p)) b μ2 (N := (μ1 (tw b + 1) 0).toNat) (by omega) (by rw [kt 120 (by simp [twL])]; omega) hgN (by rw [k1]; omega) (RefOK_G hO) (by rw [kt 120 (by simp [twL]), k1]; omega) (fun g g0 g1 => hc2 g g0 (by rw [k1] at g1 ⊢; omega)) h1.1 (by omega) d (by omega)) (fun v μ3 ⟨hμ, hv, hb⟩ => ev_ret ⟨?_, ?_⟩)
      · rw [hμ]; exact hf2'
      · rw [if_pos e1]
        obtain ⟨s1, s2⟩ := setB_bits (z := fun r => decide (dstN b μ1 (wP b μ1 p) (μ1 74 (38 + p)) r = 0)) (m := (μ1 (tw b + 1) 0).toNat) (by omega) (μ1 (tw b + 1) 0).toNat 0 0 (by omega) (by omega) (by omega) (by have := Nat.two_pow_pos (μ1 (tw b + 1) 0).toNat; omega)
        refine bits_eq hv.1 hv.2 s1.1 s1.2 (fun r r0 r1 => ?_)
        have hbr := hb r r0 r1
        have hd1 : dst (μ2 (tw b + 8)) (μ2 (tw b + 9)) (μ2 135) (μ2 (tw b + 1) 2).toNat (μ1 74 (38 + p)) r = dstN b μ1 (wP b μ1 p) (μ1 74 (38 + p)) r := by
          have q1 := dstN_same kt (μ2 135) (μ1 74 (38 + p)) r
          have q2 := dstN_congr (b := b) (μ := μ1) (w := wP b μ1 p) (w' := μ2 135) (fun g g0 g1 => hw g g0 g1) (μ1 74 (38 + p)) r
          rw [← q2, ← q1]; rfl
        rw [hd1] at hbr
        unfold reaP
        show bI v r = _
        rw [s2 r r0, bI_zero, Bool.false_or, decide_eq_true (show 0 ≤ r ∧ r < 0 + (((μ1 (tw b + 1) 0).toNat : Nat) : Int) by omega), Bool.true_and]
        by_cases q : dstN b μ1 (wP b μ1 p) (μ1 74 (38 + p)) r = 0
        · rw [hbr.2 q, decide_eq_true q]
        · rw [decide_eq_false q, Bool.eq_false_iff]; exact fun h => q (hbr.1 h)
    · rw [t01_neg (by omega)] at hP
      exact ev_call hP (ev_pos rfl (ev_ret ⟨fg_rfl, by rw [if_neg e1]⟩))
  · have kt := scC_tw (b := b) hf
    have k74 : μ1 74 = μ 74 := scC_ne hf (by decide)
    have hd : reaP b μ1 p = reaP b μ p := by
      unfold reaP
      rw [wP_same kt k74, k74, kt (tw b + 1) (by simp [twL])]
      congr 1
      funext r
      rw [dstN_same kt]
    rw [h1, h2, hd, kt (tw b + 1) (by simp [twL])]
