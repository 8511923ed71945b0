/-! ===== out, tact ===== -/
theorem RefOK_same {b : Bool} {μ μ' : Nat → Int → Int} {f : Int → Int} (h : ∀ a, a ∈ twL b → a ≠ 134 → μ' a = μ a) (h3 : Rrow f (μ' 133)) (h4 : ∀ p, 0 ≤ p → p < μ (tw b + 1) 3 → 0 ≤ μ' 134 p ∧ μ' 134 p ≤ 99) (hO : RefOK b μ f) : RefOK b μ' f := by
  obtain ⟨hc, hcod, htir, hgat, hrow, hA, hmen, hppl⟩ := hO
  have t : ∀ j, j ≤ 18 → tw b + j ∈ twL b → μ' (tw b + j) = μ (tw b + j) := fun j hl hj => h _ hj (by
    have := tw_or b
    omega)
  have k1 := t 1 (by decide) (by simp [twL])
  refine ⟨?_, ?_, ?_, ?_, h3, hA, ?_, fun p p0 p1 => ⟨h4 p p0 (by rw [← k1]; exact p1), (hppl p p0 (by rw [← k1]; exact p1)).2⟩⟩
  · unfold Rcnt at hc ⊢
    rw [k1, h 120 (by simp [twL]) (by decide)]; exact hc
  · unfold Rcod at hcod ⊢
    rw [k1, t 15 (by decide) (by simp [twL]), t 16 (by decide) (by simp [twL]), t 17 (by decide) (by simp [twL]), t 18 (by decide) (by simp [twL]), h 126 (by simp [twL]) (by decide), h 128 (by simp [twL]) (by decide), h 129 (by simp [twL]) (by decide), h 130 (by simp [twL]) (by decide)]; exact hcod
  · unfold Rtir at htir ⊢
    rw [k1, t 7 (by decide) (by simp [twL]), h 122 (by simp [twL]) (by decide)]; exact htir
  · unfold Rgat at hgat ⊢
    rw [k1, t 8 (by decide) (by simp [twL]), t 9 (by decide) (by simp [twL]), t 10 (by decide) (by simp [twL]), h 124 (by simp [twL]) (by decide)]; exact hgat
  · rw [k1]; exact hmen
theorem prc_same' {b : Bool} {μ μ' : Nat → Int → Int} (h : ∀ a, a ∈ twL b → a ≠ 134 → μ' a = μ a) : prc b μ' = prc b μ := by
  have t : ∀ j, j ≤ 18 → tw b + j ∈ twL b → μ' (tw b + j) = μ (tw b + j) := fun j hl hj => h _ hj (by
    have := tw_or b
    omega)
  funext f m p t'
  unfold prc
  rw [t 7 (by decide) (by simp [twL]), t 16 (by decide) (by simp [twL]), t 17 (by decide) (by simp [twL]), t 18 (by decide) (by simp [twL]), h 126 (by simp [twL]) (by decide)]
theorem dstN_same' {b : Bool} {μ μ' : Nat → Int → Int} (h : ∀ a, a ∈ twL b → a ≠ 134 → μ' a = μ a) (w : Int → Int) (s t : Int) : dstN b μ' w s t = dstN b μ w s t := by
  have tt : ∀ j, j ≤ 18 → tw b + j ∈ twL b → μ' (tw b + j) = μ (tw b + j) := fun j hl hj => h _ hj (by
    have := tw_or b
    omega)
  unfold dstN
  rw [tt 8 (by decide) (by simp [twL]), tt 9 (by decide) (by simp [twL]), tt 1 (by decide) (by simp [twL])]
theorem Ref_freely {b : Bool} {μ : Nat → Int → Int} {f : Int → Int} (s : Int) (hO : RefOK b μ f) (hc : ∀ g, 0 ≤ g → g < μ (tw b + 1) 2 → 0 ≤ μ 135 g ∧ μ 135 g ≤ 99) (hs0 : 0 ≤ s) (hs1 : s < μ (tw b + 1) 0) : ∀ d, 2 ≤ d → Cal d 43 [mP 96, mI s] b μ (fun v μ' => μ' = μ ∧ (0 ≤ v ∧ v < ((2 ^ (μ (tw b + 1) 0).toNat : Nat) : Int)) ∧ ∀ r, 0 ≤ r → r < μ (tw b + 1) 0 → (bI v r = true ↔ dstN b μ (μ 135) s r = 0)) := fun d hd => by
  have hgN : gOk (μ (tw b + 8)) (μ (tw b + 9)) (μ 135) (μ (tw b + 1) 2).toNat (μ (tw b + 1) 0).toNat := fun g g0 g1 => by
    obtain ⟨-, q1, q2, -, -⟩ := hO.2.2.2.1 g g0 (by omega)
    have := hc g g0 (by omega)
    exact ⟨⟨q1.1, by omega⟩, ⟨q2.1, by omega⟩, by omega⟩
  obtain ⟨⟨z1, z2, z3⟩, -, ⟨y1, y2, y3⟩, ⟨d1, d2, d3⟩⟩ := hO.1
  refine cal_mono (sX10_freely s b μ (N := (μ (tw b + 1) 0).toNat) (by omega) (by omega) hgN (by omega) (RefOK_G hO) (by omega) (fun g g0 g1 => hc g g0 (by omega)) hs0 (by omega) d hd) (fun v μ' h => ⟨h.1, h.2.1, fun r r0 r1 => h.2.2 r r0 (by omega)⟩)
/-! out -/
def payP (b : Bool) (μ : Nat → Int → Int) (p : Int) (w : Int → Int) : Prop := dstN b μ w (μ 74 (38 + p)) (μ 74 (44 + p)) ≤ μ 74 (50 + p)
def outP (b : Bool) (μ : Nat → Int → Int) (p : Int) : Int := setB (fun g => decide (¬ dstN b μ (wc (wP b μ p) g) (μ 74 (38 + p)) (μ 74 (44 + p)) ≤ μ 74 (50 + p))) (μ (tw b + 1) 2).toNat 0 0
theorem eX9_out {d : Nat} (hd : 3 ≤ d) {b : Bool} {p : Int} {μ0 : Nat → Int → Int} (hR : R b μ0) (p0 : 0 ≤ p) (p1 : p < μ0 (tw b + 1) 3) : ∀ (k : Nat) (i acc : Int) (v4 : Option mV) (μ : Nat → Int → Int), 0 ≤ i → i + k = μ0 (tw b + 1) 2 → Fr scC μ0 μ → (∀ g, 0 ≤ g → g < μ0 (tw b + 1) 2 → μ 27 g = wP b μ0 p g) → Ev (fun n => mRun (mCallN d) kX9_out n 38 [some (mP 0), some (mI p), some (mI acc), some (mI i), v4] [] (SH, μ, RHO b)) b (fun v μ' => Fr scC μ0 μ' ∧ v = setB (fun g => decide (¬ dstN b μ0 (wc (wP b μ0 p) g) (μ0 74 (38 + p)) (μ0 74 (44 + p)) ≤ μ0 74 (50 + p))) k i acc) := by
  have hC := Rcnt_C hR.1.1
  intro k
  induction k with
  | zero =>
    intro i acc v4 μ h0 hk hf hw
    have kt := scC_tw (b := b) hf
    exact ev_row (fun n => tX9_out_38 _ n b μ p acc i v4) (ev_neg (by rw [kt (tw b + 1) (by simp [twL])]; omega) (ev_ret ⟨hf, rfl⟩))
  | succ k ih =>
    intro i acc v4 μ h0 hk hf hw
    have kt := scC_tw (b := b) hf
    have k1 := kt (tw b + 1) (by simp [twL])
    have e5 : w32 (i + 1) = i + 1 := w32_id (by omega) (by omega)
    have hfm : Fr scC μ0 (m2 μ 27 i (-1)) := fr_m2 hf (by decide)
    have hRm := R_cls hfm hR
    have ktm := scC_tw (b := b) hfm
    have k1m := ktm (tw b + 1) (by simp [twL])
    have k74 : m2 μ 27 i (-1) 74 = μ0 74 := scC_ne hfm (by decide)
    have hwm : ∀ g, 0 ≤ g → g < μ0 (tw b + 1) 2 → m2 μ 27 i (-1) 27 g = wc (wP b μ0 p) i g := fun g g0 g1 => by
      rw [m2_at]; unfold wc
      by_cases e : g = i
      · rw [if_pos e, if_pos e]
      · rw [if_neg e, if_neg e, hw g g0 g1]
    have hP := sX9_canPay p b (m2 μ 27 i (-1)) hRm p0 (by rw [k1m]; exact p1) (fun g g0 g1 => by
      rw [k1m] at g1
      rw [hwm g g0 g1]
      have := wP_in b μ0 p g
      unfold wc; split <;> omega) d hd
    rw [k74, dstN_same ktm, dstN_congr hwm] at hP
    refine ev_row (fun n => tX9_out_38 _ n b μ p acc i v4) (ev_pos (by rw [k1]; omega) (ev_if (by omega) (ev_if (by omega) (ev_callP hP (fun v μ1 ⟨hf1, hv⟩ => ?_)))))
    have fin : ∀ acc', acc' = (if decide (¬ dstN b μ0 (wc (wP b μ0 p) i) (μ0 74 (38 + p)) (μ0 74 (44 + p)) ≤ μ0 74 (50 + p)) = true then iOr acc (iShl 1 i) else acc) → Ev (fun n => mRun (mCallN d) kX9_out n 86 [some (mP 0), some (mI p), some (mI acc'), some (mI i), some (mI (μ 27 i))] [] (SH, μ1, RHO b)) b (fun v μ' => Fr scC μ0 μ' ∧ v = setB (fun g => decide (¬ dstN b μ0 (wc (wP b μ0 p) g) (μ0 74 (38 + p)) (μ0 74 (44 + p)) ≤ μ0 74 (50 + p))) (k + 1) i acc) := fun acc' ha => by
      refine ev_row (fun n => tX9_out_86 _ n b μ1 p acc' i (μ 27 i)) (ev_if (by omega) ?_)
      rw [e5, setB, ← ha]
      refine ih (i + 1) acc' (some (mI (μ 27 i))) _ (by omega) (by omega) (fr_m2 (fr_tr hfm (fr_sc hf1 (sub_C (by decide))) (fun a h => h)) (by decide)) (fun g g0 g1 => ?_)
      rw [m2_at, hf1 27 (by decide), m2_at]
      by_cases e : g = i
      · rw [if_pos e, e]; exact hw i h0 (by omega)
      · rw [if_neg e, if_neg e]; exact hw g g0 g1
    refine ev_br (fun e => fin _ ?_) (fun e => fin _ ?_)
    · have e' : v = 0 := e
      rw [hv, t01_eq0] at e'
      rw [if_pos (decide_eq_true e')]
    · have e' : ¬ v = 0 := e
      rw [hv, t01_eq0] at e'
      rw [if_neg (by rw [decide_eq_true_iff]; exact e')]
theorem eX10_out {d : Nat} (hd : 3 ≤ d) {b : Bool} {p : Int} {μ0 : Nat → Int → Int} (hR : R b μ0) (p0 : 0 ≤ p) (p1 : p < μ0 (tw b + 1) 3) : ∀ (k : Nat) (i acc : Int) (μ : Nat → Int → Int), 0 ≤ i → i + k = μ0 (tw b + 1) 2 → Fg scR scJ μ0 μ → (∀ g, 0 ≤ g → g < μ0 (tw b + 1) 2 → μ 135 g = wP b μ0 p g) → Ev (fun n => mRun (mCallN d) kX10_out n 30 [some (mP 96), some (mI p), some (mI acc), some (mI i)] [] (SH, μ, RHO b)) b (fun v μ' => Fg scR scJ μ0 μ' ∧ v = setB (fun g => decide (¬ dstN b μ0 (wc (wP b μ0 p) g) (μ0 74 (38 + p)) (μ0 74 (44 + p)) ≤ μ0 74 (50 + p))) k i acc) := by
  have hC := Rcnt_C hR.1.1
  obtain ⟨-, -, ⟨y1, y2, y3⟩, -⟩ := hR.1.1
  intro k
  induction k with
  | zero =>
    intro i acc μ h0 hk hf hw
    have kt := scR_tw (b := b) hf
    exact ev_row (fun n => tX10_out_30 _ n b μ p acc i) (ev_call (sX10_gateMany b μ d (by omega)) (ev_neg (by show ¬ (i < μ 120 7); rw [kt 120 (by simp [twL])]; omega) (ev_ret ⟨hf, rfl⟩)))
  | succ k ih =>
    intro i acc μ h0 hk hf hw
    have kt := scR_tw (b := b) hf
    have k1 := kt (tw b + 1) (by simp [twL])
    have hR1 := R_ref hf hR
    have e5 : w32 (i + 1) = i + 1 := w32_id (by omega) (by omega)
    have k74 : μ 74 = μ0 74 := scR_ne hf (by decide) (by decide)
    have hP := sX10_canPay p i (μ 74) b μ (R_refOK hR1) p0 (by rw [k1]; exact p1) (fun g g0 g1 => by rw [k1] at g1; rw [hw g g0 g1]; exact wP_in b μ0 p g) d hd
    rw [k74, dstN_same kt, dstN_congr (w := wc (wP b μ0 p) i) (fun g g0 g1 => by unfold wc; rw [hw g g0 g1])] at hP
    refine ev_row (fun n => tX10_out_30 _ n b μ p acc i) (ev_call (sX10_gateMany b μ d (by omega)) (ev_pos (by show i < μ 120 7; rw [kt 120 (by simp [twL])]; omega) (ev_callP hP (fun v μ1 ⟨hf1, hv, _⟩ => ?_))))
    have fin : ∀ acc', acc' = (if decide (¬ dstN b μ0 (wc (wP b μ0 p) i) (μ0 74 (38 + p)) (μ0 74 (44 + p)) ≤ μ0 74 (50 + p)) = true then iOr acc (iShl 1 i) else acc) → Ev (fun n => mRun (mCallN d) kX10_out n 53 [some (mP 96), some (mI p), some (mI acc'), some (mI i)] [] (SH, μ1, RHO b)) b (fun v μ' => Fg scR scJ μ0 μ' ∧ v = setB (fun g => decide (¬ dstN b μ0 (wc (wP b μ0 p) g) (μ0 74 (38 + p)) (μ0 74 (44 + p)) ≤ μ0 74 (50 + p))) (k + 1) i acc) := fun acc' ha => by
      refine ev_row (fun n => tX10_out_53 _ n b μ1 p acc' i) ?_
      rw [e5, setB, ← ha]
      refine ih (i + 1) acc' μ1 (by omega) (by omega) (fg_tr hf (fg_fr (J := scJ) hf1 (by decide)) (sub_R (by decide)) (fun a h => h)) (fun g g0 g1 => ?_)
      rw [hf1 135 (by decide)]; exact hw g g0 g1
    refine ev_br (fun e => fin _ ?_) (fun e => fin _ ?_)
    · have e' : v = 0 := e
      rw [hv, t01_eq0] at e'
      rw [if_pos (decide_eq_true e')]
    · have e' : ¬ v = 0 := e
      rw [hv, t01_eq0] at e'
      rw [if_neg (by rw [decide_eq_true_iff]; exact e')]
theorem p_out {b : Bool} {μ : Nat → Int → Int} (p : Int) (hR : R b μ) : ∀ d, 7 ≤ d → PairA d b μ 244 100 [mI p] := deep fun d hd => by
  refine pair_q (V := fun μ v => v = if 0 ≤ p ∧ p < μ (tw b + 1) 3 then (if dstN b μ (wP b μ p) (μ 74 (38 + p)) (μ 74 (44 + p)) ≤ μ 74 (50 + p) then outP b μ p else -1) else -1) hR ?_ (fun μ1 hR1 => ?_) (fun μ1 v v' hf h1 h2 => ?_)
  · have hP := sX9_isPerson p b μ d (by omega)
    have hC := Rcnt_C hR.1.1
    refine cal_ev (fun r => call_X9_out d b μ p) (ev_row (fun n => tX9_out_0 _ n b μ p) ?_)
    by_cases e1 : 0 ≤ p ∧ p < μ (tw b + 1) 3
    · rw [t01_pos e1] at hP
      obtain ⟨h1, h2, h3, h4⟩ := R_place hR e1.1 e1.2
      refine ev_call hP (ev_neg (by show ¬ ((1 : Int) = 0); decide) (ev_if (by omega) (ev_callP (R_weigh p hR e1.1 e1.2 d (by omega)) (fun _ μ1 ⟨hf1, hw⟩ => ?_))))
      have hf1' := fr_sc hf1 (sub_C (by decide))
      have hR1 := R_cls hf1' hR
      have kt := scC_tw (b := b) hf1'
      have k74 : μ1 74 = μ 74 := hf1 74 (by decide)
      have k1 := kt (tw b + 1) (by simp [twL])
      have hPay := sX9_canPay p b μ1 hR1 e1.1 (by rw [k1]; exact e1.2) (fun g g0 g1 => by rw [k1] at g1; rw [hw g g0 g1]; have := wP_in b μ p g; omega) d (by omega)
      rw [k74, dstN_same kt, dstN_congr hw] at hPay
      refine ev_callP hPay (fun v μ2 ⟨hf2, hv⟩ => ?_)
      have hf2' : Fr scC μ μ2 := fr_tr hf1' (fr_sc hf2 (sub_C (by decide))) (fun a h => h)
      refine ev_br (fun e => ?_) (fun e => ?_)
      · have e' : v = 0 := e
        rw [hv, t01_eq0] at e'
        exact ev_ret ⟨hf2', by rw [if_pos e1, if_neg e']⟩
      · have e' : ¬ v = 0 := e
        rw [hv, t01_eq0, Decidable.not_not] at e'
        refine ev_mono (eX9_out (by omega) hR e1.1 e1.2 (μ (tw b + 1) 2).toNat 0 0 none μ2 (by omega) (by omega) hf2' (fun g g0 g1 => by rw [hf2 27 (by decide)]; exact hw g g0 g1)) (fun v' μ' h => ⟨h.1, ?_⟩)
        rw [if_pos e1, if_pos e']; exact h.2
    · rw [t01_neg e1] at hP
      exact ev_call hP (ev_pos rfl (ev_ret ⟨fr_rfl, by rw [if_neg e1]⟩))
  · have hcn := hR1.1.1
    obtain ⟨⟨z1, z2, z3⟩, -, ⟨y1, y2, y3⟩, ⟨d1, d2, d3⟩⟩ := hcn
    have hP := sX10_isPerson p b μ1 (by omega) (by omega) d (by omega)
    refine cal_ev (fun r => call_X10_out d b μ1 p) (ev_row (fun n => tX10_out_0 _ n b μ1 p) ?_)
    by_cases e1 : 0 ≤ p ∧ p < μ1 (tw b + 1) 3
    · rw [t01_pos (by omega)] at hP
      refine ev_call hP (ev_neg (by show ¬ ((1 : Int) = 0); decide) (ev_callP (R_costs p hR1 e1.1 e1.2 d (by omega)) (fun _ μ2 ⟨hf2, hw⟩ => ?_)))
      have hf2' := fg_sc hf2 (sub_R (by decide)) (sub_J (by decide))
      have hR2 := R_ref hf2' hR1
      have kt := scR_tw (b := b) hf2'
      have k1 := kt (tw b + 1) (by simp [twL])
      have k74 : μ2 74 = μ1 74 := hf2.1 74 (by decide) (by decide)
      have hPay := sX10_canPay p (-1) (μ2 74) b μ2 (R_refOK hR2) e1.1 (by rw [k1]; exact e1.2) (fun g g0 g1 => by rw [k1] at g1; rw [hw g g0 g1]; exact wP_in b μ1 p g) d (by omega)
      rw [k74, dstN_same kt, dstN_congr (w := wP b μ1 p) (fun g g0 g1 => by unfold wc; rw [if_neg (by omega), hw g g0 g1])] at hPay
      refine ev_callP hPay (fun v μ3 ⟨hf3, hv, _⟩ => ?_)
      have hf3' : Fg scR scJ μ1 μ3 := fg_tr hf2' (fg_fr (J := scJ) hf3 (by decide)) (sub_R (by decide)) (fun a h => h)
      refine ev_br (fun e => ?_) (fun e => ?_)
      · have e' : v = 0 := e
        rw [hv, t01_eq0] at e'
        exact ev_ret ⟨hf3', by rw [if_pos e1, if_neg e']⟩
      · have e' : ¬ v = 0 := e
        rw [hv, t01_eq0, Decidable.not_not] at e'
        refine ev_mono (eX10_out (by omega) hR1 e1.1 e1.2 (μ1 (tw b + 1) 2).toNat 0 0 μ3 (by omega) (by omega) hf3' (fun g g0 g1 => by rw [hf3 135 (by decide)]; exact hw g g0 g1)) (fun v' μ' h => ⟨h.1, ?_⟩)
        rw [if_pos e1, if_pos e']; exact h.2
    · rw [t01_neg (by omega)] at hP
      exact ev_call hP (ev_pos rfl (ev_ret ⟨fg_rfl, by rw [if_neg e1]⟩))
  · have kt := scC_tw (b := b) hf
    have k74 : μ1 74 = μ 74 := scC_ne hf (by decide)
    have hd : outP b μ1 p = outP b μ p := by
      unfold outP
      rw [wP_same kt k74, k74, kt (tw b + 1) (by simp [twL])]
      congr 1
      funext r
      rw [dstN_same kt]
    rw [h1, h2, hd, kt (tw b + 1) (by simp [twL]), wP_same kt k74, k74, dstN_same kt]
