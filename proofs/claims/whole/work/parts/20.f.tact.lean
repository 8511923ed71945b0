/-! tact -/
def firT (z : Int → Bool) : Nat → Int → Int
  | 0, _ => -1
  | k + 1, i => if z i then i else firT z k (i + 1)
theorem firT_ge (z : Int → Bool) : ∀ (k : Nat) (i : Int), 0 ≤ i → firT z k i = -1 ∨ i ≤ firT z k i
  | 0, _, _ => Or.inl rfl
  | k + 1, i, h => by
    rw [firT]
    split
    · exact Or.inr (by omega)
    · rcases firT_ge z k (i + 1) (by omega) with h1 | h1
      · exact Or.inl h1
      · exact Or.inr (by omega)
def tacZ (b : Bool) (μ : Nat → Int → Int) (p : Int) : Int → Bool := fun t => decide (dstN b μ (fun g => prc b μ (μ 74) (μ 74 (2 + g)) p t) (μ 74 (38 + p)) (μ 74 (44 + p)) = 0)
theorem eX9_tact {d : Nat} (hd : 6 ≤ d) {b : Bool} {p : Int} {μ0 : Nat → Int → Int} (hR : R b μ0) (p0 : 0 ≤ p) (p1 : p < μ0 (tw b + 1) 3) : ∀ (k : Nat) (i : Int) (μ : Nat → Int → Int), 0 ≤ i → i + k = 100 → Fr scC μ0 μ → Ev (fun n => mRun (mCallN d) kX9_tact n 12 [some (mP 0), some (mI p), some (mI i)] [] (SH, μ, RHO b)) b (fun v μ' => Fr scC μ0 μ' ∧ v = firT (tacZ b μ0 p) k i) := by
  obtain ⟨h1, h2, h3, h4⟩ := R_place hR p0 p1
  have w1 : w32 (38 + p) = 38 + p := w32_id (by omega) (by omega)
  have w2 : w32 (44 + p) = 44 + p := w32_id (by omega) (by omega)
  intro k
  induction k with
  | zero =>
    intro i μ h0 hk hf
    exact ev_row (fun n => tX9_tact_12 _ n b μ p i) (ev_pos (by omega) (ev_ret ⟨hf, rfl⟩))
  | succ k ih =>
    intro i μ h0 hk hf
    have hR1 := R_cls hf hR
    have kt := scC_tw (b := b) hf
    have k1 := kt (tw b + 1) (by simp [twL])
    have k74 : μ 74 = μ0 74 := scC_ne hf (by decide)
    have e5 : w32 (i + 1) = i + 1 := w32_id (by omega) (by omega)
    have hW := sX9_weighPrices p i b μ hR1 p0 (by rw [k1]; exact p1) ⟨h0, by omega⟩ d hd
    rw [prc_same kt, k74, k1] at hW
    refine ev_row (fun n => tX9_tact_12 _ n b μ p i) (ev_neg (by omega) (ev_callP hW (fun _ μ1 ⟨hf1, hw⟩ => ?_)))
    have hf1' : Fr scC μ0 μ1 := fr_tr hf (fr_sc hf1 (sub_C (by decide))) (fun a h => h)
    have hR2 := R_cls hf1' hR
    have kt1 := scC_tw (b := b) hf1'
    have k11 := kt1 (tw b + 1) (by simp [twL])
    have k741 : μ1 74 = μ0 74 := scC_ne hf1' (by decide)
    have hM := R_meas hR2 (μ0 74 (38 + p)) (fun g g0 g1 => by rw [k11] at g1; rw [hw g g0 g1]; have := prc_in b μ0 (μ0 74) (μ0 74 (2 + g)) p i; omega) h1.1 (by omega) d (by omega)
    have hM' : Cal d 207 [mP 26, mP (tw b), mI (μ1 74 (38 + p))] b μ1 (fun _ μ' => Fr [28] μ1 μ' ∧ ∀ v, 0 ≤ v → v < 10 → μ' 28 v = dstN b μ1 (μ1 27) (μ0 74 (38 + p)) v) := by rw [k741]; exact hM
    dsimp only
    rw [w1, w2]
    refine ev_if (by omega) (ev_callP hM' (fun _ μ2 ⟨hf2, hL⟩ => ?_))
    have hf2' : Fr scC μ0 μ2 := fr_tr hf1' (fr_sc hf2 (sub_C (by decide))) (fun a h => h)
    have k742 : μ2 74 = μ0 74 := scC_ne hf2' (by decide)
    have hz : μ2 28 (μ2 74 (44 + p)) = 0 ↔ tacZ b μ0 p i = true := by
      rw [k742, hL _ h2.1 (by omega), dstN_same kt1, dstN_congr (w := fun g => prc b μ0 (μ0 74) (μ0 74 (2 + g)) p i) (fun g g0 g1 => hw g g0 g1)]
      unfold tacZ
      rw [decide_eq_true_iff]
    refine ev_if (by omega) (ev_if (by show 0 ≤ μ2 74 (44 + p) ∧ μ2 74 (44 + p) < 10; rw [k742]; omega) (ev_br (fun e => ?_) (fun e => ?_)))
    · exact ev_ret ⟨hf2', by rw [firT, if_pos (hz.1 e)]⟩
    · dsimp only
      rw [e5, firT, if_neg (fun h => e (hz.2 h))]
      exact ih (i + 1) μ2 (by omega) (by omega) hf2'
theorem eX10_tact {d : Nat} (hd : 6 ≤ d) {b : Bool} {p v2 : Int} {μ0 : Nat → Int → Int} (hR : R b μ0) (p0 : 0 ≤ p) (p1 : p < μ0 (tw b + 1) 3) (hv2 : v2 = μ0 134 p) : ∀ (k : Nat) (i v3 : Int) (μ : Nat → Int → Int), 0 ≤ i → i + k = 100 → (v3 = -1 ∨ 0 ≤ v3) → (∀ a, a ∉ [131, 132, 135] → a ≠ 96 → a ≠ 134 → μ a = μ0 a) → (∀ j, j ≠ 50 → μ 96 j = μ0 96 j) → (∀ q, q ≠ p → μ 134 q = μ0 134 q) → Ev (fun n => mRun (mCallN d) kX10_tact n 22 [some (mP 96), some (mI p), some (mI v2), some (mI v3), some (mI i)] [] (SH, μ, RHO b)) b (fun v μ' => Fg [131, 132, 135] [50] μ0 μ' ∧ v = if v3 = -1 then firT (tacZ b μ0 p) k i else v3) := by
  obtain ⟨h1, h2, h3, h4⟩ := R_place hR p0 p1
  have hO := R_refOK hR
  have hC := Rcnt_C hR.1.1
  obtain ⟨r0, r1, r2, r3⟩ := hR.2.1.1.2 p p0 h4
  have fin : ∀ (i v3 : Int) (μ : Nat → Int → Int), (∀ a, a ∉ [131, 132, 135] → a ≠ 96 → a ≠ 134 → μ a = μ0 a) → (∀ j, j ≠ 50 → μ 96 j = μ0 96 j) → (∀ q, q ≠ p → μ 134 q = μ0 134 q) → Ev (fun n => mRun (mCallN d) kX10_tact n 79 [some (mP 96), some (mI p), some (mI v2), some (mI v3), some (mI i)] [] (SH, μ, RHO b)) b (fun v μ' => Fg [131, 132, 135] [50] μ0 μ' ∧ v = v3) := fun i v3 μ ha hj hq => by
    refine ev_row (fun n => tX10_tact_79 _ n b μ p v2 v3 i) (ev_if (by omega) (ev_ret ⟨⟨fun a a1 a2 => ?_, fun j hj' => ?_⟩, rfl⟩))
    · by_cases e : a = 134
      · subst e
        funext q
        rw [m2_at]
        by_cases e2 : q = p
        · rw [if_pos e2, e2, hv2]
        · rw [if_neg e2]; exact hq q e2
      · rw [m2_ne e]; exact ha a a1 a2 e
    · rw [m2_ne (by decide)]; exact hj j (by simpa using hj')
  intro k
  induction k with
  | zero =>
    intro i v3 μ h0 hk hv3 ha hj hq
    refine ev_row (fun n => tX10_tact_22 _ n b μ p v2 v3 i) (ev_neg (by omega) (ev_mono (fin i v3 μ ha hj hq) (fun v μ' h => ⟨h.1, ?_⟩)))
    rw [h.2]
    split
    · rename_i e; rw [e]; rfl
    · rfl
  | succ k ih =>
    intro i v3 μ h0 hk hv3 ha hj hq
    have e5 : w32 (i + 1) = i + 1 := w32_id (by omega) (by omega)
    refine ev_row (fun n => tX10_tact_22 _ n b μ p v2 v3 i) (ev_pos (by omega) (ev_br (fun e => ?_) (fun e => ?_)))
    · refine ev_if (by omega) ?_
      have kt : ∀ a, a ∈ twL b → a ≠ 134 → m2 μ 134 p i a = μ0 a := fun a h h' => by
        have := twL_or h
        have := tw_or b
        rw [m2_ne h']
        exact ha a (by simp only [List.mem_cons, List.not_mem_nil, or_false]; omega) (by omega) h'
      have k1 : m2 μ 134 p i (tw b + 1) = μ0 (tw b + 1) := kt _ (by simp [twL]) (by have := tw_or b; omega)
      have k133 : m2 μ 134 p i 133 = μ0 133 := by rw [m2_ne (by decide)]; exact ha 133 (by decide) (by decide) (by decide)
      have hOm : RefOK b (m2 μ 134 p i) (μ0 74) := RefOK_same kt (by rw [k133]; exact hR.2.1.1) (fun q q0 q1 => by
        rw [m2_at]
        by_cases e2 : q = p
        · rw [if_pos e2]; omega
        · rw [if_neg e2, hq q e2]; exact (hO.2.2.2.2.2.2.2 q q0 q1).1) hO
      have hK := sX10_costs p (μ0 74) b (m2 μ 134 p i) hOm p0 (by rw [k1]; exact p1) d hd
      rw [prc_same' kt, k1, m2_at, if_pos rfl] at hK
      refine ev_callP hK (fun _ μ1 ⟨hf1, hw⟩ => ?_)
      have k1331 : μ1 133 = μ0 133 := by rw [hf1.1 133 (by decide) (by decide), k133]
      have kt1 : ∀ a, a ∈ twL b → a ≠ 134 → μ1 a = μ0 a := fun a h h' => by
        have := twL_or h
        have := tw_or b
        rw [hf1.1 a (by simp only [List.mem_cons, List.not_mem_nil, or_false]; omega) (by omega)]
        exact kt a h h'
      have k11 : μ1 (tw b + 1) = μ0 (tw b + 1) := kt1 _ (by simp [twL]) (by have := tw_or b; omega)
      have hO1 : RefOK b μ1 (μ0 74) := RefOK_same kt1 (by rw [k1331]; exact hR.2.1.1) (fun q q0 q1 => by
        rw [hf1.1 134 (by decide) (by decide)]
        rw [m2_at]
        by_cases e2 : q = p
        · rw [if_pos e2]; omega
        · rw [if_neg e2, hq q e2]; exact (hO.2.2.2.2.2.2.2 q q0 q1).1) hO
      have hP0 := sX10_personOf p 0 b μ1 p0 h4 (by decide) (by decide) d (by omega)
      rw [k1331, r0] at hP0
      have hP1 := sX10_personOf p 1 b μ1 p0 h4 (by decide) (by decide) d (by omega)
      rw [k1331, r1] at hP1
      have hF := Ref_freely (μ0 74 (38 + p)) hO1 (fun g g0 g1 => by rw [k11] at g1; rw [hw g g0 g1]; exact prc_in _ _ _ _ _ _) h1.1 (by rw [k11]; exact h1.2) d (by omega)
      refine ev_call hP0 (ev_callP hF (fun v μ2 ⟨hμ, hv, hb⟩ => ?_))
      subst hμ
      refine ev_call hP1 ?_
      rw [k11] at hv
      have hpw : (2 : Nat) ^ (μ0 (tw b + 1) 0).toNat ≤ 2 ^ 10 := Nat.pow_le_pow_right (by decide) (by omega)
      have hz : iAnd (iShr v (μ0 74 (44 + p))) 1 = 1 ↔ tacZ b μ0 p i = true := by
        rw [bit_br hv.1 (by omega) h2.1 (by omega), hb (μ0 74 (44 + p)) h2.1 (by rw [k11]; exact h2.2), dstN_same' kt1, dstN_congr (w := fun g => prc b μ0 (μ0 74) (μ0 74 (2 + g)) p i) (fun g g0 g1 => hw g g0 g1)]
        unfold tacZ
        rw [decide_eq_true_iff]
      have nx : ∀ v3', (v3' = -1 ∨ 0 ≤ v3') → Ev (fun n => mRun (mCallN d) kX10_tact n 73 [some (mP 96), some (mI p), some (mI v2), some (mI v3'), some (mI i)] [] (SH, μ2, RHO b)) b (fun v μ' => Fg [131, 132, 135] [50] μ0 μ' ∧ v = if v3' = -1 then firT (tacZ b μ0 p) k (i + 1) else v3') := fun v3' hv3' => by
        refine ev_row (fun n => tX10_tact_73 _ n b μ2 p v2 v3' i) ?_
        rw [e5]
        refine ih (i + 1) v3' μ2 (by omega) (by omega) hv3' (fun a a1 a2 a3 => ?_) (fun j hj' => ?_) (fun q hq' => ?_)
        · rw [hf1.1 a a1 a2, m2_ne a3]; exact ha a a1 a2 a3
        · rw [hf1.2 j (by simpa using hj'), m2_ne (by decide)]; exact hj j hj'
        · rw [hf1.1 134 (by decide) (by decide), m2_at, if_neg hq']; exact hq q hq'
      refine ev_br (fun e2 => ?_) (fun e2 => ?_)
      · refine ev_mono (nx i (Or.inr h0)) (fun v' μ' h => ⟨h.1, ?_⟩)
        rw [h.2, if_neg (by omega), if_pos e, firT, if_pos (hz.1 e2)]
      · refine ev_mono (nx v3 hv3) (fun v' μ' h => ⟨h.1, ?_⟩)
        rw [h.2, if_pos e, if_pos e, firT, if_neg (fun h => e2 (hz.2 h))]
    · refine ev_mono (fin i v3 μ ha hj hq) (fun v μ' h => ⟨h.1, ?_⟩)
      rw [h.2, if_neg e]
theorem p_tact {b : Bool} {μ : Nat → Int → Int} (p : Int) (hR : R b μ) : ∀ d, 7 ≤ d → PairA d b μ 254 121 [mI p] := deep fun d hd => by
  refine pair_q (V := fun μ v => v = if 0 ≤ p ∧ p < μ (tw b + 1) 3 then firT (tacZ b μ p) 100 0 else -1) hR ?_ (fun μ1 hR1 => ?_) (fun μ1 v v' hf h1 h2 => ?_)
  · have hP := sX9_isPerson p b μ d (by omega)
    refine cal_ev (fun r => call_X9_tact d b μ p) (ev_row (fun n => tX9_tact_0 _ n b μ p) ?_)
    by_cases e1 : 0 ≤ p ∧ p < μ (tw b + 1) 3
    · rw [t01_pos e1] at hP
      refine ev_call hP (ev_neg (by show ¬ ((1 : Int) = 0); decide) ?_)
      refine ev_mono (eX9_tact hd hR e1.1 e1.2 100 0 μ (by decide) (by decide) fr_rfl) (fun v μ' h => ⟨h.1, ?_⟩)
      rw [if_pos e1]; exact h.2
    · rw [t01_neg e1] at hP
      exact ev_call hP (ev_pos rfl (ev_ret ⟨fr_rfl, by rw [if_neg e1]⟩))
  · have hcn := hR1.1.1
    obtain ⟨-, -, -, ⟨d1, d2, d3⟩⟩ := hcn
    have hP := sX10_isPerson p b μ1 (by omega) (by omega) d (by omega)
    refine cal_ev (fun r => call_X10_tact d b μ1 p) (ev_row (fun n => tX10_tact_0 _ n b μ1 p) ?_)
    by_cases e1 : 0 ≤ p ∧ p < μ1 (tw b + 1) 3
    · rw [t01_pos (by omega)] at hP
      refine ev_call hP (ev_neg (by show ¬ ((1 : Int) = 0); decide) (ev_if (by omega) ?_))
      refine ev_mono (eX10_tact hd hR1 e1.1 e1.2 rfl 100 0 (-1) μ1 (by decide) (by decide) (Or.inl rfl) (fun _ _ _ _ => rfl) (fun _ _ => rfl) (fun _ _ => rfl)) (fun v μ' h => ⟨fg_sc h.1 (sub_R (by decide)) (sub_J (by decide)), ?_⟩)
      rw [if_pos e1, h.2, if_pos rfl]
    · rw [t01_neg (by omega)] at hP
      exact ev_call hP (ev_pos rfl (ev_ret ⟨fg_rfl, by rw [if_neg e1]⟩))
  · have kt := scC_tw (b := b) hf
    have k74 : μ1 74 = μ 74 := scC_ne hf (by decide)
    have hd : tacZ b μ1 p = tacZ b μ p := by
      unfold tacZ
      rw [prc_same kt, k74]
      funext t
      rw [dstN_same kt]
    rw [h1, h2, hd, kt (tw b + 1) (by simp [twL])]
