/-! seen -/
def allB (z : Int → Bool) : Nat → Int → Bool
  | 0, _ => true
  | k + 1, i => z i && allB z k (i + 1)
/-- does what was seen fit a man -/
def siZ (b : Bool) (μ : Nat → Int → Int) (m : Int) : Int → Bool := fun k => decide ((plain (askF (μ (tw b + 14) (μ 76 (3 * k + 1))) (μ 76 (3 * k)) 0 (μ 76 (3 * k + 1)) (μ 74 0)) (fun j => μ 126 (1600 + j)) (μ (tw b + 16) m) (μ (tw b + 17) m) (μ (tw b + 18) m) = 0) ↔ (μ 76 (3 * k + 2) = 1))
theorem sX2_priceFresh (m p h e : Int) (b : Bool) (μ : Nat → Int → Int) (hR : R b μ) (hm : 0 ≤ m) (hm2 : m < μ (tw b + 1) 1) (hp0 : 0 ≤ p) (hp1 : p < μ (tw b + 1) 3) (hh : 0 ≤ h ∧ h ≤ 1000) (he : 0 ≤ e ∧ e ≤ 1000) : ∀ d, 5 ≤ d → Cal d 151 [mP 23, mP (tw b), mI m, mI p, mI h, mI e] b μ (fun v μ' => Fr [24, 25] μ μ' ∧ v = plain (askF (μ (tw b + 14) p) h 0 p e) (fun j => μ 126 (1600 + j)) (μ (tw b + 16) m) (μ (tw b + 17) m) (μ (tw b + 18) m)) := deepC fun d hd => by
  have hC := Rcnt_C hR.1.1
  obtain ⟨-, ⟨w1, w2, w3⟩, -, -⟩ := hR.1.1
  obtain ⟨t1, t2, t3⟩ := hR.1.2.2.2.2.1 p hp0 hp1
  refine cal_ev (fun r => call_X2_priceFresh d b μ m p h e b) (ev_row (fun n => tX2_priceFresh_0 _ n b μ m p h e b) (ev_if (by omega) (ev_callP (sX2_setFacts (μ (tw b + 14) p) h 0 p e b μ d (by omega)) (fun _ μ1 ⟨hf1, hk1⟩ => ?_))))
  have hne : ∀ a, a ≠ 24 → μ1 a = μ a := fun a h => hf1 a (by simpa using h)
  have hR1 := R_cls (fr_sc hf1 (sub_C (by decide))) hR
  refine ev_callP (sX2_priceByFacts m (askF (μ (tw b + 14) p) h 0 p e) b μ1 hm (by omega) (by rw [hne (tw b + 1) (by have := tw_or b; omega)]; exact hm2) (R_cod hR1) (askF_in (by omega) hh (by omega) (by omega) he) hk1 d hd) (fun v μ2 ⟨hf2, hv⟩ => ev_ret ⟨fr_tr (fr_sub hf1 (by simp)) hf2 (by simp), ?_⟩)
  rw [hne (tw b + 16) (by have := tw_or b; omega), hne (tw b + 17) (by have := tw_or b; omega), hne (tw b + 18) (by have := tw_or b; omega), hne 126 (by decide)] at hv
  exact hv
theorem eX9_fitsSights {d : Nat} (hd : 5 ≤ d) {b : Bool} {m : Int} {μ0 : Nat → Int → Int} (hR : R b μ0) (hm : 0 ≤ m) (hm2 : m < μ0 (tw b + 1) 1) : ∀ (k : Nat) (i : Int) (v3 : Option mV) (μ : Nat → Int → Int), 0 ≤ i → i + k = μ0 0 10 → Fr [24, 25] μ0 μ → Ev (fun n => mRun (mCallN d) kX9_fitsSights n 2 [some (mP 0), some (mI m), some (mI (3 * i)), v3] [] (SH, μ, RHO b)) b (fun v μ' => Fr [24, 25] μ0 μ' ∧ v = if allB (siZ b μ0 m) k i = true then 1 else 0) := by
  have hS := hR.2.2.2.1.2.2.1
  obtain ⟨⟨s1, s2, s3⟩, s4⟩ := hS
  have hA := R_rowA hR
  intro k
  induction k with
  | zero =>
    intro i v3 μ h0 hk hf
    have e0 : w32 (μ0 0 10 * 3) = μ0 0 10 * 3 := w32_id (by omega) (by omega)
    refine ev_row (fun n => tX9_fitsSights_2 _ n b μ m _ v3) (ev_neg (by rw [hf 0 (by decide), e0]; omega) (ev_ret ⟨hf, rfl⟩))
  | succ k ih =>
    intro i v3 μ h0 hk hf
    obtain ⟨⟨q1, q2, q3⟩, q4, q5, q6⟩ := s4 i h0 (by omega)
    have e0 : w32 (μ0 0 10 * 3) = μ0 0 10 * 3 := w32_id (by omega) (by omega)
    have e1 : w32 (3 * i + 1) = 3 * i + 1 := w32_id (by omega) (by omega)
    have e2 : w32 (3 * i + 2) = 3 * i + 2 := w32_id (by omega) (by omega)
    have e3 : w32 (3 * i + 3) = 3 * (i + 1) := by rw [w32_id (by omega) (by omega)]; omega
    have hf' := fr_sc hf (sub_C (by decide))
    have hR1 := R_cls hf' hR
    have kt := scC_tw (b := b) hf'
    have hK := sX2_priceFresh m (μ0 76 (3 * i + 1)) (μ0 76 (3 * i)) (μ0 74 0) b μ hR1 hm (by rw [kt (tw b + 1) (by simp [twL])]; exact hm2) q5.1 (by rw [kt (tw b + 1) (by simp [twL])]; exact q5.2) (by omega) (by have := hA.1; omega) d hd
    rw [kt (tw b + 14) (by simp [twL]), kt (tw b + 16) (by simp [twL]), kt (tw b + 17) (by simp [twL]), kt (tw b + 18) (by simp [twL]), kt 126 (by simp [twL])] at hK
    refine ev_row (fun n => tX9_fitsSights_2 _ n b μ m _ v3) (ev_pos (by rw [hf 0 (by decide), e0]; omega) ?_)
    rw [e1, hf 76 (by decide), hf 74 (by decide)]
    refine ev_if (by omega) (ev_if (by omega) (ev_callP hK (fun v μ1 ⟨hf1, hv⟩ => ?_)))
    have hf1' : Fr [24, 25] μ0 μ1 := fr_tr hf hf1 (fun a h => h)
    have nx : ∀ s0 : Int, s0 = t01 (v = 0) → Ev (fun n => mRun (mCallN d) kX9_fitsSights n 52 [some (mP 0), some (mI m), some (mI (3 * i)), v3] [mI s0] (SH, μ1, RHO b)) b (fun v μ' => Fr [24, 25] μ0 μ' ∧ v = if allB (siZ b μ0 m) (k + 1) i = true then 1 else 0) := fun s0 hs => by
      have br : ∀ s1 : Int, s1 = t01 (μ0 76 (3 * i + 2) = 1) → Ev (fun n => mRun (mCallN d) kX9_fitsSights n 71 [some (mP 0), some (mI m), some (mI (3 * i)), some (mI s0)] [mI s1, mI s0] (SH, μ1, RHO b)) b (fun v μ' => Fr [24, 25] μ0 μ' ∧ v = if allB (siZ b μ0 m) (k + 1) i = true then 1 else 0) := fun s1 hs1 => by
        have hz : s0 = s1 ↔ siZ b μ0 m i = true := by
          rw [hs, hs1]
          unfold siZ
          rw [decide_eq_true_iff, ← hv]
          by_cases a1 : v = 0
          · rw [t01_pos a1]
            by_cases a2 : μ0 76 (3 * i + 2) = 1
            · rw [t01_pos a2]; simp [a1, a2]
            · rw [t01_neg a2]; simp [a1, a2]
          · rw [t01_neg a1]
            by_cases a2 : μ0 76 (3 * i + 2) = 1
            · rw [t01_pos a2]; simp [a1, a2]
            · rw [t01_neg a2]; simp [a1, a2]
        refine ev_row (fun n => tX9_fitsSights_71 _ n b μ1 m _ s0 s0 s1) (ev_br (fun c => ?_) (fun c => ev_ret ⟨hf1', ?_⟩))
        · rw [e3, allB, hz.1 c, Bool.true_and]
          exact ih (i + 1) (some (mI s0)) μ1 (by omega) (by omega) hf1'
        · rw [allB, Bool.eq_false_iff.2 (fun h => c (hz.2 h)), Bool.false_and]; rfl
      refine ev_row (fun n => tX9_fitsSights_52 _ n b μ1 m _ v3 s0) ?_
      rw [e2]
      refine ev_if (by omega) (ev_br (fun c => br 1 ?_) (fun c => br 0 ?_))
      · rw [hf1' 76 (by decide)] at c; rw [t01_pos c]
      · rw [hf1' 76 (by decide)] at c; rw [t01_neg c]
    refine ev_br (fun c => nx 1 ?_) (fun c => nx 0 ?_)
    · have c' : v = 0 := c
      rw [t01_pos c']
    · have c' : ¬ v = 0 := c
      rw [t01_neg c']
theorem eX10_isSeen {d : Nat} (hd : 4 ≤ d) {b : Bool} {m : Int} {μ0 : Nat → Int → Int} (hR : R b μ0) (hm : 0 ≤ m) (hm2 : m < μ0 (tw b + 1) 1) : ∀ (k : Nat) (i : Int) (μ : Nat → Int → Int), 0 ≤ i → i + k = μ0 0 10 → Fg [131, 132] [50] μ0 μ → Ev (fun n => mRun (mCallN d) kX10_isSeen n 2 [some (mP 96), some (mI m), some (mI i)] [] (SH, μ, RHO b)) b (fun v μ' => Fg [131, 132] [50] μ0 μ' ∧ v = if allB (siZ b μ0 m) k i = true then 1 else 0) := by
  have hS := hR.2.2.2.1.2.2.1
  obtain ⟨⟨s1, s2, s3⟩, s4⟩ := hS
  have hA := R_rowA hR
  have hC := Rcnt_C hR.1.1
  obtain ⟨-, ⟨w1, w2, w3⟩, -, -⟩ := hR.1.1
  have g0 := hR.2.1.1.1 0 (by decide) (by decide)
  intro k
  induction k with
  | zero =>
    intro i μ h0 hk hf
    exact ev_row (fun n => tX10_isSeen_2 _ n b μ m i) (ev_neg (by rw [hf.2 67 (by decide)]; omega) (ev_ret ⟨hf, rfl⟩))
  | succ k ih =>
    intro i μ h0 hk hf
    obtain ⟨⟨q1, q2, q3⟩, q4, q5, q6⟩ := s4 i h0 (by omega)
    obtain ⟨t1, t2, t3⟩ := hR.1.2.2.2.2.1 _ q5.1 q5.2
    have e0 : w32 (3 * i) = 3 * i := w32_id (by omega) (by omega)
    have e1 : w32 (3 * i + 1) = 3 * i + 1 := w32_id (by omega) (by omega)
    have e2 : w32 (3 * i + 2) = 3 * i + 2 := w32_id (by omega) (by omega)
    have e3 : w32 (i + 1) = i + 1 := w32_id (by omega) (by omega)
    have hf' := fg_sc hf (sub_R (by decide)) (sub_J (by decide))
    have hR1 := R_ref hf' hR
    have kt := scR_tw (b := b) hf'
    have k133 : μ 133 = μ0 133 := hf.1 133 (by decide) (by decide)
    have hK := sX10_plainly m (μ0 76 (3 * i + 1)) (μ0 76 (3 * i)) 0 b μ hm (by omega) (by rw [kt (tw b + 1) (by simp [twL])]; exact hm2) q5.1 (by omega) (R_cod hR1) (by rw [kt 134 (by simp [twL]), t1]; omega) (by omega) (by omega) (by rw [k133, g0]; have := hA.1; omega) d hd
    rw [kt 134 (by simp [twL]), t1, k133, g0, kt (tw b + 16) (by simp [twL]), kt (tw b + 17) (by simp [twL]), kt (tw b + 18) (by simp [twL]), kt 126 (by simp [twL])] at hK
    refine ev_row (fun n => tX10_isSeen_2 _ n b μ m i) (ev_pos (by rw [hf.2 67 (by decide)]; omega) ?_)
    rw [e0, e1, hf.1 141 (by decide) (by decide), q1, q2]
    refine ev_if (by omega) (ev_if (by omega) (ev_callP hK (fun v μ1 ⟨hf1, hv⟩ => ?_)))
    have hf1' : Fg [131, 132] [50] μ0 μ1 := fg_tr hf hf1 (fun a h => h) (fun a h => h)
    have nx : ∀ s0 : Int, s0 = t01 (v = 0) → Ev (fun n => mRun (mCallN d) kX10_isSeen n 42 [some (mP 96), some (mI m), some (mI i)] [mI s0] (SH, μ1, RHO b)) b (fun v μ' => Fg [131, 132] [50] μ0 μ' ∧ v = if allB (siZ b μ0 m) (k + 1) i = true then 1 else 0) := fun s0 hs => by
      have br : ∀ s1 : Int, s1 = t01 (μ0 76 (3 * i + 2) = 1) → Ev (fun n => mRun (mCallN d) kX10_isSeen n 61 [some (mP 96), some (mI m), some (mI i)] [mI s1, mI s0] (SH, μ1, RHO b)) b (fun v μ' => Fg [131, 132] [50] μ0 μ' ∧ v = if allB (siZ b μ0 m) (k + 1) i = true then 1 else 0) := fun s1 hs1 => by
        have hz : s0 = s1 ↔ siZ b μ0 m i = true := by
          rw [hs, hs1]
          unfold siZ
          rw [decide_eq_true_iff, ← hv]
          by_cases a1 : v = 0
          · rw [t01_pos a1]
            by_cases a2 : μ0 76 (3 * i + 2) = 1
            · rw [t01_pos a2]; simp [a1, a2]
            · rw [t01_neg a2]; simp [a1, a2]
          · rw [t01_neg a1]
            by_cases a2 : μ0 76 (3 * i + 2) = 1
            · rw [t01_pos a2]; simp [a1, a2]
            · rw [t01_neg a2]; simp [a1, a2]
        refine ev_row (fun n => tX10_isSeen_61 _ n b μ1 m i s0 s1) (ev_br (fun c => ?_) (fun c => ev_ret ⟨hf1', ?_⟩))
        · rw [e3, allB, hz.1 c, Bool.true_and]
          exact ih (i + 1) μ1 (by omega) (by omega) hf1'
        · rw [allB, Bool.eq_false_iff.2 (fun h => c (hz.2 h)), Bool.false_and]; rfl
      refine ev_row (fun n => tX10_isSeen_42 _ n b μ1 m i s0) ?_
      rw [e0, e2]
      refine ev_if (by omega) (ev_br (fun c => br 1 ?_) (fun c => br 0 ?_))
      · rw [hf1'.1 141 (by decide) (by decide), q3] at c; rw [t01_pos c]
      · rw [hf1'.1 141 (by decide) (by decide), q3] at c; rw [t01_neg c]
    refine ev_br (fun c => nx 1 ?_) (fun c => nx 0 ?_)
    · have c' : v = 0 := c
      rw [t01_pos c']
    · have c' : ¬ v = 0 := c
      rw [t01_neg c']
def seeZ (b : Bool) (μ : Nat → Int → Int) : Int → Bool := fun m => allB (siZ b μ m) (μ 0 10).toNat 0
theorem eX9_seen {d : Nat} (hd : 6 ≤ d) {b : Bool} {μ0 : Nat → Int → Int} (hR : R b μ0) : ∀ (k : Nat) (i acc : Int) (μ : Nat → Int → Int), 0 ≤ i → i + k = μ0 (tw b + 1) 1 → Fr [24, 25] μ0 μ → Ev (fun n => mRun (mCallN d) kX9_seen n 13 [some (mP 0), some (mI acc), some (mI i)] [] (SH, μ, RHO b)) b (fun v μ' => Fr [24, 25] μ0 μ' ∧ v = setB (seeZ b μ0) k i acc) := by
  obtain ⟨⟨s1, s2, s3⟩, -⟩ := hR.2.2.2.1.2.2.1
  obtain ⟨-, ⟨w1, w2, w3⟩, -, -⟩ := hR.1.1
  intro k
  induction k with
  | zero =>
    intro i acc μ h0 hk hf
    have kt := scC_tw (b := b) (fr_sc hf (sub_C (by decide)))
    exact ev_row (fun n => tX9_seen_13 _ n b μ acc i) (ev_neg (by rw [kt (tw b + 1) (by simp [twL])]; omega) (ev_ret ⟨hf, rfl⟩))
  | succ k ih =>
    intro i acc μ h0 hk hf
    have hf' := fr_sc hf (sub_C (by decide))
    have kt := scC_tw (b := b) hf'
    have k1 := kt (tw b + 1) (by simp [twL])
    have hR1 := R_cls hf' hR
    have e5 : w32 (i + 1) = i + 1 := w32_id (by omega) (by omega)
    have hK : Cal d 222 [mP 0, mI i] b μ (fun v μ' => Fr [24, 25] μ0 μ' ∧ v = if seeZ b μ0 i = true then 1 else 0) := by
      have hdd : d = (d - 1) + 1 := by omega
      rw [hdd]
      refine cal_ev (fun r => call_X9_fitsSights (d - 1) b μ i) (ev_row (fun n => tX9_fitsSights_0 _ n b μ i) ?_)
      exact eX9_fitsSights (d := d - 1) (by omega) hR h0 (by omega) (μ0 0 10).toNat 0 none μ (by decide) (by omega) hf
    refine ev_row (fun n => tX9_seen_13 _ n b μ acc i) (ev_pos (by rw [k1]; omega) (ev_callP hK (fun v μ1 ⟨hf1, hv⟩ => ?_)))
    have nx : ∀ acc', acc' = (if seeZ b μ0 i = true then iOr acc (iShl 1 i) else acc) → Ev (fun n => mRun (mCallN d) kX9_seen n 40 [some (mP 0), some (mI acc'), some (mI i)] [] (SH, μ1, RHO b)) b (fun v μ' => Fr [24, 25] μ0 μ' ∧ v = setB (seeZ b μ0) (k + 1) i acc) := fun acc' ha => by
      refine ev_row (fun n => tX9_seen_40 _ n b μ1 acc' i) ?_
      rw [e5, setB, ← ha]
      exact ih (i + 1) acc' μ1 (by omega) (by omega) hf1
    refine ev_br (fun c => nx acc ?_) (fun c => nx _ ?_)
    · have c' : v = 0 := c
      rw [hv] at c'
      by_cases q : seeZ b μ0 i = true
      · rw [if_pos q] at c'; exact absurd c' (by decide)
      · rw [if_neg q]
    · have c' : ¬ v = 0 := c
      rw [hv] at c'
      by_cases q : seeZ b μ0 i = true
      · rw [if_pos q]
      · rw [if_neg q] at c'; exact absurd rfl c'
theorem eX10_seen {d : Nat} (hd : 5 ≤ d) {b : Bool} {μ0 : Nat → Int → Int} (hR : R b μ0) : ∀ (k : Nat) (i acc : Int) (μ : Nat → Int → Int), 0 ≤ i → i + k = μ0 (tw b + 1) 1 → Fg [131, 132] [50] μ0 μ → Ev (fun n => mRun (mCallN d) kX10_seen n 13 [some (mP 96), some (mI acc), some (mI i)] [] (SH, μ, RHO b)) b (fun v μ' => Fg [131, 132] [50] μ0 μ' ∧ v = setB (seeZ b μ0) k i acc) := by
  obtain ⟨⟨s1, s2, s3⟩, -⟩ := hR.2.2.2.1.2.2.1
  obtain ⟨-, ⟨w1, w2, w3⟩, -, -⟩ := hR.1.1
  intro k
  induction k with
  | zero =>
    intro i acc μ h0 hk hf
    exact ev_row (fun n => tX10_seen_13 _ n b μ acc i) (ev_call (sX10_manMany b μ d (by omega)) (ev_neg (by show ¬ (i < μ 120 5); rw [hf.1 120 (by decide) (by decide)]; omega) (ev_ret ⟨hf, rfl⟩)))
  | succ k ih =>
    intro i acc μ h0 hk hf
    have e5 : w32 (i + 1) = i + 1 := w32_id (by omega) (by omega)
    have hK : Cal d 74 [mP 96, mI i] b μ (fun v μ' => Fg [131, 132] [50] μ0 μ' ∧ v = if seeZ b μ0 i = true then 1 else 0) := by
      have hdd : d = (d - 1) + 1 := by omega
      rw [hdd]
      refine cal_ev (fun r => call_X10_isSeen (d - 1) b μ i) (ev_row (fun n => tX10_isSeen_0 _ n b μ i) ?_)
      exact eX10_isSeen (d := d - 1) (by omega) hR h0 (by omega) (μ0 0 10).toNat 0 μ (by decide) (by omega) hf
    refine ev_row (fun n => tX10_seen_13 _ n b μ acc i) (ev_call (sX10_manMany b μ d (by omega)) (ev_pos (by show i < μ 120 5; rw [hf.1 120 (by decide) (by decide)]; omega) (ev_callP hK (fun v μ1 ⟨hf1, hv⟩ => ?_))))
    have nx : ∀ acc', acc' = (if seeZ b μ0 i = true then iOr acc (iShl 1 i) else acc) → Ev (fun n => mRun (mCallN d) kX10_seen n 35 [some (mP 96), some (mI acc'), some (mI i)] [] (SH, μ1, RHO b)) b (fun v μ' => Fg [131, 132] [50] μ0 μ' ∧ v = setB (seeZ b μ0) (k + 1) i acc) := fun acc' ha => by
      refine ev_row (fun n => tX10_seen_35 _ n b μ1 acc' i) ?_
      rw [e5, setB, ← ha]
      exact ih (i + 1) acc' μ1 (by omega) (by omega) hf1
    refine ev_br (fun c => nx acc ?_) (fun c => nx _ ?_)
    · have c' : v = 0 := c
      rw [hv] at c'
      by_cases q : seeZ b μ0 i = true
      · rw [if_pos q] at c'; exact absurd c' (by decide)
      · rw [if_neg q]
    · have c' : ¬ v = 0 := c
      rw [hv] at c'
      by_cases q : seeZ b μ0 i = true
      · rw [if_pos q]
      · rw [if_neg q] at c'; exact absurd rfl c'
theorem p_seen {b : Bool} {μ : Nat → Int → Int} (hR : R b μ) : ∀ d, 7 ≤ d → PairA d b μ 250 113 [] := deep fun d hd => by
  refine pair_q (V := fun μ v => v = if μ 0 10 = 0 then -1 else setB (seeZ b μ) (μ (tw b + 1) 1).toNat 0 0) hR ?_ (fun μ1 hR1 => ?_) (fun μ1 v v' hf h1 h2 => ?_)
  · have hC := Rcnt_C hR.1.1
    refine cal_ev (fun r => call_X9_seen d b μ) (ev_row (fun n => tX9_seen_0 _ n b μ) (ev_br (fun c => ev_ret ⟨fr_rfl, by rw [if_pos c]⟩) (fun c => ?_)))
    refine ev_mono (eX9_seen hd hR (μ (tw b + 1) 1).toNat 0 0 μ (by decide) (by omega) fr_rfl) (fun v μ' h => ⟨fr_sc h.1 (sub_C (by decide)), ?_⟩)
    rw [if_neg c]; exact h.2
  · have hC := Rcnt_C hR1.1.1
    have hs := hR1.2.2.2.1.2.2.1.1.1
    refine cal_ev (fun r => call_X10_seen d b μ1) (ev_row (fun n => tX10_seen_0 _ n b μ1) (ev_br (fun c => ev_ret ⟨fg_rfl, by rw [if_pos (by omega)]⟩) (fun c => ?_)))
    refine ev_mono (eX10_seen (by omega) hR1 (μ1 (tw b + 1) 1).toNat 0 0 μ1 (by decide) (by omega) fg_rfl) (fun v μ' h => ⟨fg_sc h.1 (sub_R (by decide)) (sub_J (by decide)), ?_⟩)
    rw [if_neg (by omega)]; exact h.2
  · have kt := scC_tw (b := b) hf
    have k0 : μ1 0 = μ 0 := scC_ne hf (by decide)
    have hd : seeZ b μ1 = seeZ b μ := by
      unfold seeZ siZ
      rw [k0, scC_ne hf (by decide : ¬ ((24 ≤ 74 ∧ 74 ≤ 29) ∨ (31 ≤ 74 ∧ 74 ≤ 43) ∨ 74 = 48 ∨ 74 = 49 ∨ 74 = 75)), scC_ne hf (by decide : ¬ ((24 ≤ 76 ∧ 76 ≤ 29) ∨ (31 ≤ 76 ∧ 76 ≤ 43) ∨ 76 = 48 ∨ 76 = 49 ∨ 76 = 75)), kt (tw b + 14) (by simp [twL]), kt (tw b + 16) (by simp [twL]), kt (tw b + 17) (by simp [twL]), kt (tw b + 18) (by simp [twL]), kt 126 (by simp [twL])]
    rw [h1, h2, hd, k0, kt (tw b + 1) (by simp [twL])]
