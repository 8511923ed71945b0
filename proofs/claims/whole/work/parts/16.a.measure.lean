/-! ===== the class measures ===== -/
def bOk (V : Int) (L : Int → Int) : Prop := ∀ x, 0 ≤ x → x < 10 → 0 ≤ L x ∧ L x ≤ V
theorem uPd_b {V r v : Int} {L : Int → Int} (hb : bOk V L) (h0 : 0 ≤ v) (h1 : v ≤ V) : bOk V (uPd L r v) := fun x x0 x1 => by
  rw [uPd_at]
  by_cases e : x = r
  · rw [if_pos e]; exact ⟨h0, h1⟩
  · rw [if_neg e]; exact hb x x0 x1
theorem gSt_b {fa fb w L : Int → Int} {n : Nat} {V g : Int} (hg : gOk fa fb w n 10) (h0 : 0 ≤ g) (h1 : g < n) (hb : bOk V L) : bOk V (gSt fa fb w L g) := by
  obtain ⟨⟨a0, a1⟩, ⟨b0, b1⟩, hw⟩ := hg g h0 h1
  have ha := hb (fa g) a0 (by omega)
  have hb' := hb (fb g) b0 (by omega)
  unfold gSt
  by_cases e : w g = -1
  · rw [if_pos e]; exact hb
  · rw [if_neg e]
    by_cases e1 : L (fa g) + w g < L (fb g)
    · rw [if_pos e1]; exact uPd_b hb (by omega) (by omega)
    · rw [if_neg e1]
      by_cases e2 : L (fb g) + w g < L (fa g)
      · rw [if_pos e2]; exact uPd_b hb (by omega) (by omega)
      · rw [if_neg e2]; exact hb
theorem gPs_b {fa fb w : Int → Int} {n : Nat} {V : Int} (hg : gOk fa fb w n 10) : ∀ (k : Nat) (i : Int) (L : Int → Int), 0 ≤ i → i + k = n → bOk V L → bOk V (gPs fa fb w k i L)
  | 0, i, L, _, _, hb => hb
  | k + 1, i, L, h0, hk, hb => gPs_b hg k (i + 1) _ (by omega) (by omega) (gSt_b hg h0 (by omega) hb)
theorem gFl_01 (fa fb w : Int → Int) : ∀ (k : Nat) (i : Int) (L : Int → Int) (f : Int), f = 0 ∨ f = 1 → gFl fa fb w k i L f = 0 ∨ gFl fa fb w k i L f = 1
  | 0, _, _, _, h => h
  | k + 1, i, L, f, h => by
    rw [gFl]
    refine gFl_01 fa fb w k (i + 1) _ _ ?_
    split
    · exact Or.inr rfl
    · exact h
theorem sX8_shorten (p q w : Int) (b : Bool) (μ : Nat → Int → Int) (hb : bOk 268435456 (μ 28)) (hp0 : 0 ≤ p) (hp1 : p < 10) (hq0 : 0 ≤ q) (hq1 : q < 10) (hw0 : 0 ≤ w) (hw1 : w ≤ 1000000) : ∀ d, 1 ≤ d → mCallN d 208 [mP 26, mI p, mI q, mI w] (SH, μ, RHO b) = some (if μ 28 p + w < μ 28 q then (1, SH, m2 μ 28 q (μ 28 p + w), RHO b) else if μ 28 q + w < μ 28 p then (1, SH, m2 μ 28 p (μ 28 q + w), RHO b) else (0, SH, μ, RHO b)) := deep fun d _ => by
  have h1 := hb p hp0 hp1
  have h2 := hb q hq0 hq1
  have e1 : w32 (μ 28 p + w) = μ 28 p + w := w32_id (by omega) (by omega)
  have e2 : w32 (μ 28 q + w) = μ 28 q + w := w32_id (by omega) (by omega)
  have c1 : 0 ≤ p ∧ p < 10 := ⟨hp0, hp1⟩
  have c2 : 0 ≤ q ∧ q < 10 := ⟨hq0, hq1⟩
  refine call_X8_shorten d b μ p q w ⟨1, ?_⟩
  rw [tX8_shorten_0, e1, e2]
  by_cases a1 : μ 28 p + w < μ 28 q
  · rw [if_pos a1, mBr_pos a1]; simp only [if_pos c1, if_pos c2]
  · rw [if_neg a1, mBr_neg a1]
    by_cases a2 : μ 28 q + w < μ 28 p
    · rw [if_pos a2, mBr_pos a2]; simp only [if_pos c1, if_pos c2]
    · rw [if_neg a2, mBr_neg a2]; simp only [if_pos c1, if_pos c2]
theorem eX8_measure_37 {d : Nat} (hd : 1 ≤ d) {b c : Bool} {fa fb w : Int → Int} {n : Nat} {v2 v4 : Int} {Q : Int → (Nat → Int → Int) → Prop} (hg : gOk fa fb w n 10) (hn : n ≤ 12) (hw : ∀ g, 0 ≤ g → g < (n : Int) → w g ≤ 1000000) : ∀ (k : Nat) (i f : Int) (μ : Nat → Int → Int), 0 ≤ i → i + k = n → μ (tw c + 8) = fa → μ (tw c + 9) = fb → μ 27 = w → μ (tw c + 1) 2 = n → bOk 268435456 (μ 28) →
    (∀ μ', Fr [28] μ μ' → μ' 28 = gPs fa fb w k i (μ 28) → Ev (fun m => mRun (mCallN d) kX8_measure m 21 [some (mP 26), some (mP (tw c)), some (mI v2), some (mI (gFl fa fb w k i (μ 28) f)), some (mI (w32 (v4 + 1))), some (mI n)] [] (SH, μ', RHO b)) b Q) →
    Ev (fun m => mRun (mCallN d) kX8_measure m 37 [some (mP 26), some (mP (tw c)), some (mI v2), some (mI f), some (mI v4), some (mI i)] [] (SH, μ, RHO b)) b Q := by
  intro k
  induction k with
  | zero =>
    intro i f μ h0 hk h8 h9 h27 h1 hb hK
    refine ev_row (fun m => tX8_measure_37 _ m b μ v2 f v4 i c) (ev_neg (by omega) ?_)
    have := hK μ fr_rfl rfl
    rw [show i = (n : Int) by omega]
    exact this
  | succ k ih =>
    intro i f μ h0 hk h8 h9 h27 h1 hb hK
    obtain ⟨⟨a0, a1⟩, ⟨b0, b1⟩, hw0⟩ := hg i h0 (by omega)
    have hwi := hw i h0 (by omega)
    have ci : 0 ≤ i ∧ i < 12 := ⟨h0, by omega⟩
    have e5 : w32 (i + 1) = i + 1 := w32_id (by omega) (by omega)
    refine ev_row (fun m => tX8_measure_37 _ m b μ v2 f v4 i c) (ev_pos (by omega) (ev_if ci ?_))
    have key : ∀ (μ' : Nat → Int → Int) (f' : Int), Fr [28] μ μ' → μ' 28 = gSt fa fb w (μ 28) i → f' = (if w i ≠ -1 ∧ (μ 28 (fa i) + w i < μ 28 (fb i) ∨ μ 28 (fb i) + w i < μ 28 (fa i)) then 1 else f) → Ev (fun m => mRun (mCallN d) kX8_measure m 89 [some (mP 26), some (mP (tw c)), some (mI v2), some (mI f'), some (mI v4), some (mI i)] [] (SH, μ', RHO b)) b Q := fun μ' f' hf hL hf' => by
      refine ev_row (fun m => tX8_measure_89 _ m b μ' v2 f' v4 i c) ?_
      rw [e5]
      have hne : ∀ a, a ≠ 28 → μ' a = μ a := fun a ha => hf a (by simpa using ha)
      refine ih (i + 1) f' μ' (by omega) (by omega) ?_ ?_ ?_ ?_ ?_ (fun μ2 hf2 hL2 => ?_)
      · rw [hne _ (by have := tw_or c; omega)]; exact h8
      · rw [hne _ (by have := tw_or c; omega)]; exact h9
      · rw [hne _ (by decide)]; exact h27
      · rw [hne _ (by have := tw_or c; omega)]; exact h1
      · rw [hL]; exact gSt_b hg h0 (by omega) hb
      · have := hK μ2 (fr_tr hf hf2 (fun a h => h)) (by rw [hL2, hL, gPs])
        rw [gFl, ← hf', ← hL] at this
        exact this
    rw [h27, h8, h9]
    refine ev_br (fun e => ?_) (fun e => ?_)
    · exact key μ f fr_rfl (by unfold gSt; rw [if_pos e]) (by rw [if_neg (fun h => h.1 e)])
    · refine ev_if ci (ev_if ci (ev_if ci ?_))
      have hS := sX8_shorten (fa i) (fb i) (w i) b μ hb a0 a1 b0 b1 (by omega) hwi d hd
      by_cases c1 : μ 28 (fa i) + w i < μ 28 (fb i)
      · rw [if_pos c1] at hS
        refine ev_call hS (ev_neg (by show ¬ ((1 : Int) = 0); decide) ?_)
        exact key (m2 μ 28 (fb i) (μ 28 (fa i) + w i)) 1 (fr_m2 fr_rfl (by decide)) (by rw [m2_uPd]; unfold gSt; rw [if_neg e, if_pos c1]) (by rw [if_pos ⟨e, Or.inl c1⟩])
      · rw [if_neg c1] at hS
        by_cases c2 : μ 28 (fb i) + w i < μ 28 (fa i)
        · rw [if_pos c2] at hS
          refine ev_call hS (ev_neg (by show ¬ ((1 : Int) = 0); decide) ?_)
          exact key (m2 μ 28 (fa i) (μ 28 (fb i) + w i)) 1 (fr_m2 fr_rfl (by decide)) (by rw [m2_uPd]; unfold gSt; rw [if_neg e, if_neg c1, if_pos c2]) (by rw [if_pos ⟨e, Or.inr c2⟩])
        · rw [if_neg c2] at hS
          refine ev_call hS (ev_pos rfl ?_)
          exact key μ f fr_rfl (by unfold gSt; rw [if_neg e, if_neg c1, if_neg c2]) (by rw [if_neg (fun h => by rcases h.2 with h | h; exact c1 h; exact c2 h)])
theorem eX8_measure_21 {d : Nat} (hd : 1 ≤ d) {b c : Bool} {fa fb w : Int → Int} {n : Nat} {v2 : Int} {μ0 : Nat → Int → Int} (hg : gOk fa fb w n 10) (hn : n ≤ 12) (hw : ∀ g, 0 ≤ g → g < (n : Int) → w g ≤ 1000000) : ∀ (k : Nat) (r : Int) (v5 : Option mV) (μ : Nat → Int → Int), 0 ≤ r → r + k = 10 → μ (tw c + 8) = fa → μ (tw c + 9) = fb → μ 27 = w → μ (tw c + 1) 2 = n → bOk 268435456 (μ 28) → Fr [28] μ0 μ →
    Ev (fun m => mRun (mCallN d) kX8_measure m 21 [some (mP 26), some (mP (tw c)), some (mI v2), some (mI 1), some (mI r), v5] [] (SH, μ, RHO b)) b (fun _ μ' => Fr [28] μ0 μ' ∧ μ' 28 = gRu fa fb w n k (μ 28)) := by
  intro k
  induction k with
  | zero =>
    intro r v5 μ h0 hk h8 h9 h27 h1 hb hf0
    refine ev_row (fun m => tX8_measure_21 _ m b μ v2 1 r v5 c) (ev_neg (by omega) ?_)
    exact ev_row (fun m => tX8_measure_101 _ m b μ v2 1 r v5 c) (ev_ret ⟨hf0, rfl⟩)
  | succ k ih =>
    intro r v5 μ h0 hk h8 h9 h27 h1 hb hf0
    refine ev_row (fun m => tX8_measure_21 _ m b μ v2 1 r v5 c) (ev_pos (by omega) (ev_neg (by decide) ?_))
    refine eX8_measure_37 hd hg hn hw n 0 0 μ (by omega) (by omega) h8 h9 h27 h1 hb (fun μ' hf hL => ?_)
    have hne : ∀ a, a ≠ 28 → μ' a = μ a := fun a ha => hf a (by simpa using ha)
    rw [w32_id (by omega) (by omega)]
    rw [gRu]
    by_cases e : gFl fa fb w n 0 (μ 28) 0 = 0
    · rw [e, if_pos rfl]
      by_cases e2 : r + 1 < 10
      · refine ev_row (fun m => tX8_measure_21 _ m b μ' v2 0 (r + 1) (some (mI n)) c) (ev_pos e2 (ev_pos rfl ?_))
        exact ev_row (fun m => tX8_measure_101 _ m b μ' v2 0 (r + 1) (some (mI n)) c) (ev_ret ⟨fr_tr hf0 hf (fun a h => h), hL⟩)
      · refine ev_row (fun m => tX8_measure_21 _ m b μ' v2 0 (r + 1) (some (mI n)) c) (ev_neg e2 ?_)
        exact ev_row (fun m => tX8_measure_101 _ m b μ' v2 0 (r + 1) (some (mI n)) c) (ev_ret ⟨fr_tr hf0 hf (fun a h => h), hL⟩)
    · rw [if_neg e]
      have e1 : gFl fa fb w n 0 (μ 28) 0 = 1 := by
        rcases gFl_01 fa fb w n 0 (μ 28) 0 (Or.inl rfl) with h | h
        · exact absurd h e
        · exact h
      rw [e1, ← hL]
      refine ih (r + 1) (some (mI n)) μ' (by omega) (by omega) ?_ ?_ ?_ ?_ ?_ (fr_tr hf0 hf (fun a h => h))
      · rw [hne _ (by have := tw_or c; omega)]; exact h8
      · rw [hne _ (by have := tw_or c; omega)]; exact h9
      · rw [hne _ (by decide)]; exact h27
      · rw [hne _ (by have := tw_or c; omega)]; exact h1
      · rw [hL]; exact gPs_b hg n 0 _ (by omega) (by omega) hb
/-- what measuring leaves: how far each of the ten rooms is -/
theorem sX8_measure (c : Bool) (s : Int) (b : Bool) (μ : Nat → Int → Int) {n : Nat} (hg : gOk (μ (tw c + 8)) (μ (tw c + 9)) (μ 27) n 10) (hn : n ≤ 12) (h1 : μ (tw c + 1) 2 = n) (hw : ∀ g, 0 ≤ g → g < (n : Int) → μ 27 g ≤ 1000000) (hs0 : 0 ≤ s) (hs1 : s < 10) : ∀ d, 2 ≤ d → Cal d 207 [mP 26, mP (tw c), mI s] b μ (fun _ μ' => Fr [28] μ μ' ∧ Dist (μ (tw c + 8)) (μ (tw c + 9)) (μ 27) n 10 268435456 s (μ' 28)) := deepC fun d hd => by
  refine cal_ev (fun r => call_X8_measure d b μ s c) ?_
  refine ev_row (fun m => tX8_measure_0 _ m b μ s c) ?_
  have hF : mCallN d 1 [mP 28, mI 268435456] (SH, μ, RHO b) = some (0, SH, mFl μ 28 10 268435456, RHO b) := sJ7_fill 28 10 268435456 b μ rfl (by decide) d hd
  refine ev_call hF (ev_if ⟨hs0, hs1⟩ ?_)
  dsimp only
  have hf : Fr [28] μ (m2 (mFl μ 28 10 268435456) 28 s 0) := fun a ha => by
    have ha' : a ≠ 28 := by simpa using ha
    rw [m2_ne ha', mFl_ne ha']
  have hL : ∀ x, 0 ≤ x → x < 10 → m2 (mFl μ 28 10 268435456) 28 s 0 28 x = if x = s then 0 else 268435456 := fun x x0 x1 => by
    rw [m2_at, mFl_at]
    by_cases e : x = s
    · rw [if_pos e, if_pos e]
    · rw [if_neg e, if_neg e]; exact if_pos ⟨x0, x1⟩
  have hne : ∀ a, a ≠ 28 → m2 (mFl μ 28 10 268435456) 28 s 0 a = μ a := fun a ha => hf a (by simpa using ha)
  refine ev_mono (eX8_measure_21 hd (μ0 := μ) hg hn hw 10 0 none _ (by decide) (by decide) ?_ ?_ ?_ ?_ ?_ hf) (fun v μ' h => ⟨h.1, ?_⟩)
  · exact hne _ (by have := tw_or c; omega)
  · exact hne _ (by have := tw_or c; omega)
  · exact hne _ (by decide)
  · rw [hne _ (by have := tw_or c; omega)]; exact h1
  · intro x x0 x1
    rw [hL x x0 x1]
    split <;> omega
  · rw [h.2, gRu_it]
    refine gIt_dist hg hs0 (by omega) (Nat.le_refl 10) (by decide) ?_ ?_
    · rw [hL s hs0 hs1, if_pos rfl]
    · intro v v0 v1 e
      rw [hL v v0 (by omega), if_neg e]
