/-! ===== fire: minute by minute ===== -/
def fNr (F fa fb : Int → Int) (used here : Int) : Nat → Int → Int
  | 0, _ => -1
  | k + 1, i => if acr fa fb i here ≠ -1 ∧ F (acr fa fb i here) < F here ∧ bI used i = false then i else fNr F fa fb used here k (i + 1)
theorem fNr_ok {F fa fb : Int → Int} {used here : Int} {n : Nat} : ∀ (k : Nat) (i : Int), 0 ≤ i → i + k = n → fNr F fa fb used here k i = -1 ∨ (0 ≤ fNr F fa fb used here k i ∧ fNr F fa fb used here k i < (n : Int) ∧ acr fa fb (fNr F fa fb used here k i) here ≠ -1 ∧ F (acr fa fb (fNr F fa fb used here k i) here) < F here)
  | 0, _, _, _ => Or.inl rfl
  | k + 1, i, h0, hk => by
    rw [fNr]
    by_cases c : acr fa fb i here ≠ -1 ∧ F (acr fa fb i here) < F here ∧ bI used i = false
    · rw [if_pos c]; exact Or.inr ⟨h0, by omega, c.1, c.2.1⟩
    · rw [if_neg c]; exact fNr_ok k (i + 1) (by omega) (by omega)
def minP (F fa fb : Int → Int) (n : Nat) : Nat → Int → (Int → Int) → Int → (Int → Int) × Int
  | 0, _, pos, u => (pos, u)
  | k + 1, p, pos, u => if fNr F fa fb u (pos p) n 0 = -1 then minP F fa fb n k (p + 1) pos u else minP F fa fb n k (p + 1) (uPd pos p (acr fa fb (fNr F fa fb u (pos p) n 0) (pos p))) (iOr u (iShl 1 (fNr F fa fb u (pos p) n 0)))
def mf (F : Int → Int) (x : Int) : Int := if F x = 268435456 then 0 else F x
def mea (F : Int → Int) (P : Nat) (pos : Int → Int) : Int := sumN (fun p => mf F (pos p)) P
theorem mea_upd {F : Int → Int} {P : Nat} {pos : Int → Int} {p v : Int} (p0 : 0 ≤ p) (p1 : p < P) : mea F P (uPd pos p v) = mea F P pos + (mf F v - mf F (pos p)) := by
  unfold mea
  have h := sumN_upd (f := fun x => mf F (pos x)) (o := 0) (j := p) (v := mf F v) P p0 p1
  rw [Int.zero_add] at h
  have e1 : sumN (fun i => uPd (fun x => mf F (pos x)) p (mf F v) (0 + i)) P = sumN (fun i => mf F (uPd pos p v i)) P := sumN_congr P (fun i i0 i1 => by
    rw [Int.zero_add, uPd_at, uPd_at]
    by_cases q : i = p
    · rw [if_pos q, if_pos q]
    · rw [if_neg q, if_neg q])
  have e2 : sumN (fun i => mf F (pos (0 + i))) P = sumN (fun p => mf F (pos p)) P := sumN_congr P (fun i _ _ => by rw [Int.zero_add])
  rw [e1] at h
  rw [h, ← e2]
theorem pos_upd {pos : Int → Int} {P p v : Int} (h : ∀ q, 0 ≤ q → q < P → 0 ≤ pos q ∧ pos q < 10) (hv : 0 ≤ v ∧ v < 10) : ∀ q, 0 ≤ q → q < P → 0 ≤ uPd pos p v q ∧ uPd pos p v q < 10 := fun q q0 q1 => by
  rw [uPd_at]
  split
  · exact hv
  · exact h q q0 q1
/-- what a minute does: nothing, or people come nearer -/
theorem minP_ok {F fa fb : Int → Int} {n P : Nat} {s : Int} (hg : gOk fa fb (fun _ => 1) n 10) (hn : n ≤ 12) (hD : Dist fa fb (fun _ => 1) n 10 268435456 s F) : ∀ (k : Nat) (p : Int) (pos : Int → Int) (u : Int), 0 ≤ p → p + k = P → (∀ q, 0 ≤ q → q < (P : Int) → 0 ≤ pos q ∧ pos q < 10) → 0 ≤ u → u < ((2 ^ 12 : Nat) : Int) →
    (∀ q, 0 ≤ q → q < (P : Int) → 0 ≤ (minP F fa fb n k p pos u).1 q ∧ (minP F fa fb n k p pos u).1 q < 10) ∧ (0 ≤ (minP F fa fb n k p pos u).2 ∧ (minP F fa fb n k p pos u).2 < ((2 ^ 12 : Nat) : Int)) ∧ (u ≠ 0 → (minP F fa fb n k p pos u).2 ≠ 0) ∧ mea F P (minP F fa fb n k p pos u).1 ≤ mea F P pos ∧ (((minP F fa fb n k p pos u).1 = pos ∧ (minP F fa fb n k p pos u).2 = u) ∨ (mea F P (minP F fa fb n k p pos u).1 < mea F P pos ∧ (minP F fa fb n k p pos u).2 ≠ 0))
  | 0, p, pos, u, h0, hk, hpos, u0, u1 => ⟨hpos, ⟨u0, u1⟩, fun h => h, Int.le_refl _, Or.inl ⟨rfl, rfl⟩⟩
  | k + 1, p, pos, u, h0, hk, hpos, u0, u1 => by
    rw [minP]
    by_cases c : fNr F fa fb u (pos p) n 0 = -1
    · rw [if_pos c]; exact minP_ok hg hn hD k (p + 1) pos u (by omega) (by omega) hpos u0 u1
    · rw [if_neg c]
      obtain ⟨g0, g1, g2, g3⟩ := (fNr_ok (F := F) (fa := fa) (fb := fb) (used := u) (here := pos p) (n := n) n 0 (by omega) (by omega)).resolve_left c
      generalize fNr F fa fb u (pos p) n 0 = g at c g0 g1 g2 g3
      have hin := (acr_in (r := pos p) hg g0 g1).resolve_left (fun h => g2 h.1)
      have hpp := hpos p h0 (by omega)
      obtain ⟨⟨b0, b1⟩, b2⟩ := iOr_bit (k := 12) (by decide) u0 u1 g0 (by omega)
      have hne : iOr u (iShl 1 g) ≠ 0 := fun e => by
        have := b2 g g0
        rw [e, bI_zero, decide_eq_true rfl, Bool.or_true] at this
        exact absurd this (by decide)
      obtain ⟨i1, i2, i3, i4, i5⟩ := minP_ok hg hn hD k (p + 1) (uPd pos p (acr fa fb g (pos p))) (iOr u (iShl 1 g)) (by omega) (by omega) (pos_upd hpos ⟨hin.1.1, by omega⟩) b0 b1
      have hfix := hD.2.2 g g0 g1 (by show (1 : Int) ≠ -1; decide)
      have hV : F (pos p) ≠ 268435456 := fun e => by
        have h1 := (hD.2.1 (acr fa fb g (pos p)) hin.1.1 (by omega)).2.2
        have h2 : F (pos p) ≤ F (acr fa fb g (pos p)) + 1 := by
          rcases hin.2 with ⟨x, y⟩ | ⟨x, y⟩
          · rw [x, y] at hfix; exact hfix.2
          · rw [x, y] at hfix; exact hfix.1
        have h3 := Dist_most hD (by decide) (by decide : (0 : Int) ≤ 1) (fun _ _ _ => Int.le_refl 1) hin.1.1 hin.1.2 (by omega)
        omega
      have hlt : mea F P (uPd pos p (acr fa fb g (pos p))) < mea F P pos := by
        rw [mea_upd h0 (by omega)]
        unfold mf
        rw [if_neg hV, if_neg (by have := (hD.2.1 (pos p) hpp.1 (by omega)).2.1; omega)]
        omega
      exact ⟨i1, i2, fun _ => i3 hne, by omega, Or.inr ⟨by omega, i3 hne⟩⟩
def firN (F fa fb : Int → Int) (n P : Nat) : Nat → (Int → Int) → Int → Int
  | 0, _, m => m
  | k + 1, pos, m => if (minP F fa fb n P 0 pos 0).2 = 0 then m else firN F fa fb n P k (minP F fa fb n P 0 pos 0).1 (m + 1)
theorem mea_ge {F : Int → Int} {P : Nat} {pos : Int → Int} (hF : ∀ x, 0 ≤ x → x < 10 → 0 ≤ F x) (hpos : ∀ q, 0 ≤ q → q < (P : Int) → 0 ≤ pos q ∧ pos q < 10) : 0 ≤ mea F P pos := (sumN_ge P (fun i i0 i1 => by
  have := hF (pos i) (hpos i i0 i1).1 (hpos i i0 i1).2
  unfold mf; split <;> omega)).1
theorem firN_mono {F fa fb : Int → Int} {n P : Nat} {s : Int} (hg : gOk fa fb (fun _ => 1) n 10) (hn : n ≤ 12) (hD : Dist fa fb (fun _ => 1) n 10 268435456 s F) : ∀ (k k' : Nat) (pos : Int → Int) (m : Int), (∀ q, 0 ≤ q → q < (P : Int) → 0 ≤ pos q ∧ pos q < 10) → mea F P pos < k → mea F P pos < k' → firN F fa fb n P k pos m = firN F fa fb n P k' pos m
  | 0, k', pos, m, hpos, h, _ => by
    have := mea_ge (F := F) (P := P) (fun x x0 x1 => (hD.2.1 x x0 (by omega)).1) hpos
    omega
  | k + 1, 0, pos, m, hpos, _, h => by
    have := mea_ge (F := F) (P := P) (fun x x0 x1 => (hD.2.1 x x0 (by omega)).1) hpos
    omega
  | k + 1, k' + 1, pos, m, hpos, h, h' => by
    rw [firN, firN]
    obtain ⟨i1, i2, i3, i4, i5⟩ := minP_ok (P := P) hg hn hD P 0 pos 0 (by omega) (by omega) hpos (by omega) (by decide)
    by_cases c : (minP F fa fb n P 0 pos 0).2 = 0
    · rw [if_pos c, if_pos c]
    · rw [if_neg c, if_neg c]
      rcases i5 with ⟨_, e⟩ | ⟨e, _⟩
      · exact absurd e c
      · exact firN_mono hg hn hD k k' _ _ i1 (by omega) (by omega)
/-! the class -/
theorem eX8_firstNearer {d : Nat} (hd : 1 ≤ d) {b c : Bool} {here used : Int} {n : Nat} {μ : Nat → Int → Int} (hg : gOk (μ (tw c + 8)) (μ (tw c + 9)) (fun _ => 1) n 10) (hn : n ≤ 12) (h1 : μ (tw c + 1) 2 = n) (r0 : 0 ≤ here) (r1 : here < 10) (u0 : 0 ≤ used) (u1 : used < ((2 ^ 12 : Nat) : Int)) : ∀ (k : Nat) (i : Int) (v5 : Option mV), 0 ≤ i → i + k = n → Ev (fun m => mRun (mCallN d) kX8_firstNearer m 3 [some (mP 26), some (mP (tw c)), some (mI here), some (mI used), some (mI i), v5] [] (SH, μ, RHO b)) b (fun v μ' => μ' = μ ∧ v = fNr (μ 28) (μ (tw c + 8)) (μ (tw c + 9)) used here k i) := by
  intro k
  induction k with
  | zero =>
    intro i v5 h0 hk
    exact ev_row (fun m => tX8_firstNearer_3 _ m b μ here used i v5 c) (ev_neg (by omega) (ev_ret ⟨rfl, rfl⟩))
  | succ k ih =>
    intro i v5 h0 hk
    have e5 : w32 (i + 1) = i + 1 := w32_id (by omega) (by omega)
    have hA := sX7_across c i here b μ h0 (by omega) d hd
    have hac : (if μ (tw c + 8) i = here then μ (tw c + 9) i else if μ (tw c + 9) i = here then μ (tw c + 8) i else -1) = acr (μ (tw c + 8)) (μ (tw c + 9)) i here := rfl
    rw [hac] at hA
    have hin := acr_in (r := here) hg h0 (by omega)
    have hbit := bit_iff (s := used) (m := i) u0 (by omega) h0 (by omega)
    have no : ∀ v5', ¬ (acr (μ (tw c + 8)) (μ (tw c + 9)) i here ≠ -1 ∧ μ 28 (acr (μ (tw c + 8)) (μ (tw c + 9)) i here) < μ 28 here ∧ bI used i = false) → Ev (fun m => mRun (mCallN d) kX8_firstNearer m 57 [some (mP 26), some (mP (tw c)), some (mI here), some (mI used), some (mI i), some (mI v5')] [] (SH, μ, RHO b)) b (fun v μ' => μ' = μ ∧ v = fNr (μ 28) (μ (tw c + 8)) (μ (tw c + 9)) used here (k + 1) i) := fun v5' h => by
      refine ev_row (fun m => tX8_firstNearer_57 _ m b μ here used i v5' c) ?_
      rw [e5, fNr, if_neg h]
      exact ih (i + 1) (some (mI v5')) (by omega) (by omega)
    refine ev_row (fun m => tX8_firstNearer_3 _ m b μ here used i v5 c) (ev_pos (by omega) (ev_call hA (ev_br (fun q => no _ (fun h => h.1 q)) (fun q => ?_))))
    have q' : ¬ acr (μ (tw c + 8)) (μ (tw c + 9)) i here = -1 := q
    refine ev_if (by show 0 ≤ acr (μ (tw c + 8)) (μ (tw c + 9)) i here ∧ acr (μ (tw c + 8)) (μ (tw c + 9)) i here < 10; rcases hin with h | h <;> omega) (ev_if ⟨r0, r1⟩ (ev_br (fun q2 => ev_br (fun q3 => ?_) (fun q3 => ?_)) (fun q2 => no _ (fun h => q2 h.2.1))))
    · have hb : bI used i = false := by
        cases hbb : bI used i with
        | false => rfl
        | true => rw [hbb] at hbit; rw [hbit] at q3; exact absurd q3 (by decide)
      exact ev_ret ⟨rfl, by rw [fNr, if_pos ⟨q', q2, hb⟩]⟩
    · refine no _ (fun h => ?_)
      rw [h.2.2] at hbit
      exact q3 hbit
theorem sX8_firstNearer (c : Bool) (here used : Int) (b : Bool) (μ : Nat → Int → Int) {n : Nat} (hg : gOk (μ (tw c + 8)) (μ (tw c + 9)) (fun _ => 1) n 10) (hn : n ≤ 12) (h1 : μ (tw c + 1) 2 = n) (r0 : 0 ≤ here) (r1 : here < 10) (u0 : 0 ≤ used) (u1 : used < ((2 ^ 12 : Nat) : Int)) : ∀ d, 2 ≤ d → mCallN d 204 [mP 26, mP (tw c), mI here, mI used] (SH, μ, RHO b) = some (fNr (μ 28) (μ (tw c + 8)) (μ (tw c + 9)) used here n 0, SH, μ, RHO b) := deep fun d hd => by
  refine cal_eq (cal_ev (fun r' => call_X8_firstNearer d b μ here used c) (ev_row (fun m => tX8_firstNearer_0 _ m b μ here used c) ?_))
  exact ev_mono (eX8_firstNearer hd hg hn h1 r0 r1 u0 u1 n 0 none (by omega) (by omega)) (fun v μ' h => ⟨h.2, h.1⟩)
theorem fNr_congr {F F' fa fb fa' fb' w : Int → Int} {used here : Int} {n : Nat} (hg : gOk fa fb w n 10) (hF : ∀ x, 0 ≤ x → x < 10 → F' x = F x) (hfa : ∀ g, 0 ≤ g → g < (n : Int) → fa' g = fa g ∧ fb' g = fb g) (r0 : 0 ≤ here) (r1 : here < 10) : ∀ (k : Nat) (i : Int), 0 ≤ i → i + k = n → fNr F' fa' fb' used here k i = fNr F fa fb used here k i
  | 0, _, _, _ => rfl
  | k + 1, i, h0, hk => by
    have e : acr fa' fb' i here = acr fa fb i here := by unfold acr; rw [(hfa i h0 (by omega)).1, (hfa i h0 (by omega)).2]
    rw [fNr, fNr, e, hF here r0 r1, fNr_congr hg hF hfa r0 r1 k (i + 1) (by omega) (by omega)]
    rcases acr_in (r := here) hg h0 (by omega) with q | q
    · rw [if_neg (fun h => h.1 q.1), if_neg (fun h => h.1 q.1)]
    · rw [hF _ q.1.1 (by omega)]
theorem eX9_flee {d : Nat} (hd : 2 ≤ d) {b : Bool} {n P : Nat} {s : Int} {fa fb F : Int → Int} {μ0 : Nat → Int → Int} (hg : gOk fa fb (fun _ => 1) n 10) (hn : n ≤ 12) (hP : P ≤ 6) (hD : Dist fa fb (fun _ => 1) n 10 268435456 s F) (h8 : μ0 (tw b + 8) = fa) (h9 : μ0 (tw b + 9) = fb) (h1 : μ0 (tw b + 1) 2 = n) (h3 : μ0 (tw b + 1) 3 = P) (hF : ∀ x, 0 ≤ x → x < 10 → μ0 28 x = F x) : ∀ (k : Nat) (p : Int) (pos : Int → Int) (u : Int) (v3 : Option mV) (μ : Nat → Int → Int), 0 ≤ p → p + k = P → (∀ q, 0 ≤ q → q < (P : Int) → 0 ≤ pos q ∧ pos q < 10) → 0 ≤ u → u < ((2 ^ 12 : Nat) : Int) → Fr [75] μ0 μ → (∀ q, 0 ≤ q → q < (P : Int) → μ 75 (38 + q) = pos q) → Ev (fun m => mRun (mCallN d) kX9_fleeOneMinute m 4 [some (mP 0), some (mI u), some (mI p), v3] [] (SH, μ, RHO b)) b (fun v μ' => Fr [75] μ0 μ' ∧ v = t01 ((minP F fa fb n k p pos u).2 ≠ 0) ∧ ∀ q, 0 ≤ q → q < (P : Int) → μ' 75 (38 + q) = (minP F fa fb n k p pos u).1 q) := by
  intro k
  induction k with
  | zero =>
    intro p pos u v3 μ h0 hk hpos u0 u1 hf hx
    have kk : μ (tw b + 1) 3 = P := by rw [hf _ (by have := tw_or b; simp only [List.mem_cons, List.not_mem_nil, or_false]; omega)]; exact h3
    refine ev_row (fun m => tX9_fleeOneMinute_4 _ m b μ u p v3) (ev_neg (by omega) (ev_br (fun q => ?_) (fun q => ?_)))
    · exact ev_row (fun m => tX9_fleeOneMinute_91 _ m b μ u p v3 0) (ev_if (Or.inl rfl) (ev_ret ⟨hf, by rw [t01_neg (by show ¬ (u ≠ 0); omega)], hx⟩))
    · exact ev_row (fun m => tX9_fleeOneMinute_91 _ m b μ u p v3 1) (ev_if (Or.inr rfl) (ev_ret ⟨hf, by rw [t01_pos (by show u ≠ 0; omega)], hx⟩))
  | succ k ih =>
    intro p pos u v3 μ h0 hk hpos u0 u1 hf hx
    have hne : ∀ a, a ≠ 75 → μ a = μ0 a := fun a ha => hf a (by simpa using ha)
    have k3 : μ (tw b + 1) 3 = P := by rw [hne _ (by have := tw_or b; omega)]; exact h3
    have k1 : μ (tw b + 1) 2 = n := by rw [hne _ (by have := tw_or b; omega)]; exact h1
    have k8 : μ (tw b + 8) = fa := by rw [hne _ (by have := tw_or b; omega)]; exact h8
    have k9 : μ (tw b + 9) = fb := by rw [hne _ (by have := tw_or b; omega)]; exact h9
    have e5 : w32 (p + 1) = p + 1 := w32_id (by omega) (by omega)
    have e38 : w32 (38 + p) = 38 + p := w32_id (by omega) (by omega)
    have hpp := hpos p h0 (by omega)
    have hN := sX8_firstNearer b (pos p) u b μ (n := n) (by rw [k8, k9]; exact hg) hn k1 hpp.1 hpp.2 u0 u1 d hd
    rw [k8, k9, hne 28 (by decide), fNr_congr hg hF (fun _ _ _ => ⟨rfl, rfl⟩) hpp.1 hpp.2 n 0 (by omega) (by omega)] at hN
    have hok := fNr_ok (F := F) (fa := fa) (fb := fb) (used := u) (here := pos p) (n := n) n 0 (by omega) (by omega)
    rw [minP]
    generalize hgg : fNr F fa fb u (pos p) n 0 = g at hN hok
    refine ev_row (fun m => tX9_fleeOneMinute_4 _ m b μ u p v3) (ev_pos (by omega) ?_)
    rw [e38, hx p h0 (by omega)]
    refine ev_if (by omega) (ev_call hN (ev_br (fun q => ?_) (fun q => ?_)))
    · have q' : g = -1 := q
      rw [if_pos q']
      refine ev_row (fun m => tX9_fleeOneMinute_76 _ m b μ u p _) ?_
      rw [e5]
      exact ih (p + 1) pos u _ μ (by omega) (by omega) hpos u0 u1 hf hx
    · have q' : ¬ g = -1 := q
      obtain ⟨g0, g1, g2, g3⟩ := hok.resolve_left q'
      rw [if_neg q']
      have hA := sX7_across b g (pos p) b μ g0 (by omega) d (by omega)
      rw [k8, k9] at hA
      have hin := (acr_in (r := pos p) hg g0 g1).resolve_left (fun h => g2 h.1)
      obtain ⟨⟨b0, b1⟩, b2⟩ := iOr_bit (k := 12) (by decide) u0 u1 g0 (by omega)
      have hA' : mCallN d 194 [mP (tw b), mI g, mI ((g, SH, μ, RHO b).2.2.1 75 (38 + p))] (SH, μ, RHO b) = some (acr fa fb g (pos p), SH, μ, RHO b) := by
        show mCallN d 194 [mP (tw b), mI g, mI (μ 75 (38 + p))] (SH, μ, RHO b) = _
        rw [hx p h0 (by omega)]; exact hA
      refine ev_if (by omega) (ev_call hA' (ev_if (by omega) ?_))
      refine ev_row (fun m => tX9_fleeOneMinute_76 _ m b _ _ p _) ?_
      rw [e5]
      refine ih (p + 1) (uPd pos p (acr fa fb g (pos p))) _ _ _ (by omega) (by omega) (pos_upd hpos ⟨hin.1.1, by omega⟩) b0 b1 (fr_m2 hf (by decide)) (fun q q0 q1 => ?_)
      show m2 μ 75 (38 + p) (acr fa fb g (pos p)) 75 (38 + q) = _
      rw [m2_at, uPd_at]
      by_cases z : q = p
      · rw [if_pos (by omega), if_pos z]
      · rw [if_neg (by omega), if_neg z]; exact hx q q0 q1
