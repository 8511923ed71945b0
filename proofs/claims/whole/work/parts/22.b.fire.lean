def farF (b : Bool) (μ : Nat → Int → Int) (r : Int) : Int → Int := dstN b μ (fun _ => 1) r
def fireP (b : Bool) (μ : Nat → Int → Int) (r : Int) : Int := firN (farF b μ r) (μ (tw b + 8)) (μ (tw b + 9)) (μ (tw b + 1) 2).toNat (μ (tw b + 1) 3).toNat 1000 (fun p => μ 74 (38 + p)) 0
theorem R_gok1 {b : Bool} {μ : Nat → Int → Int} (hR : R b μ) : gOk (μ (tw b + 8)) (μ (tw b + 9)) (fun _ => 1) (μ (tw b + 1) 2).toNat 10 := Rgat_ok (w := fun _ => 1) hR.1.1 hR.1.2.1 (fun g _ _ => by show (-1 : Int) ≤ 1; decide)
theorem mea_le {F : Int → Int} {P : Nat} {pos : Int → Int} (hP : P ≤ 6) (hF : ∀ x, 0 ≤ x → x < 10 → F x = 268435456 ∨ F x ≤ 9) (hpos : ∀ q, 0 ≤ q → q < (P : Int) → 0 ≤ pos q ∧ pos q < 10) : mea F P pos ≤ 54 := by
  have h := sumN_le (g := fun p => mf F (pos p)) (c := 9) P (fun i i0 i1 => by
    have := hF (pos i) (hpos i i0 i1).1 (hpos i i0 i1).2
    unfold mf; split <;> omega)
  have h2 : (P : Int) * 9 ≤ 6 * 9 := by omega
  unfold mea; omega
theorem eX9_fire {d : Nat} (hd : 3 ≤ d) {b : Bool} {n P : Nat} {s v1 : Int} {fa fb F : Int → Int} {μ0 : Nat → Int → Int} (hg : gOk fa fb (fun _ => 1) n 10) (hn : n ≤ 12) (hP : P ≤ 6) (hD : Dist fa fb (fun _ => 1) n 10 268435456 s F) (h8 : μ0 (tw b + 8) = fa) (h9 : μ0 (tw b + 9) = fb) (h1 : μ0 (tw b + 1) 2 = n) (h3 : μ0 (tw b + 1) 3 = P) (hF : ∀ x, 0 ≤ x → x < 10 → μ0 28 x = F x) : ∀ (k : Nat) (i : Int) (pos : Int → Int) (μ : Nat → Int → Int), 0 ≤ i → i + k = 1000 → (∀ q, 0 ≤ q → q < (P : Int) → 0 ≤ pos q ∧ pos q < 10) → mea F P pos < k → Fr [75] μ0 μ → (∀ q, 0 ≤ q → q < (P : Int) → μ 75 (38 + q) = pos q) → Ev (fun m => mRun (mCallN d) kX9_fire m 58 [some (mP 0), some (mI v1), some (mI i)] [] (SH, μ, RHO b)) b (fun v μ' => Fr [75] μ0 μ' ∧ v = firN F fa fb n P k pos i) := by
  intro k
  induction k with
  | zero =>
    intro i pos μ h0 hk hpos hm hf hx
    have := mea_ge (F := F) (P := P) (fun x x0 x1 => (hD.2.1 x x0 (by omega)).1) hpos
    omega
  | succ k ih =>
    intro i pos μ h0 hk hpos hm hf hx
    have hne : ∀ a, a ≠ 75 → μ a = μ0 a := fun a ha => hf a (by simpa using ha)
    have e5 : w32 (i + 1) = i + 1 := w32_id (by omega) (by omega)
    obtain ⟨i1, i2, i3, i4, i5⟩ := minP_ok (P := P) hg hn hD P 0 pos 0 (by omega) (by omega) hpos (by omega) (by decide)
    have hFl : Cal d 223 [mP 0] b μ (fun v μ' => Fr [75] μ0 μ' ∧ v = t01 ((minP F fa fb n P 0 pos 0).2 ≠ 0) ∧ ∀ q, 0 ≤ q → q < (P : Int) → μ' 75 (38 + q) = (minP F fa fb n P 0 pos 0).1 q) := by
      have hdd : d = (d - 1) + 1 := by omega
      rw [hdd]
      refine cal_ev (fun r => call_X9_fleeOneMinute (d - 1) b μ) (ev_row (fun m => tX9_fleeOneMinute_0 _ m b μ) ?_)
      exact eX9_flee (by omega) hg hn hP hD h8 h9 h1 h3 hF P 0 pos 0 none μ (by omega) (by omega) hpos (by omega) (by decide) hf hx
    refine ev_row (fun m => tX9_fire_58 _ m b μ v1 i) (ev_pos (by omega) (ev_callP hFl (fun v μ1 ⟨hf1, hv, hx1⟩ => ev_br (fun q => ?_) (fun q => ?_))))
    · have q' : v = 0 := q
      rw [hv, t01_eq0, Decidable.not_not] at q'
      exact ev_ret ⟨hf1, by rw [firN, if_pos q']⟩
    · have q' : ¬ v = 0 := q
      rw [hv, t01_eq0, Decidable.not_not] at q'
      dsimp only
      rw [e5, firN, if_neg q']
      rcases i5 with ⟨_, e⟩ | ⟨e, _⟩
      · exact absurd e q'
      · exact ih (i + 1) _ μ1 (by omega) (by omega) i1 (by omega) hf1 hx1
theorem eX10_min20 {d : Nat} (hd : 2 ≤ d) {b : Bool} {n P : Nat} {p v2 : Int} {fa fb F G : Int → Int} {here : Int} {pos : Int → Int} {u : Int} {μ : Nat → Int → Int} {Q : Int → (Nat → Int → Int) → Prop} (hg : gOk fa fb (fun _ => 1) n 10) (hn : n ≤ 12) (hP : P ≤ 6) (p0 : 0 ≤ p) (p1 : p < P) (hG : ∀ g, 0 ≤ g → g < (n : Int) → μ 124 (36 + 3 * g) = fa g ∧ μ 124 (36 + 3 * g + 1) = fb g) (h7 : μ 120 7 = n) (hord : ∀ x y, 0 ≤ x → x < 10 → 0 ≤ y → y < 10 → (μ 137 x < μ 137 y ↔ F x < F y)) (hh : μ 142 p = here) (r0 : 0 ≤ here) (r1 : here < 10) (u0 : 0 ≤ u) (u1 : u < ((2 ^ 12 : Nat) : Int))
    (hK0 : fNr F fa fb u here n 0 = -1 → ∀ v4 v5 v6, Ev (fun m => mRun (mCallN d) kX10_minuteGoes m 114 [some (mP 96), some (mI u), some (mI v2), some (mI p), some (mI v4), some (mI v5), v6] [] (SH, μ, RHO b)) b Q)
    (hK1 : fNr F fa fb u here n 0 ≠ -1 → ∀ v4 v5 v6, Ev (fun m => mRun (mCallN d) kX10_minuteGoes m 114 [some (mP 96), some (mI (iOr u (iShl 1 (fNr F fa fb u here n 0)))), some (mI 1), some (mI p), some (mI v4), some (mI v5), v6] [] (SH, m2 μ 142 p (acr fa fb (fNr F fa fb u here n 0) here), RHO b)) b Q) :
    ∀ (k : Nat) (i : Int) (v6 : Option mV), 0 ≤ i → i + k = n → fNr F fa fb u here n 0 = fNr F fa fb u here k i → Ev (fun m => mRun (mCallN d) kX10_minuteGoes m 20 [some (mP 96), some (mI u), some (mI v2), some (mI p), some (mI 0), some (mI i), v6] [] (SH, μ, RHO b)) b Q := by
  intro k
  induction k with
  | zero =>
    intro i v6 h0 hk he
    exact ev_row (fun m => tX10_minuteGoes_20 _ m b μ u v2 p 0 i v6) (ev_call (sX10_gateMany b μ d (by omega)) (ev_neg (by show ¬ (i < μ 120 7); omega) (hK0 (by rw [he]; rfl) 0 i v6)))
  | succ k ih =>
    intro i v6 h0 hk he
    have e5 : w32 (i + 1) = i + 1 := w32_id (by omega) (by omega)
    obtain ⟨g1, g2⟩ := hG i h0 (by omega)
    have hA := sX10_behind i here b μ h0 (by omega) d hd
    rw [g1, g2] at hA
    have hac : (if fa i = here then fb i else if fb i = here then fa i else -1) = acr fa fb i here := rfl
    rw [hac] at hA
    have hin := acr_in (r := here) hg h0 (by omega)
    have hbit := bit_br (s := u) (m := i) u0 (by omega) h0 (by omega)
    have no : ∀ v6', ¬ (acr fa fb i here ≠ -1 ∧ F (acr fa fb i here) < F here ∧ bI u i = false) → Ev (fun m => mRun (mCallN d) kX10_minuteGoes m 108 [some (mP 96), some (mI u), some (mI v2), some (mI p), some (mI 0), some (mI i), some (mI v6')] [] (SH, μ, RHO b)) b Q := fun v6' h => by
      refine ev_row (fun m => tX10_minuteGoes_108 _ m b μ u v2 p 0 i v6') ?_
      rw [e5]
      refine ih (i + 1) (some (mI v6')) (by omega) (by omega) ?_
      rw [he, fNr, if_neg h]
    have hA' : mCallN d 16 [mP 96, mI i, mI ((μ 120 7, SH, μ, RHO b).2.2.1 142 p)] (SH, μ, RHO b) = some (acr fa fb i here, SH, μ, RHO b) := by
      show mCallN d 16 [mP 96, mI i, mI (μ 142 p)] (SH, μ, RHO b) = _
      rw [hh]; exact hA
    refine ev_row (fun m => tX10_minuteGoes_20 _ m b μ u v2 p 0 i v6) (ev_call (sX10_gateMany b μ d (by omega)) (ev_pos (by show i < μ 120 7; omega) (ev_pos rfl (ev_if (by omega) (ev_call hA' (ev_br (fun q => no _ (fun h => h.1 q)) (fun q => ev_br (fun q2 => no _ (fun h => ?_)) (fun q2 => ?_))))))))
    · rw [hbit.1 q2] at h
      exact absurd h.2.2 (by decide)
    · have q' : ¬ acr fa fb i here = -1 := q
      have ht : 0 ≤ acr fa fb i here ∧ acr fa fb i here < 10 := by rcases hin with h | h <;> omega
      have hb : bI u i = false := Bool.eq_false_iff.2 (fun h => q2 (hbit.2 h))
      refine ev_if ht (ev_if (by omega) (ev_if (by show 0 ≤ μ 142 p ∧ μ 142 p < 10; rw [hh]; omega) (ev_br (fun q3 => ?_) (fun q3 => ?_))))
      · have q3' : μ 137 (acr fa fb i here) < μ 137 (μ 142 p) := q3
        rw [hh, hord _ _ ht.1 ht.2 r0 r1] at q3'
        have hfn : fNr F fa fb u here n 0 = i := by rw [he, fNr, if_pos ⟨q', q3', hb⟩]
        refine ev_if (by omega) ?_
        refine ev_row (fun m => tX10_minuteGoes_108 _ m b _ _ 1 p 1 i _) ?_
        rw [e5]
        have hK := hK1 (by rw [hfn]; omega) 1 (i + 1) (some (mI (acr fa fb i here)))
        rw [hfn] at hK
        by_cases z : i + 1 < n
        · exact ev_row (fun m => tX10_minuteGoes_20 _ m b _ _ 1 p 1 (i + 1) _) (ev_call (sX10_gateMany b _ d (by omega)) (ev_pos (by show i + 1 < m2 μ 142 p (acr fa fb i here) 120 7; rw [m2_ne (by decide)]; omega) (ev_neg (by decide) hK)))
        · exact ev_row (fun m => tX10_minuteGoes_20 _ m b _ _ 1 p 1 (i + 1) _) (ev_call (sX10_gateMany b _ d (by omega)) (ev_neg (by show ¬ (i + 1 < m2 μ 142 p (acr fa fb i here) 120 7); rw [m2_ne (by decide)]; omega) hK))
      · have q3' : ¬ μ 137 (acr fa fb i here) < μ 137 (μ 142 p) := q3
        rw [hh, hord _ _ ht.1 ht.2 r0 r1] at q3'
        exact no _ (fun h => q3' h.2.1)
theorem eX10_minute {d : Nat} (hd : 2 ≤ d) {b : Bool} {n P : Nat} {s : Int} {fa fb F : Int → Int} {μ0 : Nat → Int → Int} (hg : gOk fa fb (fun _ => 1) n 10) (hn : n ≤ 12) (hP : P ≤ 6) (hD : Dist fa fb (fun _ => 1) n 10 268435456 s F) (hG : ∀ g, 0 ≤ g → g < (n : Int) → μ0 124 (36 + 3 * g) = fa g ∧ μ0 124 (36 + 3 * g + 1) = fb g) (h7 : μ0 120 7 = n) (h6 : μ0 120 6 = P) (hord : ∀ x y, 0 ≤ x → x < 10 → 0 ≤ y → y < 10 → (μ0 137 x < μ0 137 y ↔ F x < F y)) : ∀ (k : Nat) (p : Int) (pos : Int → Int) (u v2 : Int) (v4 v5 v6 : Option mV) (μ : Nat → Int → Int), 0 ≤ p → p + k = P → (∀ q, 0 ≤ q → q < (P : Int) → 0 ≤ pos q ∧ pos q < 10) → 0 ≤ u → u < ((2 ^ 12 : Nat) : Int) → v2 = t01 (u ≠ 0) → Fr [142] μ0 μ → (∀ q, 0 ≤ q → q < (P : Int) → μ 142 q = pos q) → Ev (fun m => mRun (mCallN d) kX10_minuteGoes m 6 [some (mP 96), some (mI u), some (mI v2), some (mI p), v4, v5, v6] [] (SH, μ, RHO b)) b (fun v μ' => Fr [142] μ0 μ' ∧ v = t01 ((minP F fa fb n k p pos u).2 ≠ 0) ∧ ∀ q, 0 ≤ q → q < (P : Int) → μ' 142 q = (minP F fa fb n k p pos u).1 q) := by
  intro k
  induction k with
  | zero =>
    intro p pos u v2 v4 v5 v6 μ h0 hk hpos u0 u1 hv2 hf hx
    refine ev_row (fun m => tX10_minuteGoes_6 _ m b μ u v2 p v4 v5 v6) (ev_call (sX10_personMany b μ d (by omega)) (ev_neg (by show ¬ (p < μ 120 6); rw [hf 120 (by decide)]; omega) (ev_if (by rw [hv2]; exact t01_01 _) (ev_ret ⟨hf, hv2, hx⟩))))
  | succ k ih =>
    intro p pos u v2 v4 v5 v6 μ h0 hk hpos u0 u1 hv2 hf hx
    have hne : ∀ a, a ≠ 142 → μ a = μ0 a := fun a ha => hf a (by simpa using ha)
    have e5 : w32 (p + 1) = p + 1 := w32_id (by omega) (by omega)
    have hpp := hpos p h0 (by omega)
    have hok := fNr_ok (F := F) (fa := fa) (fb := fb) (used := u) (here := pos p) (n := n) n 0 (by omega) (by omega)
    refine ev_row (fun m => tX10_minuteGoes_6 _ m b μ u v2 p v4 v5 v6) (ev_call (sX10_personMany b μ d (by omega)) (ev_pos (by show p < μ 120 6; rw [hf 120 (by decide)]; omega) ?_))
    refine eX10_min20 hd (P := P) (F := F) (G := F) (here := pos p) (pos := pos) hg hn hP h0 (by omega) (by rw [hne 124 (by decide)]; exact hG) (by rw [hne 120 (by decide)]; exact h7) (by rw [hne 137 (by decide)]; exact hord) (hx p h0 (by omega)) hpp.1 hpp.2 u0 u1 (fun c v4 v5 v6 => ?_) (fun c v4 v5 v6 => ?_) n 0 v6 (by omega) (by omega) rfl
    · refine ev_row (fun m => tX10_minuteGoes_114 _ m b μ u v2 p v4 v5 v6) ?_
      rw [e5, minP, if_pos c]
      exact ih (p + 1) pos u v2 _ _ _ μ (by omega) (by omega) hpos u0 u1 hv2 hf hx
    · rw [minP, if_neg c]
      obtain ⟨g0, g1, g2, g3⟩ := hok.resolve_left c
      generalize fNr F fa fb u (pos p) n 0 = g at *
      have hin := (acr_in (r := pos p) hg g0 g1).resolve_left (fun h => g2 h.1)
      obtain ⟨⟨b0, b1⟩, b2⟩ := iOr_bit (k := 12) (by decide) u0 u1 g0 (by omega)
      have hne0 : iOr u (iShl 1 g) ≠ 0 := fun e => by
        have := b2 g g0
        rw [e, bI_zero, decide_eq_true rfl, Bool.or_true] at this
        exact absurd this (by decide)
      refine ev_row (fun m => tX10_minuteGoes_114 _ m b _ _ 1 p v4 v5 v6) ?_
      rw [e5]
      refine ih (p + 1) (uPd pos p (acr fa fb g (pos p))) _ 1 _ _ _ _ (by omega) (by omega) (pos_upd hpos ⟨hin.1.1, by omega⟩) b0 b1 (by rw [t01_pos hne0]) (fr_m2 hf (by decide)) (fun q q0 q1 => ?_)
      rw [m2_at, uPd_at]
      by_cases z : q = p
      · rw [if_pos z, if_pos z]
      · rw [if_neg z, if_neg z]; exact hx q q0 q1
theorem eX10_fire69 {d : Nat} (hd : 3 ≤ d) {b : Bool} {n P : Nat} {s v1 : Int} {fa fb F : Int → Int} {μ0 : Nat → Int → Int} (hg : gOk fa fb (fun _ => 1) n 10) (hn : n ≤ 12) (hP : P ≤ 6) (hD : Dist fa fb (fun _ => 1) n 10 268435456 s F) (hG : ∀ g, 0 ≤ g → g < (n : Int) → μ0 124 (36 + 3 * g) = fa g ∧ μ0 124 (36 + 3 * g + 1) = fb g) (h7 : μ0 120 7 = n) (h6 : μ0 120 6 = P) (hord : ∀ x y, 0 ≤ x → x < 10 → 0 ≤ y → y < 10 → (μ0 137 x < μ0 137 y ↔ F x < F y)) : ∀ (k : Nat) (i : Int) (pos : Int → Int) (μ : Nat → Int → Int), 0 ≤ i → i + k ≤ 2000 → (∀ q, 0 ≤ q → q < (P : Int) → 0 ≤ pos q ∧ pos q < 10) → mea F P pos < k → Fr [142] μ0 μ → (∀ q, 0 ≤ q → q < (P : Int) → μ 142 q = pos q) → Ev (fun m => mRun (mCallN d) kX10_fire m 69 [some (mP 96), some (mI v1), some (mI i)] [] (SH, μ, RHO b)) b (fun v μ' => Fr [142] μ0 μ' ∧ v = firN F fa fb n P k pos i) := by
  intro k
  induction k with
  | zero =>
    intro i pos μ h0 hk hpos hm hf hx
    have := mea_ge (F := F) (P := P) (fun x x0 x1 => (hD.2.1 x x0 (by omega)).1) hpos
    omega
  | succ k ih =>
    intro i pos μ h0 hk hpos hm hf hx
    have e5 : w32 (i + 1) = i + 1 := w32_id (by omega) (by omega)
    obtain ⟨i1, i2, i3, i4, i5⟩ := minP_ok (P := P) hg hn hD P 0 pos 0 (by omega) (by omega) hpos (by omega) (by decide)
    have hFl : Cal d 86 [mP 96] b μ (fun v μ' => Fr [142] μ0 μ' ∧ v = t01 ((minP F fa fb n P 0 pos 0).2 ≠ 0) ∧ ∀ q, 0 ≤ q → q < (P : Int) → μ' 142 q = (minP F fa fb n P 0 pos 0).1 q) := by
      have hdd : d = (d - 1) + 1 := by omega
      rw [hdd]
      refine cal_ev (fun r => call_X10_minuteGoes (d - 1) b μ) (ev_row (fun m => tX10_minuteGoes_0 _ m b μ) ?_)
      exact eX10_minute (by omega) hg hn hP hD hG h7 h6 hord P 0 pos 0 0 none none none μ (by omega) (by omega) hpos (by omega) (by decide) (by rw [t01_neg (by decide)]) hf hx
    refine ev_row (fun m => tX10_fire_69 _ m b μ v1 i) (ev_callP hFl (fun v μ1 ⟨hf1, hv, hx1⟩ => ev_br (fun q => ?_) (fun q => ?_)))
    · have q' : v = 0 := q
      rw [hv, t01_eq0, Decidable.not_not] at q'
      exact ev_ret ⟨hf1, by rw [firN, if_pos q']⟩
    · have q' : ¬ v = 0 := q
      rw [hv, t01_eq0, Decidable.not_not] at q'
      dsimp only
      rw [e5, firN, if_neg q']
      rcases i5 with ⟨_, e⟩ | ⟨e, _⟩
      · exact absurd e q'
      · exact ih (i + 1) _ μ1 (by omega) (by omega) i1 (by omega) hf1 hx1
