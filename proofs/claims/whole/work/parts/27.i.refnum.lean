/-! ===== the reference's numbers and names ===== -/
theorem kdO_by2 {T : Int → Int} {n s : Int} {g : Bool} (hT : Tp T n) (hv : VC T n s) : (kdO (byA T n s) = 2 ∧ g = false) ↔ tkK T n s g = 2 := by
  have h3 : kdO (byA T n s) ≠ 4 := by rcases kdO_or (byA T n s) with ⟨q, -⟩ | ⟨q, -⟩ | ⟨q, -⟩ | ⟨q, -⟩ <;> omega
  unfold tkK
  cases g with
  | true =>
    constructor
    · rintro ⟨-, q⟩; exact absurd q (by decide)
    · intro q
      by_cases c : kdO (byA T n s) = 1 ∨ kdO (byA T n s) = 2
      · rw [if_pos ⟨rfl, c⟩] at q; omega
      · rw [if_neg (fun h => c h.2)] at q; omega
  | false => rw [if_neg (by simp)]; simp
theorem RSv_mid {T : Int → Int} {n s : Int} {g : Bool} {ν ν' : Nat → Int → Int} (h : RSv T n ν s g) (hf : Fg [] [2, 4, 31] ν ν') : ν' 96 5 = 0 ∧ ν' 96 6 = -1 ∧ ν' 96 3 = n ∧ (∀ i, 0 ≤ i → i < 1600 → ν' 97 i = T i) := by
  obtain ⟨a1, a2, a3, a4, -⟩ := h
  exact ⟨by rw [hf.2 5 (by decide)]; exact a1, by rw [hf.2 6 (by decide)]; exact a2, by rw [hf.2 3 (by decide)]; exact a3, fun i i0 i1 => by rw [hf.1 97 (by simp) (by decide)]; exact a4 i i0 i1⟩
theorem sX10_fail0 (k p : Int) (hk : k ≠ 0) (b : Bool) (ν : Nat → Int → Int) (h : ν 96 5 = 0) : ∀ d, 1 ≤ d → Cal d 36 [mP 96, mI k, mI p] b ν (fun _ ν' => Fg [] [5, 6] ν ν' ∧ RBd ν' (k, p)) := deepC fun d _ => by
  refine cal_ev (fun r => call_X10_fail d b ν k p) (ev_row (fun m => tX10_fail_0 _ m b ν k p) (ev_pos h (ev_ret ⟨fg_m96 (fg_m96 fg_rfl (by decide)) (by decide), ?_, hk, ?_⟩)))
  · rw [m2_at, if_neg (by decide), m2_at, if_pos rfl]
  · rw [m2_at, if_pos rfl]
theorem sX10_number {T : Int → Int} {n s : Int} {g : Bool} (hT : Tp T n) (lo hi : Int) (b : Bool) (ν : Nat → Int → Int) (h : RSv T n ν s g) : ∀ d, 2 ≤ d → Cal d 93 [mP 96, mI lo, mI hi] b ν (fun v ν' => (0 ≤ v ∧ v ≤ 9999) ∧ Fg [] lxJ ν ν' ∧ (((tkK T n s g = 2 ∧ bhd T n s - s ≤ 4 ∧ lo ≤ nmN T n s ∧ nmN T n s ≤ hi) ∧ v = nmN T n s ∧ RSv T n ν' (nxS T n s) (nxG T n s g)) ∨ ∃ e, nmE T n s g lo hi e ∧ RBd ν' e)) := deepC fun d hd => by
  have hn1 := hT.2.1
  refine cal_ev (fun r => call_X10_number d b ν lo hi) (ev_row (fun m => tX10_number_0 _ m b ν lo hi) (ev_pos h.1 (ev_callP (sX10_look hT b ν h d (by omega)) (fun v1 ν1 ⟨e1, f1, l1, at1⟩ => ?_))))
  dsimp only
  rw [e1]
  have hl0 := l1
  obtain ⟨h1, h2, h3, h4, h5, ⟨p0, p1, p2⟩, h6, h7⟩ := l1
  have f1' : Fg [] [2, 4, 31] ν ν1 := fg_tr fg_rfl f1 (by decide) (by decide)
  have no : tkK T n s g ≠ 2 → Ev (fun m => mRun (mCallN d) kX10_number m 30 [some (mP 96), some (mI lo), some (mI hi), none, none] [] (SH, ν1, RHO b)) b (fun v ν' => (0 ≤ v ∧ v ≤ 9999) ∧ Fg [] lxJ ν ν' ∧ (((tkK T n s g = 2 ∧ bhd T n s - s ≤ 4 ∧ lo ≤ nmN T n s ∧ nmN T n s ≤ hi) ∧ v = nmN T n s ∧ RSv T n ν' (nxS T n s) (nxG T n s g)) ∨ ∃ e, nmE T n s g lo hi e ∧ RBd ν' e)) := fun q => by
    refine ev_row (fun m => tX10_number_30 _ m b ν1 lo hi) ?_
    rw [at1]
    exact ev_callP (sX10_fail 1 s (by decide) b ν1 hl0 d (by omega)) (fun _ ν2 ⟨f2, l2⟩ => ev_ret ⟨by decide, fg_tr (fg_tr fg_rfl f1 (by decide) (by decide)) f2 (by decide) (by decide), Or.inr ⟨(1, s), Or.inl ⟨q, rfl⟩, l2⟩⟩)
  refine ev_call (sX10_isDigit _ b ν1 d (by omega)) ?_
  by_cases c1 : kdO (byA T n s) = 2
  · refine ev_neg (by show ¬ t01 (kdO (byA T n s) = 2) = 0; rw [t01_pos c1]; decide) ?_
    by_cases cg : g = true
    · refine ev_pos (by show ν1 96 2 = ν1 96 4; rw [at1]; exact (h7.2.2 cg).symm) (no (fun q => ?_))
      have := (kdO_by2 (g := g) hT h6).2 q
      rw [cg] at this
      exact absurd this.2 (by decide)
    · have hg : g = false := by cases g <;> simp_all
      refine ev_neg (by show ¬ (ν1 96 2 = ν1 96 4); rw [at1]; exact fun q => cg (h7.2.1 q.symm)) ?_
      have hk2 : tkK T n s g = 2 := (kdO_by2 hT h6).1 ⟨c1, hg⟩
      obtain ⟨hsn, hks, -⟩ := tkK2 hT h6 hk2
      obtain ⟨u1, u2, u3, u4⟩ := bhd_run h6.1 hsn (Or.inr hks)
      have hs0 := h6.1
      have hdig : ∀ i, s ≤ i → i < bhd T n s → 48 ≤ T i ∧ T i ≤ 57 := fun i i0 i1 => dig_in (by rw [u1 i i0 i1]; exact hks)
      dsimp only
      rw [at1]
      have run : ∀ (k : Nat) (i v : Int) (ν' : Nat → Int → Int), i + k = bhd T n s → s ≤ i → i ≤ s + 4 → Fg [] [2, 4, 31] ν1 ν' → ν' 96 2 = i → nmN T n s = nmK T k i v → 0 ≤ v → v < ((10 ^ (i - s).toNat : Nat) : Int) → Ev (fun m => mRun (mCallN d) kX10_number m 49 [some (mP 96), some (mI lo), some (mI hi), some (mI s), some (mI v)] [] (SH, ν', RHO b)) b (fun v ν' => (0 ≤ v ∧ v ≤ 9999) ∧ Fg [] lxJ ν ν' ∧ (((tkK T n s g = 2 ∧ bhd T n s - s ≤ 4 ∧ lo ≤ nmN T n s ∧ nmN T n s ≤ hi) ∧ v = nmN T n s ∧ RSv T n ν' (nxS T n s) (nxG T n s g)) ∨ ∃ e, nmE T n s g lo hi e ∧ RBd ν' e)) := by
        intro k
        induction k with
        | zero =>
          intro i v ν' hi' hsi hi4 hf hat he v0 vp
          have hib : i = bhd T n s := by omega
          obtain ⟨m1, m2', m3, m4⟩ := RSv_mid hl0 hf
          have hpw : (10 : Nat) ^ (i - s).toNat ≤ 10 ^ 4 := Nat.pow_le_pow_right (by decide) (by omega)
          have he' : nmN T n s = v := he
          have hv9 : v ≤ 9999 := by
            generalize (10 : Nat) ^ (i - s).toNat = Q at vp hpw
            omega
          have fin : Ev (fun m => mRun (mCallN d) kX10_number m 129 [some (mP 96), some (mI lo), some (mI hi), some (mI s), some (mI v)] [] (SH, ν', RHO b)) b (fun v ν' => (0 ≤ v ∧ v ≤ 9999) ∧ Fg [] lxJ ν ν' ∧ (((tkK T n s g = 2 ∧ bhd T n s - s ≤ 4 ∧ lo ≤ nmN T n s ∧ nmN T n s ≤ hi) ∧ v = nmN T n s ∧ RSv T n ν' (nxS T n s) (nxG T n s g)) ∨ ∃ e, nmE T n s g lo hi e ∧ RBd ν' e)) := by
            refine ev_row (fun m => tX10_number_129 _ m b ν' lo hi s v) ?_
            rw [hat]
            have hf2 : Fg [] [2, 4, 31] ν1 (m2 ν' 96 4 i) := fg_m96 hf (by decide)
            refine ev_call (sX10_isIn v lo hi b _ d (by omega)) ?_
            by_cases c : lo ≤ v ∧ v ≤ hi
            · refine ev_neg (by show ¬ t01 (lo ≤ v ∧ v ≤ hi) = 0; rw [t01_pos c]; decide) (ev_row (fun m => tX10_number_156 _ m b _ lo hi s v) (ev_ret ⟨⟨v0, hv9⟩, fg_tr (fg_tr fg_rfl f1' (by decide) (by decide)) hf2 (by decide) (by decide), Or.inl ⟨⟨hk2, by omega, by omega, by omega⟩, he'.symm, ?_⟩⟩))
              exact RSv_next hT hl0 hf2 (by dsimp only; rw [m2_at, if_neg (by decide), hat, hib]) (Or.inl ⟨Or.inr hk2, by dsimp only; rw [m2_at, if_pos rfl, hib]⟩)
            · refine ev_pos (show t01 (lo ≤ v ∧ v ≤ hi) = 0 from t01_neg c) (ev_callP (sX10_fail0 2 s (by decide) b _ (by dsimp only; rw [m2_at, if_neg (by decide)]; exact m1) d (by omega)) (fun _ ν3 ⟨f3, l3⟩ => ev_row (fun m => tX10_number_156 _ m b ν3 lo hi s v) (ev_ret ⟨⟨v0, hv9⟩, fg_tr (fg_tr (fg_tr fg_rfl f1' (by decide) (by decide)) hf2 (by decide) (by decide)) f3 (by decide) (by decide), Or.inr ⟨(2, s), Or.inr (Or.inr ⟨hk2, by omega, ?_, rfl⟩), l3⟩⟩)))
              rw [he']; exact c
          refine ev_row (fun m => tX10_number_49 _ m b ν' lo hi s v) ?_
          rw [hat, m3]
          refine ev_br (fun c => ?_) (fun _ => fin)
          rw [m4 i (by omega) (by omega)]
          refine ev_if (by omega) (ev_call (sX10_isDigit _ b ν' d (by omega)) (ev_pos ?_ fin))
          show t01 (kdO (T i) = 2) = 0
          exact t01_neg (fun q => u2 (by omega) (by rw [← hib, q, hks]))
        | succ k ih =>
          intro i v ν' hi' hsi hi4 hf hat he v0 vp
          obtain ⟨m1, m2', m3, m4⟩ := RSv_mid hl0 hf
          have hdg := hdig i hsi (by omega)
          have hpw : (10 : Nat) ^ (i - s).toNat ≤ 10 ^ 4 := Nat.pow_le_pow_right (by decide) (by omega)
          refine ev_row (fun m => tX10_number_49 _ m b ν' lo hi s v) ?_
          rw [hat, m3, m4 i (by omega) (by omega)]
          refine ev_pos (by omega) (ev_if (by omega) (ev_call (sX10_isDigit _ b ν' d (by omega)) (ev_neg ?_ ?_)))
          · show ¬ t01 (kdO (T i) = 2) = 0
            rw [t01_pos (by rw [u1 i hsi (by omega)]; exact hks)]; decide
          · by_cases c4 : i = s + 4
            · refine ev_pos (by show w32 (ν' 96 2 - s) = 4; rw [hat, w32_id (by omega) (by omega)]; omega) ?_
              dsimp only
              rw [hat]
              exact ev_callP (sX10_fail0 1 i (by decide) b ν' m1 d (by omega)) (fun _ ν3 ⟨f3, l3⟩ => ev_ret ⟨by decide, fg_tr (fg_tr (fg_tr fg_rfl f1' (by decide) (by decide)) hf (by decide) (by decide)) f3 (by decide) (by decide), Or.inr ⟨(1, i), Or.inr (Or.inl ⟨hk2, by omega, by rw [c4]⟩), l3⟩⟩)
            · refine ev_neg (by show ¬ (w32 (ν' 96 2 - s) = 4); rw [hat, w32_id (by omega) (by omega)]; omega) ?_
              have hp3 : (10 : Nat) ^ (i - s).toNat ≤ 10 ^ 3 := Nat.pow_le_pow_right (by decide) (by omega)
              have hp4 : (10 : Nat) ^ (i + 1 - s).toNat = 10 * 10 ^ (i - s).toNat := by rw [show (i + 1 - s).toNat = (i - s).toNat + 1 by omega, Nat.pow_succ, Nat.mul_comm]
              have hvb : v < 1000 := by
                generalize (10 : Nat) ^ (i - s).toNat = Q at vp hp3
                omega
              refine ev_if (by show 0 ≤ ν' 96 2 ∧ ν' 96 2 < 1600; omega) ?_
              dsimp only
              rw [hat, m4 i (by omega) (by omega), show w32 (10 * v) = 10 * v from w32_id (by omega) (by omega), show w32 (10 * v + T i) = 10 * v + T i from w32_id (by omega) (by omega), show w32 (10 * v + T i - 48) = 10 * v + T i - 48 from w32_id (by omega) (by omega), show w32 (i + 1) = i + 1 from w32_id (by omega) (by omega)]
              refine ih (i + 1) _ _ (by omega) (by omega) (by omega) (fg_m96 hf (by decide)) (by rw [m2_at, if_pos rfl]) (by rw [he]; rfl) (by omega) ?_
              rw [hp4]
              generalize (10 : Nat) ^ (i - s).toNat = Q at vp
              omega
      exact run (bhd T n s - s).toNat s 0 ν1 (by omega) (Int.le_refl _) (by omega) fg_rfl at1 rfl (by decide) (by rw [show (s - s).toNat = 0 by omega]; decide)
  · exact ev_pos (show t01 (kdO (byA T n s) = 2) = 0 from t01_neg c1) (no (fun q => c1 ((kdO_by2 (g := g) hT h6).2 q).1))
theorem pk27_in : ∀ (k : Nat) (i v : Int) (T : Int → Int) (P : Int), 0 ≤ v → v < P → (∀ j, i ≤ j → j < i + k → 97 ≤ T j ∧ T j ≤ 122) → 0 ≤ pk27 v (ltL T k i) ∧ pk27 v (ltL T k i) < P * ((27 ^ k : Nat) : Int)
  | 0, i, v, T, P, v0, v1, _ => by rw [ltL, pk27]; exact ⟨v0, by simpa using v1⟩
  | k + 1, i, v, T, P, v0, v1, hd => by
    have h0 := hd i (by omega) (by omega)
    have h := pk27_in k (i + 1) (27 * v + (T i - 96)) T (27 * P) (by omega) (by omega) (fun j j0 j1 => hd j (by omega) (by omega))
    rw [ltL, pk27]
    refine ⟨h.1, ?_⟩
    have e : 27 * P * ((27 ^ k : Nat) : Int) = P * ((27 ^ (k + 1) : Nat) : Int) := by
      rw [Nat.pow_succ, Int.natCast_mul]
      rw [Int.mul_comm 27 P, Int.mul_assoc, Int.mul_comm ((27 ^ k : Nat) : Int)]
      rfl
    rw [← e]; exact h.2
theorem sX10_name {T : Int → Int} {n s : Int} {g : Bool} (hT : Tp T n) (b : Bool) (ν : Nat → Int → Int) (h : RSv T n ν s g) : ∀ d, 4 ≤ d → Cal d 87 [mP 96] b ν (fun v ν' => Fg [] lxJ ν ν' ∧ ((nmO T n s g ∧ v = pk27 0 (nmL T n s) ∧ ν' 96 31 = s ∧ RSv T n ν' (nxS T n s) (nxG T n s g)) ∨ ∃ e, naE T n s g e ∧ RBd ν' e)) := deepC fun d hd => by
  have hn1 := hT.2.1
  refine cal_ev (fun r => call_X10_name d b ν) (ev_row (fun m => tX10_name_0 _ m b ν) (ev_pos h.1 (ev_callP (sX10_look hT b ν h d (by omega)) (fun v1 ν1 ⟨e1, f1, l1, at1⟩ => ?_))))
  dsimp only
  rw [e1]
  have hl0 := l1
  obtain ⟨h1, h2, h3, h4, h5, ⟨p0, p1, p2⟩, h6, h7⟩ := l1
  have f1' : Fg [] [2, 4, 31] ν ν1 := fg_tr fg_rfl f1 (by decide) (by decide)
  have no : ∀ ν' : Nat → Int → Int, Fg [] [2, 4, 31] ν ν' → RSv T n ν' s g → ν' 96 2 = s → ¬ isNm T n s g → Ev (fun m => mRun (mCallN d) kX10_name m 37 [some (mP 96), none, none] [] (SH, ν', RHO b)) b (fun v ν' => Fg [] lxJ ν ν' ∧ ((nmO T n s g ∧ v = pk27 0 (nmL T n s) ∧ ν' 96 31 = s ∧ RSv T n ν' (nxS T n s) (nxG T n s g)) ∨ ∃ e, naE T n s g e ∧ RBd ν' e)) := fun ν' hf hr hat q => by
    refine ev_row (fun m => tX10_name_37 _ m b ν') ?_
    rw [hat]
    exact ev_callP (sX10_fail 1 s (by decide) b ν' hr d (by omega)) (fun _ ν2 ⟨f2, l2⟩ => ev_ret ⟨fg_tr (fg_tr fg_rfl hf (by decide) (by decide)) f2 (by decide) (by decide), Or.inr ⟨(1, s), Or.inl ⟨q, rfl⟩, l2⟩⟩)
  refine ev_call (sX10_isLetter _ b ν1 d (by omega)) ?_
  by_cases c1 : kdO (byA T n s) = 1
  · refine ev_neg (by show ¬ t01 (kdO (byA T n s) = 1) = 0; rw [t01_pos c1]; decide) ?_
    by_cases cg : g = true
    · refine ev_pos (by show ν1 96 2 = ν1 96 4; rw [at1]; exact (h7.2.2 cg).symm) (no ν1 f1' hl0 at1 (fun q => ?_))
      have := (kdO_by (g := g) hT h6).2 q.1
      rw [cg] at this
      exact absurd this.2 (by decide)
    · have hg : g = false := by cases g <;> simp_all
      have hk1 : tkK T n s g = 1 := (kdO_by hT h6).1 ⟨c1, hg⟩
      refine ev_neg (by show ¬ (ν1 96 2 = ν1 96 4); rw [at1]; exact fun q => cg (h7.2.1 q.symm)) (ev_callP (sX10_isOwnHere hT b ν1 hl0 d (by omega)) (fun v2 ν2 ⟨e2, f2, l2, at2⟩ => ?_))
      have f2' : Fg [] [2, 4, 31] ν ν2 := fg_tr f1' f2 (by decide) (by decide)
      by_cases co : 0 ≤ tkW T n s g
      · rw [t01_pos co] at e2
        refine ev_neg (by show ¬ v2 = 0; omega) (no ν2 f2' l2 at2 (fun q => ?_))
        have := q.2
        omega
      · rw [t01_neg co] at e2
        have hw : tkW T n s g = -1 := by
          unfold tkW at co ⊢
          rw [if_pos hk1] at co ⊢
          rcases owN_or T n s with ⟨w, -⟩ | ⟨i, hi, w, -⟩
          · exact w
          · rw [w] at co; omega
        have hnm : isNm T n s g := ⟨hk1, hw⟩
        refine ev_pos (show v2 = 0 from e2) ?_
        dsimp only
        rw [at2]
        obtain ⟨hsn, hks, -⟩ := tkK1 hT h6 hk1
        obtain ⟨u1, u2, u3, u4⟩ := bhd_run h6.1 hsn (Or.inl hks)
        have hs0 := h6.1
        have hlet : ∀ i, s ≤ i → i < bhd T n s → 97 ≤ T i ∧ T i ≤ 122 := fun i i0 i1 => let_in (by rw [u1 i i0 i1]; exact hks)
        have run : ∀ (k : Nat) (i v : Int) (ν' : Nat → Int → Int), i + k = bhd T n s → s ≤ i → i ≤ s + 6 → Fg [] [2, 4, 31] ν2 ν' → ν' 96 2 = i → ν' 96 31 = s → pk27 0 (nmL T n s) = pk27 v (ltL T k i) → 0 ≤ v → v < ((27 ^ (i - s).toNat : Nat) : Int) → Ev (fun m => mRun (mCallN d) kX10_name m 58 [some (mP 96), some (mJ v), none] [] (SH, ν', RHO b)) b (fun v ν' => Fg [] lxJ ν ν' ∧ ((nmO T n s g ∧ v = pk27 0 (nmL T n s) ∧ ν' 96 31 = s ∧ RSv T n ν' (nxS T n s) (nxG T n s g)) ∨ ∃ e, naE T n s g e ∧ RBd ν' e)) := by
          intro k
          induction k with
          | zero =>
            intro i v ν' hi' hsi hi4 hf hat h31 he v0 vp
            have hib : i = bhd T n s := by omega
            obtain ⟨m1, m2', m3, m4⟩ := RSv_mid l2 hf
            have he' : pk27 0 (nmL T n s) = v := he
            have fin : Ev (fun m => mRun (mCallN d) kX10_name m 145 [some (mP 96), some (mJ v), none] [] (SH, ν', RHO b)) b (fun v ν' => Fg [] lxJ ν ν' ∧ ((nmO T n s g ∧ v = pk27 0 (nmL T n s) ∧ ν' 96 31 = s ∧ RSv T n ν' (nxS T n s) (nxG T n s g)) ∨ ∃ e, naE T n s g e ∧ RBd ν' e)) := by
              refine ev_row (fun m => tX10_name_145 _ m b ν' v) ?_
              rw [hat]
              have hf2 : Fg [] [2, 4, 31] ν2 (m2 ν' 96 4 i) := fg_m96 hf (by decide)
              refine ev_ret ⟨fg_tr (fg_tr fg_rfl f2' (by decide) (by decide)) hf2 (by decide) (by decide), Or.inl ⟨⟨hnm, by omega⟩, he'.symm, ?_, RSv_next hT l2 hf2 ?_ (Or.inl ⟨Or.inl hk1, ?_⟩)⟩⟩
              · rw [m2_at, if_neg (by decide)]; exact h31
              · rw [m2_at, if_neg (by decide), hat, hib]
              · rw [m2_at, if_pos rfl, hib]
            refine ev_row (fun m => tX10_name_58 _ m b ν' v) ?_
            rw [hat, m3]
            refine ev_br (fun c => ?_) (fun _ => fin)
            rw [m4 i (by omega) (by omega)]
            refine ev_if (by omega) (ev_call (sX10_isLetter _ b ν' d (by omega)) (ev_pos ?_ fin))
            show t01 (kdO (T i) = 1) = 0
            exact t01_neg (fun q => u2 (by omega) (by rw [← hib, q, hks]))
          | succ k ih =>
            intro i v ν' hi' hsi hi4 hf hat h31 he v0 vp
            obtain ⟨m1, m2', m3, m4⟩ := RSv_mid l2 hf
            have hlt := hlet i hsi (by omega)
            refine ev_row (fun m => tX10_name_58 _ m b ν' v) ?_
            rw [hat, m3, m4 i (by omega) (by omega)]
            refine ev_pos (by omega) (ev_if (by omega) (ev_call (sX10_isLetter _ b ν' d (by omega)) (ev_neg ?_ ?_)))
            · show ¬ t01 (kdO (T i) = 1) = 0
              rw [t01_pos (by rw [u1 i hsi (by omega)]; exact hks)]; decide
            · by_cases c4 : i = s + 6
              · refine ev_pos (by show w32 (ν' 96 2 - ν' 96 31) = 6; rw [hat, h31, w32_id (by omega) (by omega)]; omega) ?_
                dsimp only
                rw [hat]
                exact ev_callP (sX10_fail0 1 i (by decide) b ν' m1 d (by omega)) (fun _ ν3 ⟨f3, l3⟩ => ev_ret ⟨fg_tr (fg_tr (fg_tr fg_rfl f2' (by decide) (by decide)) hf (by decide) (by decide)) f3 (by decide) (by decide), Or.inr ⟨(1, i), Or.inr ⟨hnm, by omega, by rw [c4]⟩, l3⟩⟩)
              · refine ev_neg (by show ¬ (w32 (ν' 96 2 - ν' 96 31) = 6); rw [hat, h31, w32_id (by omega) (by omega)]; omega) ?_
                have hp3 : (27 : Nat) ^ (i - s).toNat ≤ 27 ^ 5 := Nat.pow_le_pow_right (by decide) (by omega)
                have hp4 : (27 : Nat) ^ (i + 1 - s).toNat = 27 * 27 ^ (i - s).toNat := by rw [show (i + 1 - s).toNat = (i - s).toNat + 1 by omega, Nat.pow_succ, Nat.mul_comm]
                have hvb : v < 14348907 := by
                  generalize (27 : Nat) ^ (i - s).toNat = Q at vp hp3
                  omega
                refine ev_if (by show 0 ≤ ν' 96 2 ∧ ν' 96 2 < 1600; omega) ?_
                dsimp only
                rw [hat, m4 i (by omega) (by omega), show w64 (27 * v) = 27 * v from w64_id (by omega) (by omega), show w64 (27 * v + T i) = 27 * v + T i from w64_id (by omega) (by omega), show w64 (27 * v + T i - 97) = 27 * v + T i - 97 from w64_id (by omega) (by omega), show w64 (27 * v + T i - 97 + 1) = 27 * v + (T i - 96) from by rw [w64_id (by omega) (by omega)]; omega, show w32 (i + 1) = i + 1 from w32_id (by omega) (by omega)]
                refine ih (i + 1) _ _ (by omega) (by omega) (by omega) (fg_m96 hf (by decide)) (by rw [m2_at, if_pos rfl]) (by rw [m2_at, if_neg (by decide)]; exact h31) (by rw [he]; rfl) (by omega) ?_
                rw [hp4]
                generalize (27 : Nat) ^ (i - s).toNat = Q at vp
                omega
        exact run (bhd T n s - s).toNat s 0 _ (by omega) (Int.le_refl _) (by omega) (fg_m96 fg_rfl (by decide)) (by rw [m2_at, if_neg (by decide)]; exact at2) (by rw [m2_at, if_pos rfl]) rfl (by decide) (by rw [show (s - s).toNat = 0 by omega]; decide)
  · exact ev_pos (show t01 (kdO (byA T n s) = 1) = 0 from t01_neg c1) (no ν1 f1' hl0 at1 (fun q => c1 ((kdO_by (g := g) hT h6).2 q.1).1))
