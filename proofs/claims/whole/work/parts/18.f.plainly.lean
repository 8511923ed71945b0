theorem sX10_plainly (m p h q : Int) (b : Bool) (μ : Nat → Int → Int) (hm : 0 ≤ m) (hm1 : m < 12) (hm2 : m < μ (tw b + 1) 1) (hp0 : 0 ≤ p) (hp1 : p < 6) (hR : Rcod b μ) (ht : 0 ≤ μ 134 p ∧ μ 134 p ≤ 1000) (hh : 0 ≤ h ∧ h ≤ 1000) (hq : 0 ≤ q ∧ q ≤ 1000) (hd0 : 0 ≤ μ 133 0 ∧ μ 133 0 ≤ 1000) : ∀ d, 4 ≤ d → Cal d 105 [mP 96, mI m, mI p, mI h, mI q] b μ (fun v μ' => Fg [131, 132] [50] μ μ' ∧ v = plain (askF (μ 134 p) h q p (μ 133 0)) (fun j => μ 126 (1600 + j)) (μ (tw b + 16) m) (μ (tw b + 17) m) (μ (tw b + 18) m)) := deepC fun d hd => by
  obtain ⟨⟨c1, c2, c3⟩, h1, h2, h3, h4, h5, h6, h7⟩ := hR m hm hm2
  refine cal_ev (fun r => call_X10_plainly d b μ m p h q) ?_
  have e12 : w32 (12 + m) = 12 + m := w32_id (by omega) (by omega)
  have cm : 0 ≤ 12 + m ∧ 12 + m < 24 := by omega
  refine ev_row (fun n => tX10_plainly_0 _ n b μ m p h q) ?_
  simp only [e12, m2_ne (show (133 : Nat) ≠ 132 by decide), m2_ne (show (128 : Nat) ≠ 132 by decide), m2_ne (show (129 : Nat) ≠ 132 by decide)]
  generalize hμ1 : m2 (m2 (m2 (m2 (m2 μ 132 0 (μ 134 p)) 132 1 h) 132 2 q) 132 3 p) 132 4 (μ 133 0) = μ1
  have hf1 : Fr [132] μ μ1 := by rw [← hμ1]; exact fr_m2 (fr_m2 (fr_m2 (fr_m2 (fr_m2 fr_rfl (by decide)) (by decide)) (by decide)) (by decide)) (by decide)
  have hk1 : ∀ j, 0 ≤ j → j < 5 → μ1 132 j = askF (μ 134 p) h q p (μ 133 0) j := fun j j0 j1 => by
    have hj : j = 0 ∨ j = 1 ∨ j = 2 ∨ j = 3 ∨ j = 4 := by omega
    rw [← hμ1]
    unfold askF
    rcases hj with e | e | e | e | e <;> subst e <;> simp [m2_at]
  have hne : ∀ a, a ≠ 132 → μ1 a = μ a := fun a h => hf1 a (by simpa using h)
  have ha := askF_in (t := μ 134 p) (h := h) (q := q) (w := p) (e := μ 133 0) ht hh hq (by omega) hd0
  have hA := sX10_told (μ (tw b + 16) m) (μ (tw b + 17) m - μ (tw b + 16) m).toNat (askF (μ 134 p) h q p (μ 133 0)) (fun j => μ 126 (1600 + j)) true b μ1 h1 (by omega) ha hk1 (fun j j0 j1 => by rw [hne 126 (by decide)]) h6 d hd
  rw [show μ (tw b + 16) m + ((μ (tw b + 17) m - μ (tw b + 16) m).toNat : Int) = μ (tw b + 17) m by omega] at hA
  rw [c1, c2]
  refine ev_if ⟨hp0, hp1⟩ (ev_if cm (ev_if cm (ev_callP hA (fun v μ2 ⟨hf2, he1, hk1'⟩ => ?_))))
  have hf2' : Fg [131, 132] [50] μ μ2 := fg_tr (fg_fr (fr_sub hf1 (by simp)) (by decide)) hf2 (by simp) (fun a h => h)
  have hv1 : valR (askF (μ 134 p) h q p (μ 133 0)) (fun j => μ 126 (1600 + j)) (μ (tw b + 16) m) (μ (tw b + 17) m) = v := by unfold valR; rw [he1]; rfl
  unfold plain
  dsimp only
  refine ev_br (fun e => ?_) (fun e => ?_)
  · exact ev_ret ⟨hf2', by rw [hv1, if_pos (lc_eq.1 e)]⟩
  · have e' : ¬ v = 1 := fun h => e (lc_eq.2 h)
    rw [hf2'.1 129 (by decide) (by decide), hf2'.1 130 (by decide) (by decide), c2, c3]
    have hB := sX10_told (μ (tw b + 17) m) (μ (tw b + 18) m - μ (tw b + 17) m).toNat (askF (μ 134 p) h q p (μ 133 0)) (fun j => μ 126 (1600 + j)) false b μ2 (by omega) (by omega) ha (by rw [hf2.1 132 (by decide) (by decide)]; exact hk1) (fun j j0 j1 => by rw [hf2'.1 126 (by decide) (by decide)]) h7 d hd
    rw [show μ (tw b + 17) m + ((μ (tw b + 18) m - μ (tw b + 17) m).toNat : Int) = μ (tw b + 18) m by omega] at hB
    refine ev_if cm (ev_if cm (ev_callP hB (fun v2 μ3 ⟨hf3, he2, hk2⟩ => ?_)))
    have hf3' : Fg [131, 132] [50] μ μ3 := fg_tr hf2' hf3 (by simp) (fun a h => h)
    have hv2 : valR (askF (μ 134 p) h q p (μ 133 0)) (fun j => μ 126 (1600 + j)) (μ (tw b + 17) m) (μ (tw b + 18) m) = v2 := by unfold valR; rw [he2]; rfl
    have hk2' : -1000000 ≤ v2 ∧ v2 ≤ 1000000 := hk2
    rw [hv1, if_neg e', hv2]
    dsimp only
    refine ev_br (fun e2 => ?_) (fun e2 => ev_br (fun e3 => ?_) (fun e3 => ?_))
    · exact ev_row (fun n => tX10_plainly_127 _ n b μ3 m p h q v2 0) (ev_ret ⟨hf3', by rw [if_pos (lc_lt.1 e2)]⟩)
    · exact ev_row (fun n => tX10_plainly_127 _ n b μ3 m p h q v2 99) (ev_ret ⟨hf3', by rw [if_neg (fun h => e2 (lc_lt.2 h)), if_pos (lc_gt.1 e3)]⟩)
    · refine ev_row (fun n => tX10_plainly_127 _ n b μ3 m p h q v2 _) (ev_ret ⟨hf3', ?_⟩)
      rw [if_neg (fun h => e2 (lc_lt.2 h)), if_neg (fun h => e3 (lc_gt.2 h)), l2i_id (by omega) (by omega)]
theorem sX10_costOf (m p : Int) (f : Int → Int) (b : Bool) (μ : Nat → Int → Int) (hm : 0 ≤ m) (hm1 : m < 12) (hm2 : m < μ (tw b + 1) 1) (hp0 : 0 ≤ p) (hp1 : p < 6) (hR : Rcod b μ) (hti : μ 122 (12 + m) = μ (tw b + 7) m) (ht : 0 ≤ μ 134 p ∧ μ 134 p ≤ 99) (hr : rowA f) (hrr : Rrow f (μ 133)) : ∀ d, 5 ≤ d → Cal d 25 [mP 96, mI m, mI p] b μ (fun v μ' => Fg [131, 132] [50] μ μ' ∧ v = prc b μ f m p (μ 134 p)) := deepC fun d hd => by
  obtain ⟨r0, r1, r2, r3⟩ := hr
  refine cal_ev (fun r => call_X10_costOf d b μ m p) ?_
  have hF := sX10_hasFainted m b μ hm hm1 d (by omega)
  have hA := sX10_areFriends p m b μ hp0 hp1 d (by omega)
  have g3 := (hrr.2 p hp0 hp1).2.2.2
  have g0 := hrr.1 0 (by decide) (by decide)
  have g1 := hrr.1 1 (by decide) (by decide)
  have gm := hrr.1 (14 + m) (by omega) (by omega)
  have hq := r2 m hm hm1
  rw [g3, bit_t01 (r3 p hp0 hp1).1 (r3 p hp0 hp1).2 hm (by omega)] at hA
  rw [hti, gm] at hF
  unfold prc
  refine ev_row (fun n => tX10_costOf_0 _ n b μ m p) ?_
  have fin : ∀ (s : Int) (μ' : Nat → Int → Int) (Q : Int → (Nat → Int → Int) → Prop), Q s μ' → Ev (fun n => mRun (mCallN d) kX10_costOf n 42 [some (mP 96), some (mI m), some (mI p)] [mI s] (SH, μ', RHO b)) b Q := fun s μ' Q hQ => ev_row (fun n => tX10_costOf_42 _ n b μ' m p s) (ev_ret hQ)
  by_cases e1 : μ (tw b + 7) m ≤ f (14 + m)
  · rw [t01_pos e1] at hF
    refine ev_call hF (ev_neg (by show ¬ ((1 : Int) = 0); decide) ?_)
    exact ev_row (fun n => tX10_costOf_17 _ n b μ m p) (fin 0 μ _ ⟨fg_rfl, by rw [if_pos (Or.inl e1)]⟩)
  · rw [t01_neg e1] at hF
    refine ev_call hF (ev_pos rfl ?_)
    by_cases e2 : bI (f (56 + p)) m = true
    · rw [t01_pos e2] at hA
      refine ev_call hA (ev_neg (by show ¬ ((1 : Int) = 0); decide) ?_)
      exact ev_row (fun n => tX10_costOf_17 _ n b μ m p) (fin 0 μ _ ⟨fg_rfl, by rw [if_pos (Or.inr e2)]⟩)
    · rw [t01_neg e2] at hA
      have e14 : w32 (14 + m) = 14 + m := w32_id (by omega) (by omega)
      refine ev_call hA (ev_pos rfl (ev_if (by rw [e14]; omega) ?_))
      dsimp only
      rw [e14, g1, gm]
      refine ev_callP (sX10_plainly m p (f 1) (f (14 + m)) b μ hm hm1 hm2 hp0 hp1 hR (by omega) (by omega) (by omega) (by rw [g0]; omega) d hd) (fun v μ1 ⟨hf1, hv⟩ => fin v μ1 _ ⟨hf1, ?_⟩)
      rw [if_neg (by rintro (h | h); exact e1 h; exact e2 h), hv, g0]
