theorem sX10_isTold (n : Int) (b : Bool) (μ : Nat → Int → Int) (hR : R b μ) {μ1 : Nat → Int → Int} (hk : ∀ a, 97 ≤ a → μ1 a = μ a) (hn : n = μ 2 1) : ∀ d, 3 ≤ d → Cal d 75 [mP 96, mI n] b μ1 (fun v μ' => μ' = μ1 ∧ ((v = 1 ∧ onOK b μ) ∨ (v = 0 ∧ ¬ onOK b μ))) := deepC fun d hd => by
  have hC := Rcnt_C hR.1.1
  have hCn := hR.1.1
  obtain ⟨⟨z1, z2, z3⟩, ⟨w1, w2, w3⟩, ⟨y1, y2, y3⟩, ⟨x1, x2, x3⟩⟩ := hCn
  obtain ⟨⟨t1, t2, t3⟩, t4⟩ := hR.2.2.2.1.1
  have hbt : ∀ i, 0 ≤ i → i < 1600 → 0 ≤ μ 3 i ∧ μ 3 i ≤ 255 := fun i i0 i1 => (t4 i i0 i1).2
  have k97 : ∀ i, 0 ≤ i → i < 1600 → μ1 97 i = μ 3 i := fun i i0 i1 => by rw [hk 97 (by decide)]; exact (t4 i i0 i1).1
  have hb1 : ∀ i, 0 ≤ i → i < 1600 → 0 ≤ μ1 97 i ∧ μ1 97 i ≤ 255 := fun i i0 i1 => by rw [k97 i i0 i1]; exact hbt i i0 i1
  have ktw : ∀ k, 0 ≤ k → k < 1500 → tw2 (μ1 97) k = tw2 (μ 3) k := fun k k0 k1 => by unfold tw2; rw [k97 k k0 (by omega), k97 (k + 1) (by omega) (by omega)]
  have tA : ∀ k, 0 ≤ k → k < 1500 → mCallN d 125 [mP 96, mI k] (SH, μ1, RHO b) = some (tw2 (μ 3) k, SH, μ1, RHO b) := fun k k0 k1 => by
    have := sX10_tapeAt k b μ1 k0 k1 hb1 d (by omega)
    rw [ktw k k0 k1] at this; exact this
  have k120 : μ1 120 = μ 120 := hk 120 (by decide)
  obtain ⟨q0, q1, qG, qM, qM2, qP⟩ := rowQ_at (t := μ 3) (G := μ (tw b + 1) 2) (M := μ (tw b + 1) 1) (P := μ (tw b + 1) 3) ⟨y2, y3⟩ ⟨w2, w3⟩ ⟨x2, x3⟩
  have gM : mCallN d 47 [mP 96] (SH, μ1, RHO b) = some (μ (tw b + 1) 2, SH, μ1, RHO b) := by have := sX10_gateMany b μ1 d (by omega); rw [k120, y1] at this; exact this
  have mM : mCallN d 84 [mP 96] (SH, μ1, RHO b) = some (μ (tw b + 1) 1, SH, μ1, RHO b) := by have := sX10_manMany b μ1 d (by omega); rw [k120, w1] at this; exact this
  have pM : mCallN d 102 [mP 96] (SH, μ1, RHO b) = some (μ (tw b + 1) 3, SH, μ1, RHO b) := by have := sX10_personMany b μ1 d (by omega); rw [k120, x1] at this; exact this
  have e1 : w32 (3 + μ (tw b + 1) 2) = 3 + μ (tw b + 1) 2 := w32_id (by omega) (by omega)
  have e2 : w32 (3 * μ (tw b + 1) 1) = 3 * μ (tw b + 1) 1 := w32_id (by omega) (by omega)
  have e3 : w32 (3 + μ (tw b + 1) 2 + 3 * μ (tw b + 1) 1) = 3 + μ (tw b + 1) 2 + 3 * μ (tw b + 1) 1 := w32_id (by omega) (by omega)
  have e4 : w32 (6 * μ (tw b + 1) 3) = 6 * μ (tw b + 1) 3 := w32_id (by omega) (by omega)
  have e5 : w32 (3 + μ (tw b + 1) 2 + 3 * μ (tw b + 1) 1 + 6 * μ (tw b + 1) 3) = 3 + μ (tw b + 1) 2 + 3 * μ (tw b + 1) 1 + 6 * μ (tw b + 1) 3 := w32_id (by omega) (by omega)
  have e6 : w32 (3 + μ (tw b + 1) 2 + 3 * μ (tw b + 1) 1 + 6 * μ (tw b + 1) 3 + 1) = 3 + μ (tw b + 1) 2 + 3 * μ (tw b + 1) 1 + 6 * μ (tw b + 1) 3 + 1 := w32_id (by omega) (by omega)
  have no : ¬ onOK b μ → Ev (fun m => mRun (mCallN d) kX10_isTold m 81 [some (mP 96), some (mI n), some (mI (3 + μ (tw b + 1) 2)), some (mI (3 + μ (tw b + 1) 2 + 3 * μ (tw b + 1) 1)), none, none, none, none] [] (SH, μ1, RHO b)) b (fun v μ' => μ' = μ1 ∧ ((v = 1 ∧ onOK b μ) ∨ (v = 0 ∧ ¬ onOK b μ))) := fun h => ev_row (fun m => tX10_isTold_81 _ m b μ1 n _ _) (ev_ret ⟨rfl, Or.inr ⟨rfl, h⟩⟩)
  have hfold : sumN (fun p => rowN b μ (50 + p)) 6 = sumN (fun p => tw2 (μ 3) (3 + μ (tw b + 1) 2 + 3 * μ (tw b + 1) 1 + 6 * p + 2)) (μ (tw b + 1) 3).toNat := by
    have a := sumN_cut (h := fun p => rowN b μ (50 + p)) (n := (μ (tw b + 1) 3).toNat) (6 - (μ (tw b + 1) 3).toNat) (fun i i0 i1 => by
      show rowQ _ _ _ _ _ _ (50 + i) = 0
      rw [(qP i (by omega) (by omega)).2.2.1, if_neg (by omega)])
    rw [show (μ (tw b + 1) 3).toNat + (6 - (μ (tw b + 1) 3).toNat) = 6 by omega] at a
    rw [a]
    exact sumN_congr _ (fun i i0 i1 => by
      show rowQ _ _ _ _ _ _ (50 + i) = _
      rw [(qP i i0 (by omega)).2.2.1, if_pos (by omega)])
  have hfold2 : sumN (fun m => rowN b μ (26 + m)) 12 = sumN (fun m => tw2 (μ 3) (3 + μ (tw b + 1) 2 + 3 * m + 1)) (μ (tw b + 1) 1).toNat := by
    have a := sumN_cut (h := fun m => rowN b μ (26 + m)) (n := (μ (tw b + 1) 1).toNat) (12 - (μ (tw b + 1) 1).toNat) (fun i i0 i1 => by
      show rowQ _ _ _ _ _ _ (26 + i) = 0
      rw [qM2 i (by omega) (by omega), if_neg (by omega)])
    rw [show (μ (tw b + 1) 1).toNat + (12 - (μ (tw b + 1) 1).toNat) = 12 by omega] at a
    rw [a]
    exact sumN_congr _ (fun i i0 i1 => by
      show rowQ _ _ _ _ _ _ (26 + i) = _
      rw [qM2 i i0 (by omega), if_pos (by omega)])
  have tin : ∀ k, 0 ≤ k → k < 1500 → 0 ≤ tw2 (μ 3) k ∧ tw2 (μ 3) k ≤ 65535 := fun k k0 k1 => by
    have a1 := hbt k k0 (by omega)
    have a2 := hbt (k + 1) (by omega) (by omega)
    unfold tw2; omega
  have lpP : imOK b μ → rowN b μ 0 ≤ 999 → rowN b μ 1 ≤ 23 → stC (rowN b μ) (μ (tw b + 10)) (μ (tw b + 1) 2).toNat → (∀ m, 0 ≤ m → m < μ (tw b + 1) 1 → rowN b μ (14 + m) ≤ 200) → ∀ (k : Nat) (i v4 v5 : Int) (v7 : Option mV), 0 ≤ i → i + k = μ (tw b + 1) 3 → (∀ p, 0 ≤ p → p < i → ppC (rowN b μ) (μ (tw b + 1) 0) (μ (tw b + 1) 1) p) → (0 ≤ v4 ∧ v4 ≤ 65535 * (12 + i)) → (0 ≤ v5 ∧ v5 ≤ 999 * i) → v4 = sumN (fun m => tw2 (μ 3) (3 + μ (tw b + 1) 2 + 3 * m + 1)) (μ (tw b + 1) 1).toNat + sumN (fun p => tw2 (μ 3) (3 + μ (tw b + 1) 2 + 3 * μ (tw b + 1) 1 + 6 * p + 2)) i.toNat → v5 = sumN (μ (tw b + 13)) i.toNat → Ev (fun m => mRun (mCallN d) kX10_isTold m 146 [some (mP 96), some (mI n), some (mI (3 + μ (tw b + 1) 2)), some (mI (3 + μ (tw b + 1) 2 + 3 * μ (tw b + 1) 1)), some (mI v4), some (mI v5), some (mI i), v7] [] (SH, μ1, RHO b)) b (fun v μ' => μ' = μ1 ∧ ((v = 1 ∧ onOK b μ) ∨ (v = 0 ∧ ¬ onOK b μ))) := by
    intro g1 g2 g3 g4 g5 k
    induction k with
    | zero =>
      intro i v4 v5 v7 h0 hk' hpp h4 h5 s4 s5
      have hi : i = μ (tw b + 1) 3 := by omega
      refine ev_row (fun m => tX10_isTold_146 _ m b μ1 n _ _ v4 v5 i v7) (ev_call pM (ev_neg (by show ¬ (i < μ (tw b + 1) 3); omega) (ev_br (fun c => ?_) (fun c => ?_))))
      · refine ev_row (fun m => tX10_isTold_263 _ m b μ1 n _ _ v4 v5 i v7 1) (ev_if (Or.inr rfl) (ev_ret ⟨rfl, Or.inl ⟨rfl, g1, g2, g3, g4, g5, fun p p0 p1 => hpp p p0 (by omega), ?_⟩⟩))
        rw [hfold, hfold2]
        rw [hi] at s4 s5
        omega
      · refine ev_row (fun m => tX10_isTold_263 _ m b μ1 n _ _ v4 v5 i v7 0) (ev_if (Or.inl rfl) (ev_ret ⟨rfl, Or.inr ⟨rfl, fun h => c ?_⟩⟩))
        have := h.2.2.2.2.2.2
        rw [hfold, hfold2] at this
        rw [hi] at s4 s5
        omega
    | succ k ih =>
      intro i v4 v5 v7 h0 hk' hpp h4 h5 s4 s5
      obtain ⟨r1, r2, r3, r4⟩ := qP i h0 (by omega)
      rw [if_pos (by omega)] at r1 r2 r3 r4
      have f1 : w32 (6 * i) = 6 * i := w32_id (by omega) (by omega)
      have f2 : w32 (3 + μ (tw b + 1) 2 + 3 * μ (tw b + 1) 1 + 6 * i) = 3 + μ (tw b + 1) 2 + 3 * μ (tw b + 1) 1 + 6 * i := w32_id (by omega) (by omega)
      have f3 : w32 (3 + μ (tw b + 1) 2 + 3 * μ (tw b + 1) 1 + 6 * i + 1) = 3 + μ (tw b + 1) 2 + 3 * μ (tw b + 1) 1 + 6 * i + 1 := w32_id (by omega) (by omega)
      have f4 : w32 (3 + μ (tw b + 1) 2 + 3 * μ (tw b + 1) 1 + 6 * i + 4) = 3 + μ (tw b + 1) 2 + 3 * μ (tw b + 1) 1 + 6 * i + 4 := w32_id (by omega) (by omega)
      have f5 : w32 (3 + μ (tw b + 1) 2 + 3 * μ (tw b + 1) 1 + 6 * i + 2) = 3 + μ (tw b + 1) 2 + 3 * μ (tw b + 1) 1 + 6 * i + 2 := w32_id (by omega) (by omega)
      have f6 : w32 (4 * i) = 4 * i := w32_id (by omega) (by omega)
      have f7 : w32 (24 + 4 * i) = 24 + 4 * i := w32_id (by omega) (by omega)
      have f8 : w32 (24 + 4 * i + 2) = 24 + 4 * i + 2 := w32_id (by omega) (by omega)
      have f9 : w32 (i + 1) = i + 1 := w32_id (by omega) (by omega)
      have bad : ∀ v7', ¬ ppC (rowN b μ) (μ (tw b + 1) 0) (μ (tw b + 1) 1) i → Ev (fun m => mRun (mCallN d) kX10_isTold m 211 [some (mP 96), some (mI n), some (mI (3 + μ (tw b + 1) 2)), some (mI (3 + μ (tw b + 1) 2 + 3 * μ (tw b + 1) 1)), some (mI v4), some (mI v5), some (mI i), some (mI v7')] [] (SH, μ1, RHO b)) b (fun v μ' => μ' = μ1 ∧ ((v = 1 ∧ onOK b μ) ∨ (v = 0 ∧ ¬ onOK b μ))) := fun v7' h => ev_row (fun m => tX10_isTold_211 _ m b μ1 n _ _ v4 v5 i v7') (ev_ret ⟨rfl, Or.inr ⟨rfl, fun q => h (q.2.2.2.2.2.1 i h0 (by omega))⟩⟩)
      have ro : ∀ x, mCallN d 73 [mP 96, mI x] (SH, μ1, RHO b) = some (t01 (0 ≤ x ∧ x < μ (tw b + 1) 0), SH, μ1, RHO b) := fun x => by
        have := sX10_isRoom x b μ1 (by rw [k120]; omega) (by rw [k120]; omega) d (by omega)
        rw [k120, z1] at this; exact this
      have a1 := hbt (3 + μ (tw b + 1) 2 + 3 * μ (tw b + 1) 1 + 6 * i) (by omega) (by omega)
      have a2 := hbt (3 + μ (tw b + 1) 2 + 3 * μ (tw b + 1) 1 + 6 * i + 1) (by omega) (by omega)
      have hro1 : mCallN d 73 [mP 96, mI (μ1 97 (3 + μ (tw b + 1) 2 + 3 * μ (tw b + 1) 1 + 6 * i))] (SH, μ1, RHO b) = some (t01 (rowN b μ (38 + i) < μ (tw b + 1) 0), SH, μ1, RHO b) := by
        rw [k97 _ (by omega) (by omega), ro, t01_congr (show (0 ≤ μ 3 (3 + μ (tw b + 1) 2 + 3 * μ (tw b + 1) 1 + 6 * i) ∧ μ 3 (3 + μ (tw b + 1) 2 + 3 * μ (tw b + 1) 1 + 6 * i) < μ (tw b + 1) 0) ↔ (rowN b μ (38 + i) < μ (tw b + 1) 0) by
          show _ ↔ rowQ _ _ _ _ _ _ (38 + i) < _
          rw [r1]; omega)]
      have hro2 : mCallN d 73 [mP 96, mI (μ1 97 (3 + μ (tw b + 1) 2 + 3 * μ (tw b + 1) 1 + 6 * i + 1))] (SH, μ1, RHO b) = some (t01 (rowN b μ (44 + i) < μ (tw b + 1) 0), SH, μ1, RHO b) := by
        rw [k97 _ (by omega) (by omega), ro, t01_congr (show (0 ≤ μ 3 (3 + μ (tw b + 1) 2 + 3 * μ (tw b + 1) 1 + 6 * i + 1) ∧ μ 3 (3 + μ (tw b + 1) 2 + 3 * μ (tw b + 1) 1 + 6 * i + 1) < μ (tw b + 1) 0) ↔ (rowN b μ (44 + i) < μ (tw b + 1) 0) by
          show _ ↔ rowQ _ _ _ _ _ _ (44 + i) < _
          rw [r2]; omega)]
      refine ev_row (fun m => tX10_isTold_146 _ m b μ1 n _ _ v4 v5 i v7) (ev_call pM (ev_pos (by show i < μ (tw b + 1) 3; omega) ?_))
      dsimp only
      rw [f1, f2, f3, f4, f5, f6, f7, f8, f9]
      refine ev_if (by omega) ?_
      by_cases c1 : rowN b μ (38 + i) < μ (tw b + 1) 0
      · rw [t01_pos c1] at hro1
        refine ev_call hro1 (ev_neg (by show ¬ ((1 : Int) = 0); decide) (ev_if (by omega) ?_))
        by_cases c2 : rowN b μ (44 + i) < μ (tw b + 1) 0
        · rw [t01_pos c2] at hro2
          refine ev_call hro2 (ev_neg (by show ¬ ((1 : Int) = 0); decide) (ev_call (tA _ (by omega) (by omega)) (ev_call mM (ev_br (fun c3 => ?_) (fun c3 => bad _ (fun h => c3 ?_))))))
          · have c3' : tw2 (μ 3) (3 + μ (tw b + 1) 2 + 3 * μ (tw b + 1) 1 + 6 * i + 4) < iShl 1 (μ (tw b + 1) 1) := c3
            rw [iShl_1 w2 (by omega)] at c3'
            have hcoin := hR.1.2.2.2.2.2.1 i h0 (by omega)
            refine ev_call (tA _ (by omega) (by omega)) (ev_if (by omega) ?_)
            dsimp only
            rw [hk 125 (by decide), hcoin.1]
            have b2 := tin (3 + μ (tw b + 1) 2 + 3 * μ (tw b + 1) 1 + 6 * i + 2) (by omega) (by omega)
            rw [w32_id (x := v4 + _) (by omega) (by omega), w32_id (x := v5 + _) (by omega) (by omega)]
            refine ih (i + 1) _ _ _ (by omega) (by omega) (fun p p0 p1 => ?_) (by omega) (by omega) ?_ ?_
            · by_cases e : p = i
              · rw [e]
                refine ⟨c1, c2, ?_⟩
                show rowQ _ _ _ _ _ _ (56 + i) < _
                rw [r4]; exact c3'
              · exact hpp p p0 (by omega)
            · rw [s4, show (i + 1).toNat = i.toNat + 1 by omega, sumN, show ((i.toNat : Nat) : Int) = i by omega]; omega
            · rw [s5, show (i + 1).toNat = i.toNat + 1 by omega, sumN, show ((i.toNat : Nat) : Int) = i by omega]
          · show tw2 (μ 3) (3 + μ (tw b + 1) 2 + 3 * μ (tw b + 1) 1 + 6 * i + 4) < iShl 1 (μ (tw b + 1) 1)
            rw [iShl_1 w2 (by omega), ← r4]; exact h.2.2
        · rw [t01_neg c2] at hro2
          exact ev_call hro2 (ev_pos rfl (bad _ (fun h => c2 h.2.1)))
      · rw [t01_neg c1] at hro1
        exact ev_call hro1 (ev_pos rfl (bad _ (fun h => c1 h.1)))
  have lpM : imOK b μ → rowN b μ 0 ≤ 999 → rowN b μ 1 ≤ 23 → stC (rowN b μ) (μ (tw b + 10)) (μ (tw b + 1) 2).toNat → ∀ (k : Nat) (i v4 : Int), 0 ≤ i → i + k = μ (tw b + 1) 1 → (∀ m, 0 ≤ m → m < i → rowN b μ (14 + m) ≤ 200) → (0 ≤ v4 ∧ v4 ≤ 65535 * i) → v4 = sumN (fun m => tw2 (μ 3) (3 + μ (tw b + 1) 2 + 3 * m + 1)) i.toNat → Ev (fun m => mRun (mCallN d) kX10_isTold m 92 [some (mP 96), some (mI n), some (mI (3 + μ (tw b + 1) 2)), some (mI (3 + μ (tw b + 1) 2 + 3 * μ (tw b + 1) 1)), some (mI v4), some (mI 0), some (mI i), none] [] (SH, μ1, RHO b)) b (fun v μ' => μ' = μ1 ∧ ((v = 1 ∧ onOK b μ) ∨ (v = 0 ∧ ¬ onOK b μ))) := by
    intro g1 g2 g3 g4 k
    induction k with
    | zero =>
      intro i v4 h0 hk' hmm h4 s4
      have hi : i = μ (tw b + 1) 1 := by omega
      refine ev_row (fun m => tX10_isTold_92 _ m b μ1 n _ _ v4 0 i) (ev_call mM (ev_neg (by show ¬ (i < μ (tw b + 1) 1); omega) ?_))
      refine lpP g1 g2 g3 g4 (fun m m0 m1 => hmm m m0 (by omega)) (μ (tw b + 1) 3).toNat 0 v4 0 none (by decide) (by omega) (fun p p0 p1 => absurd p0 (by omega)) (by omega) (by omega) ?_ rfl
      rw [s4, hi]
      show _ = _ + (0 : Int)
      omega
    | succ k ih =>
      intro i v4 h0 hk' hmm h4 s4
      have r1 := qM i h0 (by omega)
      rw [if_pos (by omega)] at r1
      have f1 : w32 (3 * i) = 3 * i := w32_id (by omega) (by omega)
      have f2 : w32 (3 + μ (tw b + 1) 2 + 3 * i) = 3 + μ (tw b + 1) 2 + 3 * i := w32_id (by omega) (by omega)
      have f3 : w32 (3 + μ (tw b + 1) 2 + 3 * i + 1) = 3 + μ (tw b + 1) 2 + 3 * i + 1 := w32_id (by omega) (by omega)
      have f9 : w32 (i + 1) = i + 1 := w32_id (by omega) (by omega)
      refine ev_row (fun m => tX10_isTold_92 _ m b μ1 n _ _ v4 0 i) (ev_call mM (ev_pos (by show i < μ (tw b + 1) 1; omega) (ev_if (by rw [f1, f2]; omega) (ev_br (fun c => ?_) (fun c => ?_)))))
      · have c' : 200 < μ1 97 (w32 (3 + μ (tw b + 1) 2 + w32 (3 * i))) := c
        rw [f1, f2, k97 _ (by omega) (by omega)] at c'
        refine ev_ret ⟨rfl, Or.inr ⟨rfl, fun h => ?_⟩⟩
        have h2 := h.2.2.2.2.1 i h0 (by omega)
        have h3 : rowN b μ (14 + i) = μ 3 (3 + μ (tw b + 1) 2 + 3 * i) := r1
        omega
      · have c' : ¬ 200 < μ1 97 (w32 (3 + μ (tw b + 1) 2 + w32 (3 * i))) := c
        rw [f1, f2, k97 _ (by omega) (by omega)] at c'
        have b2 := tin (3 + μ (tw b + 1) 2 + 3 * i + 1) (by omega) (by omega)
        dsimp only
        rw [f1, f2, f3, f9]
        refine ev_call (tA _ (by omega) (by omega)) ?_
        dsimp only
        rw [w32_id (by omega) (by omega)]
        refine ih (i + 1) _ (by omega) (by omega) (fun m m0 m1 => ?_) (by omega) ?_
        · by_cases e : m = i
          · rw [e]
            have h3 : rowN b μ (14 + i) = μ 3 (3 + μ (tw b + 1) 2 + 3 * i) := r1
            omega
          · exact hmm m m0 (by omega)
        · rw [s4, show (i + 1).toNat = i.toNat + 1 by omega, sumN, show ((i.toNat : Nat) : Int) = i by omega]
  refine cal_ev (fun r => call_X10_isTold d b μ1 n) (ev_row (fun m => tX10_isTold_0 _ m b μ1 n) (ev_call gM (ev_call mM (ev_call pM ?_))))
  dsimp only
  rw [e1, e2, e3, e4, e5, e6]
  refine ev_br (fun c1 => ?_) (fun c1 => no (fun h => c1 (by rw [hn]; exact h.1.1)))
  have f1 : w32 (n - 1) = n - 1 := w32_id (by omega) (by omega)
  rw [f1]
  have hS := sX10_checked 97 1600 (n - 1).toNat b μ1 rfl (by decide) (by omega) (fun i i0 i1 => hb1 i i0 (by omega)) d (by omega)
  rw [show (((n - 1).toNat : Nat) : Int) = n - 1 by omega, chkF_congr (g := μ 3) (n - 1).toNat 0 157 (fun j j0 j1 => k97 j j0 (by omega))] at hS
  refine ev_if (by omega) (ev_call hS (ev_br (fun c2 => ?_) (fun c2 => no (fun h => c2 ?_))))
  · have c2' : μ1 97 (n - 1) = chkF (μ 3) (n - 1).toNat 0 157 := c2
    rw [k97 _ (by omega) (by omega), hn] at c2'
    have him : imOK b μ := ⟨by rw [← hn]; exact c1, c2'⟩
    have hst := sX10_areMenTold b μ1 (G := (μ (tw b + 1) 2).toNat) (gm := μ (tw b + 10)) (by rw [k120]; omega) (by omega) (fun g g0 g1 => by
      obtain ⟨⟨-, -, u3⟩, -, -, -, u4⟩ := hR.1.2.1 g g0 (by omega)
      rw [hk 124 (by decide)]
      exact ⟨u3, u4.1, by omega⟩) (fun g h g0 g1 h0 h1 e => hR.1.2.2.1 g h g0 (by omega) h0 (by omega) e) hb1 (f := rowN b μ) (fun g g0 g1 => by
      show rowQ _ _ _ _ _ _ (2 + g) = _
      rw [qG g g0 (by omega), if_pos (by omega), k97 _ (by omega) (by omega)]) d (by omega)
    have r0 : rowN b μ 0 = tw2 (μ 3) 0 := q0
    have r1 : rowN b μ 1 = μ 3 2 := q1
    refine ev_call (tA 0 (by decide) (by decide)) (ev_br (fun c3 => no (fun h => ?_)) (fun c3 => ev_br (fun c4 => no (fun h => ?_)) (fun c4 => ev_callP hst (fun v μ2 ⟨e, h⟩ => ?_))))
    · have c3' : 999 < tw2 (μ 3) 0 := c3
      have := h.2.1; omega
    · have c4' : 23 < μ1 97 2 := c4
      rw [k97 2 (by decide) (by decide)] at c4'
      have := h.2.2.1; omega
    · have c3' : ¬ 999 < tw2 (μ 3) 0 := c3
      have c4' : ¬ 23 < μ1 97 2 := c4
      rw [k97 2 (by decide) (by decide)] at c4'
      subst e
      rcases h with ⟨e, h⟩ | ⟨e, h⟩
      · refine ev_neg (by show ¬ v = 0; omega) ?_
        exact lpM him (by omega) (by omega) h (μ (tw b + 1) 1).toNat 0 0 (by decide) (by omega) (fun m m0 m1 => absurd m0 (by omega)) (by omega) rfl
      · exact ev_pos e (no (fun q => h q.2.2.2.1))
  · show μ1 97 (n - 1) = chkF (μ 3) (n - 1).toNat 0 157
    rw [k97 _ (by omega) (by omega), hn]; exact h.1.2
