theorem sX10_exchanges (b : Bool) (μ μ0 : Nat → Int → Int) (hR : R b μ) {men : Int → Int} {r0 : Int × Int} (hin : ∀ g, 0 ≤ g → g < μ (tw b + 1) 2 → 0 ≤ men g ∧ men g < μ (tw b + 1) 1) (hB0 : By b μ μ0 men (r0, (-1, -1))) : ∀ d, 8 ≤ d → Cal d 34 [mP 96] b μ0 (fun v μ' => ((exE b μ men r0).2.1 = -1 ∧ v = 0 ∧ By b μ μ' men (exE b μ men r0)) ∨ ((exE b μ men r0).2.1 ≠ -1 ∧ v = 1 ∧ By b μ μ' (exch men (exE b μ men r0).2.1 (exE b μ men r0).2.2) ((exE b μ men r0).1, (-1, -1)))) := deepC fun d hd => by
  have hCn := hR.1.1
  obtain ⟨⟨z1, z2, z3⟩, ⟨w1, w2, w3⟩, ⟨y1, y2, y3⟩, ⟨x1, x2, x3⟩⟩ := hCn
  have lp : ∀ (k : Nat) (i : Int) (v4 : Option mV) (μ' : Nat → Int → Int) (r : (Int × Int) × (Int × Int)), 0 ≤ i → i + k = μ (tw b + 1) 2 → By b μ μ' men r → exE b μ men r0 = exI (rtM b μ) men k i r → Ev (fun n => mRun (mCallN d) kX10_exchanges n 6 [some (mP 96), some (mI r.2.1), some (mI r.2.2), some (mI i), v4] [] (SH, μ', RHO b)) b (fun v μ' => ((exE b μ men r0).2.1 = -1 ∧ v = 0 ∧ By b μ μ' men (exE b μ men r0)) ∨ ((exE b μ men r0).2.1 ≠ -1 ∧ v = 1 ∧ By b μ μ' (exch men (exE b μ men r0).2.1 (exE b μ men r0).2.2) ((exE b μ men r0).1, (-1, -1)))) := by
    intro k
    induction k with
    | zero =>
      intro i v4 μ' r i0 hk hB he
      rw [show exI (rtM b μ) men 0 i r = r from rfl] at he
      rw [he]
      refine ev_row (fun n => tX10_exchanges_6 _ n b μ' r.2.1 r.2.2 i v4) (ev_call (sX10_gateMany b μ' d (by omega)) (ev_neg (by show ¬ (i < μ' 120 7); rw [hB.1.1 120 (by decide) (by decide)]; omega) (ev_br (fun c => ev_ret (Or.inl ⟨c, rfl, hB⟩)) (fun c => ?_))))
      obtain ⟨hf, h3, s1, s2, hmen, h9, hr⟩ := hB
      rcases hr with hr | hr
      · exact absurd hr c
      · refine ev_call (sX10_changes r.2.1 r.2.2 b μ' hr.1.1 (by omega) hr.2.1 (by omega) d (by omega)) (ev_ret (Or.inr ⟨c, rfl, fg_m2 (fg_m2 hf (by decide) (by decide)) (by decide) (by decide), fun x q => ?_, ?_, ?_, fun g g0 g1 => ?_, fun g g0 g1 => ?_, Or.inl rfl⟩))
        · dsimp only
          rw [m2_at, if_neg (by omega), m2_at, if_neg (by omega)]; exact h3 x q
        · dsimp only
          rw [m2_ne (by decide), m2_ne (by decide)]; exact s1
        · dsimp only
          rw [m2_ne (by decide), m2_ne (by decide)]; exact s2
        · exact chg_at (μ := μ') hmen hr.1.1 hr.1.2 hr.2.1 hr.2.2 g g0 g1
        · dsimp only
          rw [m2_ne (by decide), m2_ne (by decide), h9 g g0 g1]
          unfold ordB
          rw [if_neg c, if_pos rfl]
    | succ k ih =>
      intro i v4 μ' r i0 hk hB he
      have e1 : w32 (i + 1) = i + 1 := w32_id (by omega) (by omega)
      refine ev_row (fun n => tX10_exchanges_6 _ n b μ' r.2.1 r.2.2 i v4) ?_
      rw [e1]
      refine ev_call (sX10_gateMany b μ' d (by omega)) (ev_pos (by show i < μ' 120 7; rw [hB.1.1 120 (by decide) (by decide)]; omega) ?_)
      exact eX10_exchanges_19 (by omega) hR hin i0 (by omega) k (i + 1) μ' r (by omega) (by omega) hB (fun v4' μ2 h2 => ih (i + 1) _ μ2 _ (by omega) (by omega) h2 he)
  exact cal_ev (fun r => call_X10_exchanges d b μ0) (ev_row (fun n => tX10_exchanges_0 _ n b μ0) (lp (μ (tw b + 1) 2).toNat 0 none μ0 (r0, (-1, -1)) (by decide) (by omega) hB0 rfl))
