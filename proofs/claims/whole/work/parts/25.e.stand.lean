/-! ===== stand, the reference's half ===== -/
theorem weigh_ord {d : Nat} (hd : 7 ≤ d) {b : Bool} {μ : Nat → Int → Int} (hR : R b μ) {men : Int → Int} {μ' : Nat → Int → Int} (hf : Fg ecL ecJ μ μ') (h3 : ∀ x, (x < 2 ∨ 2 + μ (tw b + 1) 2 ≤ x) → μ' 133 x = μ 133 x) (hmen : ∀ g, 0 ≤ g → g < μ (tw b + 1) 2 → μ' 133 (2 + g) = men g) (hin : ∀ g, 0 ≤ g → g < μ (tw b + 1) 2 → 0 ≤ men g ∧ men g < μ (tw b + 1) 1) : Cal d 132 [mP 96] b μ' (fun _ μ2 => Fg wgL wgJ μ' μ2 ∧ μ2 96 61 = (rtM b μ men).1 ∧ μ2 96 62 = (rtM b μ men).2) := by
  have hC := Rcnt_C hR.1.1
  have ht := ec_tw (b := b) hf
  have hO := RefOK_men hR ht (fun x q => h3 x (by omega)) (fun g g0 g1 => by rw [hmen g g0 g1]; exact hin g g0 g1)
  have hW := sX10_weighs _ b _ hO d hd
  rw [ratF_same ht, ht (tw b + 1) (by simp [twL]), ratF_rtM (men := men) hR (fun x q => rowM_out q) (fun g g0 g1 => ⟨by rw [rowM_in g0 (by omega)]; exact hmen g g0 g1, (hin g g0 g1).1⟩)] at hW
  exact hW
/-- the best of the first orders, in the reference -/
def SxS (b : Bool) (μ μ' : Nat → Int → Int) (k : Nat) : Prop := Fg ecL ecJ μ μ' ∧ (∀ x, (x < 2 ∨ 2 + μ (tw b + 1) 2 ≤ x) → μ' 133 x = μ 133 x) ∧ ((k = 0 ∧ μ' 96 63 = -1) ∨ (∃ j, k = j + 1 ∧ μ' 96 63 = (bstM b μ j).1.1 ∧ μ' 96 64 = (bstM b μ j).1.2 ∧ ∀ g, 0 ≤ g → g < μ (tw b + 1) 2 → μ' 139 g = ordM b μ (bstM b μ j).2 g))
theorem eX10_stand_63 {d : Nat} (hd : 8 ≤ d) {b : Bool} {μ : Nat → Int → Int} (hR : R b μ) (h6 : μ (tw b + 1) 2 ≤ 6) (h140 : ∀ g, 0 ≤ g → g < μ (tw b + 1) 2 → μ 140 g = μ 74 (2 + g)) (p : Int) : ∀ (r k : Nat) (μ' : Nat → Int → Int), k + r = fct (μ (tw b + 1) 2).toNat → SxS b μ μ' k → Ev (fun n => mRun (mCallN d) kX10_stand n 63 [some (mP 96), some (mI p), some (mI (fct (μ (tw b + 1) 2).toNat)), some (mI k)] [] (SH, μ', RHO b)) b (fun v μ2 => Fg ecL ecJ μ μ2 ∧ (∀ x, μ2 133 x = if 2 ≤ x ∧ x < 2 + μ (tw b + 1) 2 then μ 140 (x - 2) else μ 133 x) ∧ v = stV b μ p) := by
  have hCn := hR.1.1
  obtain ⟨⟨z1, z2, z3⟩, ⟨w1, w2, w3⟩, ⟨y1, y2, y3⟩, ⟨x1, x2, x3⟩⟩ := hCn
  have hfc := fct_le (n := (μ (tw b + 1) 2).toNat) (by omega)
  have hfp := fct_pos (μ (tw b + 1) 2).toNat
  have hN : (((μ (tw b + 1) 2).toNat : Nat) : Int) = μ (tw b + 1) 2 := by omega
  obtain ⟨-, o2, o3, o4, o5, o6, o7, o8, o9, o10, o11⟩ := hR.2.1.2
  intro r
  induction r with
  | zero =>
    intro k μ' hk hS
    obtain ⟨hf, h3, hb⟩ := hS
    rcases hb with ⟨e, -⟩ | ⟨j, hj, s1, s2, s3⟩
    · omega
    · have k7 : μ' 120 7 = μ (tw b + 1) 2 := by rw [hf.1 120 (by decide) (by decide)]; exact y1
      refine ev_row (fun n => tX10_stand_63 _ n b μ' _ _ _) (ev_neg (by omega) (ev_callP (sX10_takesBack b μ' y2 y3 k7 d (by omega)) (fun _ μ2 ⟨f2, h2⟩ => ?_)))
      have hf2 : Fg ecL ecJ μ μ2 := fg_tr hf (fg_fr f2 (by decide)) (fun a ha => by
        have : a = 133 := by simpa using ha
        rw [this]; decide) (fun a ha => ha)
      have h133 : ∀ x, μ2 133 x = if 2 ≤ x ∧ x < 2 + μ (tw b + 1) 2 then μ 140 (x - 2) else μ 133 x := fun x => by
        rw [h2 x, hf.1 140 (by decide) (by decide)]
        by_cases e : 2 ≤ x ∧ x < 2 + μ (tw b + 1) 2
        · rw [if_pos e, if_pos e]
        · rw [if_neg e, if_neg e]; exact h3 x (by omega)
      have k7' : μ2 120 7 = μ (tw b + 1) 2 := by rw [f2 120 (by decide)]; exact k7
      refine ev_callP (sX10_standTold p b μ2 y2 y3 k7' d (by omega)) (fun v3 μ3 ⟨e3, h4⟩ => ?_)
      subst e3
      refine ev_ret ⟨hf2, h133, ?_⟩
      have hjj : j = fct (μ (tw b + 1) 2).toNat - 1 := by omega
      rw [hjj, ← bstM_end] at s1 s2 s3
      unfold stV
      rw [h4, f2 96 (by decide), f2 139 (by decide), s1, s2, if_neg (show ¬ (6 < μ (tw b + 1) 2) by omega)]
      by_cases e1 : p = -1
      · rw [if_pos e1, if_pos e1]
      · rw [if_neg e1, if_neg e1]
        by_cases e2 : p = 20
        · rw [if_pos e2, if_pos e2]
        · rw [if_neg e2, if_neg e2]
          by_cases e3 : 0 ≤ p ∧ p < μ (tw b + 1) 2
          · rw [if_pos e3, if_pos e3, s3 p e3.1 e3.2]
          · rw [if_neg e3, if_neg e3]
  | succ r ih =>
    intro k μ' hk hS
    obtain ⟨hf, h3, hb⟩ := hS
    have k7 : μ' 120 7 = ((μ (tw b + 1) 2).toNat : Nat) := by rw [hf.1 120 (by decide) (by decide), hN]; exact y1
    have k140 : μ' 140 = μ 140 := hf.1 140 (by decide) (by decide)
    have hsb := sX10_standsBy (gm := μ (tw b + 10)) (G := (μ (tw b + 1) 2).toNat) k b μ' k7 (by omega) (by omega) (fun g g0 g1 => by
      rw [k140, h140 g g0 (by omega)]
      have := o2 g g0 (by omega)
      omega) (fun m m0 m1 => by
      rw [isAt_iff, k140]
      have hoo := o4 m
      constructor
      · rintro ⟨g, g0, g1, g2⟩
        obtain ⟨q, q0, q1, q2⟩ := hoo.1 ⟨g, g0, by omega, by rw [← h140 g g0 (by omega)]; exact g2⟩
        exact ⟨q, q0, by omega, q2⟩
      · rintro ⟨g, g0, g1, g2⟩
        obtain ⟨q, q0, q1, q2⟩ := hoo.2 ⟨g, g0, by omega, g2⟩
        exact ⟨q, q0, by omega, by rw [h140 q q0 q1]; exact q2⟩) (men_len hR) d (by omega)
    refine ev_row (fun n => tX10_stand_63 _ n b μ' _ _ _) (ev_pos (by omega) (ev_callP hsb (fun _ μ1 ⟨f1, o1, m1⟩ => ?_)))
    have hf1 : Fg ecL ecJ μ μ1 := fg_tr hf (fg_fr f1 (by decide)) (fun a ha => by
      have : a = 133 := by simpa using ha
      rw [this]; decide) (fun a ha => ha)
    have h31 : ∀ x, (x < 2 ∨ 2 + μ (tw b + 1) 2 ≤ x) → μ1 133 x = μ 133 x := fun x hx => by rw [o1 x (by omega)]; exact h3 x hx
    have hm1 : ∀ g, 0 ≤ g → g < μ (tw b + 1) 2 → μ1 133 (2 + g) = ordM b μ k g := fun g g0 g1 => m1 g g0 (by omega)
    have hkk : k < fct (μ (tw b + 1) 2).toNat := by omega
    refine ev_callP (weigh_ord (by omega) hR hf1 h31 hm1 (ordM_in hR hkk)) (fun _ μ2 ⟨f2', a1, a2⟩ => ?_)
    have f2 : Fg wgL wgJ μ1 μ2 := f2'
    have hf2 : Fg ecL ecJ μ μ2 := fg_tr hf1 f2 (by decide) (by decide)
    have k133 : μ2 133 = μ1 133 := f2.1 133 (by decide) (by decide)
    have k63 : μ2 96 63 = μ' 96 63 := by rw [f2.2 63 (by decide), f1 96 (by decide)]
    have k64 : μ2 96 64 = μ' 96 64 := by rw [f2.2 64 (by decide), f1 96 (by decide)]
    have k139 : μ2 139 = μ' 139 := by rw [f2.1 139 (by decide) (by decide), f1 139 (by decide)]
    have hin := rtM_in hR (ordM b μ k)
    have hgo : ∀ μ5 : Nat → Int → Int, SxS b μ μ5 (k + 1) → Ev (fun n => mRun (mCallN d) kX10_stand n 88 [some (mP 96), some (mI p), some (mI (fct (μ (tw b + 1) 2).toNat)), some (mI k)] [] (SH, μ5, RHO b)) b (fun v μ2 => Fg ecL ecJ μ μ2 ∧ (∀ x, μ2 133 x = if 2 ≤ x ∧ x < 2 + μ (tw b + 1) 2 then μ 140 (x - 2) else μ 133 x) ∧ v = stV b μ p) := fun μ5 h5 => by
      refine ev_row (fun n => tX10_stand_88 _ n b μ5 _ _ _) ?_
      rw [show w32 ((k : Int) + 1) = ((k + 1 : Nat) : Int) from by rw [w32_id (by omega) (by omega)]; rfl]
      exact ih (k + 1) μ5 (by omega) h5
    refine ev_callP (sX10_isBetter b μ2 d (by omega)) (fun v3 μ3 ⟨e3, h4⟩ => ?_)
    subst e3
    rw [a1, a2, k63, k64] at h4
    rcases h4 with ⟨e, h4⟩ | ⟨e, h4⟩
    · have k7' : μ3 120 7 = μ (tw b + 1) 2 := by rw [hf2.1 120 (by decide) (by decide)]; exact y1
      refine ev_neg (by show ¬ v3 = 0; omega) (ev_callP (sX10_isBest b μ3 y2 y3 k7' d (by omega)) (fun _ μ4 ⟨f4, b1, b2, b3⟩ => hgo μ4 ⟨fg_tr hf2 f4 (by decide) (by decide), fun x hx => ?_, Or.inr ⟨k, rfl, ?_⟩⟩))
      · rw [f4.1 133 (by decide) (by decide), k133]; exact h31 x hx
      · have hbs : bstM b μ k = (rtM b μ (ordM b μ k), k) := by
          rcases hb with ⟨e0, -⟩ | ⟨j, hj, s1, s2, -⟩
          · rw [e0]; exact bstM_0 b μ
          · subst hj
            rw [s1, s2] at h4
            rw [bstM_succ, if_pos h4]
        rw [hbs]
        refine ⟨by rw [b1]; exact a1, by rw [b2]; exact a2, fun g g0 g1 => ?_⟩
        rw [b3 g g0 g1, k133]; exact hm1 g g0 g1
    · refine ev_pos (show v3 = 0 from e) (hgo μ3 ⟨hf2, fun x hx => by rw [k133]; exact h31 x hx, Or.inr ⟨k, rfl, ?_⟩⟩)
      rcases hb with ⟨e0, e1⟩ | ⟨j, hj, s1, s2, s3⟩
      · rw [e1] at h4
        exact absurd (Or.inl (by omega)) h4
      · subst hj
        rw [s1, s2] at h4
        rw [bstM_succ, if_neg h4]
        exact ⟨by rw [k63]; exact s1, by rw [k64]; exact s2, fun g g0 g1 => by rw [k139]; exact s3 g g0 g1⟩
theorem sX10_stand (p : Int) (b : Bool) (μ : Nat → Int → Int) (hR : R b μ) : ∀ d, 9 ≤ d → Cal d 114 [mP 96, mI p] b μ (fun v μ' => R b μ' ∧ v = stV b μ p) := deepC fun d hd => by
  have hCn := hR.1.1
  obtain ⟨⟨z1, z2, z3⟩, ⟨w1, w2, w3⟩, ⟨y1, y2, y3⟩, ⟨x1, x2, x3⟩⟩ := hCn
  have hI := sX10_isGate p b μ (by omega) (by omega) d (by omega)
  rw [y1] at hI
  have none' : stV b μ p = -1 → Ev (fun n => mRun (mCallN d) kX10_stand n 28 [some (mP 96), some (mI p), none, none] [] (SH, μ, RHO b)) b (fun v μ' => R b μ' ∧ v = stV b μ p) := fun h => ev_row (fun n => tX10_stand_28 _ n b μ p) (ev_ret ⟨hR, h.symm⟩)
  have main : μ (tw b + 1) 2 ≤ 6 → Ev (fun n => mRun (mCallN d) kX10_stand n 30 [some (mP 96), some (mI p), none, none] [] (SH, μ, RHO b)) b (fun v μ' => R b μ' ∧ v = stV b μ p) := fun h6 => by
    have lpW : ∀ (r j : Nat), 1 ≤ j → j + r = max (μ (tw b + 1) 2).toNat 1 → Ev (fun n => mRun (mCallN d) kX10_stand n 34 [some (mP 96), some (mI p), some (mI (fct j)), some (mI ((j : Int) + 1))] [] (SH, μ, RHO b)) b (fun v μ' => R b μ' ∧ v = stV b μ p) := by
      intro r
      induction r with
      | zero =>
        intro j j1 hj
        have e : fct j = fct (μ (tw b + 1) 2).toNat := by rw [show j = max (μ (tw b + 1) 2).toNat 1 by omega]; exact fct_max _
        refine ev_row (fun n => tX10_stand_34 _ n b μ _ _ _) (ev_call (sX10_gateMany b μ d (by omega)) (ev_pos (by show μ 120 7 < (j : Int) + 1; rw [y1]; omega) (ev_callP (sX10_putsAside b μ y2 y3 y1 d (by omega)) (fun _ μa ⟨fa, ha⟩ => ?_))))
        have hsa : Fg scR scJ μ μa := fg_sc (fg_fr (J := []) fa (by decide)) (sub_R (by decide)) (sub_J (by decide))
        have hRa := R_ref hsa hR
        have kta := scR_tw (b := b) hsa
        have k1a := kta (tw b + 1) (by simp [twL])
        have k74a : μa 74 = μ 74 := fa 74 (by decide)
        have k133a : μa 133 = μ 133 := fa 133 (by decide)
        have hL := eX10_stand_63 (by omega : 8 ≤ d) hRa (by rw [k1a]; exact h6) (fun g g0 g1 => by
          rw [k1a] at g1
          rw [ha g g0 g1, k74a]; exact hR.2.1.1.1 (2 + g) (by omega) (by omega)) p (fct (μa (tw b + 1) 2).toNat) 0 (m2 μa 96 63 (-1)) (by omega) ⟨fg_m96 fg_rfl (by decide), fun x _ => by rw [m2_ne (by decide)], Or.inl ⟨rfl, by rw [m2_at, if_pos rfl]⟩⟩
        rw [k1a, ← e] at hL
        refine ev_mono hL (fun v μ2 ⟨g1, g2, g3⟩ => ⟨R_ref (μ := μ) ⟨fun a ha' h9 => ?_, fun j hj => ?_⟩ hR, ?_⟩)
        · by_cases e : a = 133
          · subst e
            funext x
            rw [g2 x, k133a]
            by_cases c : 2 ≤ x ∧ x < 2 + μ (tw b + 1) 2
            · rw [if_pos c, ha (x - 2) (by omega) (by omega), show 2 + (x - 2) = x by omega]
            · rw [if_neg c]
          · rw [g1.1 a (fun h => ?_) h9, fa a (fun h => ha' ?_)]
            · have : a = 140 := by simpa using h
              rw [this]; decide
            · unfold ecL at h
              simp only [List.mem_cons, List.not_mem_nil, or_false] at h
              unfold scR at ha'
              simp only [List.mem_cons, List.not_mem_nil, or_false] at ha'
              omega
        · rw [g1.2 j (fun h => hj ?_), fa 96 (by decide)]
          unfold ecJ at h
          unfold scJ
          simp only [List.mem_cons, List.not_mem_nil, or_false] at h ⊢
          omega
        · rw [g3]
          unfold stV
          rw [stdR_same kta k74a, ordM_same kta, k1a]
      | succ r ih =>
        intro j j1 hj
        have hfj := fct_le (n := j + 1) (by omega)
        refine ev_row (fun n => tX10_stand_34 _ n b μ _ _ _) (ev_call (sX10_gateMany b μ d (by omega)) (ev_neg (by show ¬ (μ 120 7 < (j : Int) + 1); rw [y1]; omega) ?_))
        rw [fct_mul, w32_id (by omega) (by omega), show w32 ((j : Int) + 1 + 1) = ((j + 1 : Nat) : Int) + 1 from by rw [w32_id (by omega) (by omega)]; rfl]
        exact ih (j + 1) (by omega) (by omega)
    exact ev_row (fun n => tX10_stand_30 _ n b μ p) (lpW (max (μ (tw b + 1) 2).toNat 1 - 1) 1 (by omega) (by omega))
  refine cal_ev (fun r => call_X10_stand d b μ p) (ev_row (fun n => tX10_stand_0 _ n b μ p) (ev_call (sX10_gateMany b μ d (by omega)) ?_))
  refine ev_br (fun e => none' ?_) (fun e6 => ?_)
  · have e' : 6 < μ 120 7 := e
    unfold stV
    rw [if_pos (by omega)]
  · have e6' : ¬ 6 < μ 120 7 := e6
    rw [y1] at e6'
    refine ev_br (fun e => main (by omega)) (fun n1 => ev_br (fun e => main (by omega)) (fun n2 => ev_call hI ?_))
    by_cases c : 0 ≤ p ∧ p < μ (tw b + 1) 2
    · exact ev_neg (by show ¬ t01 (0 ≤ p ∧ p < μ (tw b + 1) 2) = 0; rw [t01_pos c]; decide) (main (by omega))
    · refine ev_pos (show t01 (0 ≤ p ∧ p < μ (tw b + 1) 2) = 0 from t01_neg c) (none' ?_)
      unfold stV
      rw [if_neg e6', if_neg n1, if_neg n2, if_neg c]
theorem p_stand {b : Bool} {μ : Nat → Int → Int} (p : Int) (hR : R b μ) : ∀ d, 9 ≤ d → PairA d b μ 251 114 [mI p] := fun d hd => by
  obtain ⟨v, μ1, g1, hR1, hf, hv⟩ := sX9_stand p b μ hR d (by omega)
  obtain ⟨v', μ2, f1, hR2, hv'⟩ := sX10_stand p b μ1 hR1 d hd
  have ne : ∀ a : Nat, ¬ ((24 ≤ a ∧ a ≤ 29) ∨ (31 ≤ a ∧ a ≤ 43) ∨ (44 ≤ a ∧ a ≤ 49) ∨ a = 75) → μ1 a = μ a := fun a ha => hf a (fun hm => by
    rcases List.mem_append.1 hm with q | q
    · unfold scC at q
      simp only [List.mem_cons, List.not_mem_nil, or_false] at q; omega
    · simp only [List.mem_cons, List.not_mem_nil, or_false] at q; omega)
  have ht : ∀ a, a ∈ twL b → μ1 a = μ a := fun a ha => ne a (by have := twL_or ha; have := tw_or b; omega)
  have e : v' = v := by
    rw [hv, hv']
    unfold stV
    rw [stdR_same ht (ne 74 (by omega)), ordM_same ht, ht (tw b + 1) (by simp [twL])]
  rw [e] at f1
  exact ⟨v, μ1, μ2, g1, f1, hR2⟩
