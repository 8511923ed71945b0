theorem eX10_fire12 {d : Nat} (hd : 1 ≤ d) {b : Bool} {v1 : Int} {μ0 : Nat → Int → Int} {n : Nat} {Q : Int → (Nat → Int → Int) → Prop} (hn : n ≤ 12) (h7 : μ0 120 7 = n) (hK : ∀ μ', Fr [135] μ0 μ' → (∀ g, 0 ≤ g → g < (n : Int) → μ' 135 g = 0) → Ev (fun m => mOptR (mCallN d 39 [mP 96, mI v1, mI (-1)] (SH, μ', RHO b)) (fun x2 => mRun (mCallN d) kX10_fire m 41 [some (mP 96), some (mI v1), some (mI 0)] [] (SH, x2.2.2.1, RHO b))) b Q) : ∀ (k : Nat) (i : Int) (μ : Nat → Int → Int), 0 ≤ i → i + k = n → Fr [135] μ0 μ → (∀ g, 0 ≤ g → g < i → μ 135 g = 0) → Ev (fun m => mRun (mCallN d) kX10_fire m 12 [some (mP 96), some (mI v1), some (mI i)] [] (SH, μ, RHO b)) b Q := by
  intro k
  induction k with
  | zero =>
    intro i μ h0 hk hf hx
    refine ev_row (fun m => tX10_fire_12 _ m b μ v1 i) (ev_call (sX10_gateMany b μ d hd) (ev_neg (by show ¬ (i < μ 120 7); rw [hf 120 (by decide)]; omega) ?_))
    exact hK μ hf (fun g g0 g1 => hx g g0 (by omega))
  | succ k ih =>
    intro i μ h0 hk hf hx
    refine ev_row (fun m => tX10_fire_12 _ m b μ v1 i) (ev_call (sX10_gateMany b μ d hd) (ev_pos (by show i < μ 120 7; rw [hf 120 (by decide)]; omega) (ev_if (by omega) ?_)))
    dsimp only
    rw [w32_id (by omega) (by omega)]
    refine ih (i + 1) _ (by omega) (by omega) (fr_m2 hf (by decide)) (fun g g0 g1 => ?_)
    rw [m2_at]
    by_cases e : g = i
    · rw [if_pos e]
    · rw [if_neg e]; exact hx g g0 (by omega)
theorem eX10_fire41 {d : Nat} (hd : 1 ≤ d) {b : Bool} {v1 : Int} {f : Int → Int} {μ0 : Nat → Int → Int} {P : Nat} {Q : Int → (Nat → Int → Int) → Prop} (hP : P ≤ 6) (h6 : μ0 120 6 = P) (hrow : Rrow f (μ0 133)) (hK : ∀ μ', Fr [142] μ0 μ' → (∀ q, 0 ≤ q → q < (P : Int) → μ' 142 q = f (38 + q)) → Ev (fun m => mRun (mCallN d) kX10_fire m 69 [some (mP 96), some (mI v1), some (mI 0)] [] (SH, μ', RHO b)) b Q) : ∀ (k : Nat) (i : Int) (μ : Nat → Int → Int), 0 ≤ i → i + k = P → Fr [142] μ0 μ → (∀ q, 0 ≤ q → q < i → μ 142 q = f (38 + q)) → Ev (fun m => mRun (mCallN d) kX10_fire m 41 [some (mP 96), some (mI v1), some (mI i)] [] (SH, μ, RHO b)) b Q := by
  intro k
  induction k with
  | zero =>
    intro i μ h0 hk hf hx
    refine ev_row (fun m => tX10_fire_41 _ m b μ v1 i) (ev_call (sX10_personMany b μ d hd) (ev_neg (by show ¬ (i < μ 120 6); rw [hf 120 (by decide)]; omega) ?_))
    exact hK μ hf (fun g g0 g1 => hx g g0 (by omega))
  | succ k ih =>
    intro i μ h0 hk hf hx
    have hP0 := sX10_personOf i 0 b μ h0 (by omega) (by decide) (by decide) d hd
    rw [hf 133 (by decide), (hrow.2 i h0 (by omega)).1] at hP0
    refine ev_row (fun m => tX10_fire_41 _ m b μ v1 i) (ev_call (sX10_personMany b μ d hd) (ev_pos (by show i < μ 120 6; rw [hf 120 (by decide)]; omega) (ev_call hP0 (ev_if (by omega) ?_))))
    dsimp only
    rw [w32_id (by omega) (by omega)]
    refine ih (i + 1) _ (by omega) (by omega) (fr_m2 hf (by decide)) (fun g g0 g1 => ?_)
    rw [m2_at]
    by_cases e : g = i
    · rw [if_pos e, e]
    · rw [if_neg e]; exact hx g g0 (by omega)
theorem p_fire {b : Bool} {μ : Nat → Int → Int} (r : Int) (hR : R b μ) : ∀ d, 4 ≤ d → PairA d b μ 221 40 [mI r] := deep fun d hd => by
  refine pair_q (V := fun μ v => v = if 0 ≤ r ∧ r < μ (tw b + 1) 0 then fireP b μ r else -1) hR ?_ (fun μ1 hR1 => ?_) (fun μ1 v v' hf h1 h2 => ?_)
  · have hCn := hR.1.1
    have hC := Rcnt_C hCn
    obtain ⟨⟨z1, z2, z3⟩, -, -, -⟩ := hCn
    have hP := sX9_within r (μ (tw b + 1) 0) b μ d (by omega)
    refine cal_ev (fun r' => call_X9_fire d b μ r) (ev_row (fun m => tX9_fire_0 _ m b μ r) ?_)
    by_cases e1 : 0 ≤ r ∧ r < μ (tw b + 1) 0
    · rw [t01_pos e1] at hP
      have hF : mCallN d 1 [mP 27, mI 1] (SH, μ, RHO b) = some (0, SH, mFl μ 27 12 1, RHO b) := sJ7_fill 27 12 1 b μ rfl (by decide) d (by omega)
      have hfr1 : Fr [27] μ (mFl μ 27 12 1) := fun a ha => mFl_ne (by simpa using ha)
      have hR1 := R_cls (fr_sc hfr1 (sub_C (by decide))) hR
      have kt1 := scC_tw (b := b) (fr_sc hfr1 (sub_C (by decide)))
      have k11 := kt1 (tw b + 1) (by simp [twL])
      have hw1 : ∀ g, 0 ≤ g → g < μ (tw b + 1) 2 → mFl μ 27 12 1 27 g = 1 := fun g g0 g1 => by rw [mFl_at, if_pos (by omega)]
      have hM := R_meas hR1 r (fun g g0 g1 => by rw [k11] at g1; rw [hw1 g g0 g1]; decide) e1.1 (by omega) d (by omega)
      refine ev_call hP (ev_neg (by show ¬ ((1 : Int) = 0); decide) (ev_call hF (ev_callP hM (fun _ μ2 ⟨hf2, hL⟩ => ev_if (by decide) ?_))))
      have hf2' : Fr scC μ μ2 := fr_tr (fr_sc hfr1 (sub_C (by decide))) (fr_sc hf2 (sub_C (by decide))) (fun a h => h)
      have hf3' : Fr scC μ (mCp μ2 74 75 0 0 62) := fun a ha => by
        have : a ≠ 75 := fun e => ha (by rw [e]; decide)
        rw [mCp_ne this]; exact hf2' a ha
      have kt3 := scC_tw (b := b) hf3'
      have k13 := kt3 (tw b + 1) (by simp [twL])
      have hD : Dist (μ (tw b + 8)) (μ (tw b + 9)) (fun _ => 1) (μ (tw b + 1) 2).toNat 10 268435456 r (farF b μ r) := dst_dist (R_gok1 hR) e1.1 (by omega)
      have hpos : ∀ q, 0 ≤ q → q < (((μ (tw b + 1) 3).toNat : Nat) : Int) → 0 ≤ (fun p => μ 74 (38 + p)) q ∧ (fun p => μ 74 (38 + p)) q < 10 := fun q q0 q1 => by
        have := R_place hR q0 (by omega : q < μ (tw b + 1) 3)
        show 0 ≤ μ 74 (38 + q) ∧ μ 74 (38 + q) < 10
        omega
      have hle := mea_le (F := farF b μ r) (P := (μ (tw b + 1) 3).toNat) (by omega) (fun x x0 x1 => by
        by_cases q : farF b μ r x = 268435456
        · exact Or.inl q
        · exact Or.inr (by have := Dist_most hD (by decide) (by decide : (0 : Int) ≤ 1) (fun _ _ _ => Int.le_refl 1) x0 (by omega) q; omega)) hpos
      refine ev_mono (eX9_fire (d := d) hd (R_gok1 hR) (by omega) (by omega) hD (kt3 _ (by simp [twL])) (kt3 _ (by simp [twL])) (by rw [k13]; omega) (by rw [k13]; omega) (fun x x0 x1 => ?_) 1000 0 (fun p => μ 74 (38 + p)) (mCp μ2 74 75 0 0 62) (by decide) (by decide) hpos (by omega) fr_rfl (fun q q0 q1 => ?_)) (fun v μ' h => ⟨?_, ?_⟩)
      · rw [mCp_ne (by decide), hL x x0 x1, dstN_same kt1, dstN_congr (w := fun _ => 1) hw1]; rfl
      · rw [mCp_at, if_pos (by omega), hf2' 74 (by decide)]; congr 1; omega
      · exact fr_tr hf3' (fr_sc h.1 (sub_C (by decide))) (fun a h => h)
      · rw [if_pos e1]; exact h.2
    · rw [t01_neg e1] at hP
      exact ev_call hP (ev_pos rfl (ev_ret ⟨fr_rfl, by rw [if_neg e1]⟩))
  · have hCn := hR1.1.1
    have hC := Rcnt_C hCn
    obtain ⟨⟨z1, z2, z3⟩, -, ⟨y1, y2, y3⟩, ⟨d1, d2, d3⟩⟩ := hCn
    have hP := sX10_isRoom r b μ1 (by omega) (by omega) d (by omega)
    refine cal_ev (fun r' => call_X10_fire d b μ1 r) (ev_row (fun m => tX10_fire_0 _ m b μ1 r) ?_)
    by_cases e1 : 0 ≤ r ∧ r < μ1 (tw b + 1) 0
    · rw [t01_pos (by omega)] at hP
      refine ev_call hP (ev_neg (by show ¬ ((1 : Int) = 0); decide) ?_)
      refine eX10_fire12 (d := d) (by omega) (n := (μ1 (tw b + 1) 2).toNat) (by omega) (by omega) (fun μ2 hf2 hc2 => ?_) (μ1 (tw b + 1) 2).toNat 0 μ1 (by omega) (by omega) fr_rfl (fun g g0 g1 => absurd g0 (by omega))
      have hf2' : Fg scR scJ μ1 μ2 := fg_fr (fr_sub hf2 (sub_R (by decide))) (by decide)
      have kt2 := scR_tw (b := b) hf2'
      have hD : Dist (μ1 (tw b + 8)) (μ1 (tw b + 9)) (fun _ => 1) (μ1 (tw b + 1) 2).toNat 10 268435456 r (farF b μ1 r) := dst_dist (R_gok1 hR1) e1.1 (by omega)
      have hG : ∀ g, 0 ≤ g → g < (((μ1 (tw b + 1) 2).toNat : Nat) : Int) → μ1 124 (36 + 3 * g) = μ1 (tw b + 8) g ∧ μ1 124 (36 + 3 * g + 1) = μ1 (tw b + 9) g := fun g g0 g1 => by
        obtain ⟨⟨b1, b2, -⟩, -⟩ := hR1.1.2.1 g g0 (by omega)
        exact ⟨b1, b2⟩
      have hgo0 : gOk (μ1 (tw b + 8)) (μ1 (tw b + 9)) (fun _ => 0) (μ1 (tw b + 1) 2).toNat 10 := Rgat_ok (w := fun _ => 0) hR1.1.1 hR1.1.2.1 (fun g _ _ => by show (-1 : Int) ≤ 0; decide)
      refine ev_callP (sX10_finds r (-1) b μ2 (fa := μ1 (tw b + 8)) (fb := μ1 (tw b + 9)) (cost := fun _ => 0) (n := (μ1 (tw b + 1) 2).toNat) (fun g g0 g1 => by rw [hf2 124 (by decide)]; exact ⟨(hG g g0 g1).1, (hG g g0 g1).2, hc2 g g0 g1⟩) hgo0 (by omega) (by rw [hf2 120 (by decide)]; omega) (fun g _ _ => by show (0 : Int) ≤ 0 ∧ (0 : Int) ≤ 99; decide) e1.1 (by omega) d (by omega)) (fun _ μ3 ⟨hf3, F, hDF, hL⟩ => ?_)
      have hf3' : Fg scR scJ μ1 μ3 := fg_tr hf2' (fg_fr (J := scJ) hf3 (by decide)) (sub_R (by decide)) (fun a h => h)
      have hD2 : Dist (μ1 (tw b + 8)) (μ1 (tw b + 9)) (fun _ => 1) (μ1 (tw b + 1) 2).toNat 10 268435456 r F := by
        have hwr : ∀ g, 0 ≤ g → g < (((μ1 (tw b + 1) 2).toNat : Nat) : Int) → wr (fun _ => 0) (-1) g = 1 := fun g g0 g1 => by unfold wr; rw [if_neg (by omega)]; rfl
        refine ⟨hDF.1, fun v v0 v1 => ?_, fun g g0 g1 gw => ?_⟩
        · obtain ⟨c1, c2, c3⟩ := hDF.2.1 v v0 v1
          exact ⟨c1, c2, c3.imp id (fun ⟨h, d1, d2⟩ => ⟨h, d1, Wk_mono (fun g g0 g1 _ => (hwr g g0 g1).symm) h v _ d2⟩)⟩
        · have := hDF.2.2 g g0 g1 (by rw [hwr g g0 g1]; decide)
          rw [hwr g g0 g1] at this
          exact this
      have hFF : ∀ x, 0 ≤ x → x < 10 → F x = farF b μ1 r x := fun x x0 x1 => Dist_uniq (R_gok1 hR1) e1.1 (by omega) (by decide : (0 : Int) ≤ 1) (by decide) (fun _ _ _ => Int.le_refl 1) hD2 hD x0 x1
      have hsm : ∀ x, 0 ≤ x → x < 10 → F x = 268435456 ∨ F x ≤ 9 := fun x x0 x1 => by
        by_cases q : F x = 268435456
        · exact Or.inl q
        · exact Or.inr (by have := Dist_most hD2 (by decide) (by decide : (0 : Int) ≤ 1) (fun _ _ _ => Int.le_refl 1) x0 (by omega) q; omega)
      have hord : ∀ x y, 0 ≤ x → x < 10 → 0 ≤ y → y < 10 → (μ3 137 x < μ3 137 y ↔ farF b μ1 r x < farF b μ1 r y) := fun x y x0 x1 y0 y1 => by
        rw [← hFF x x0 x1, ← hFF y y0 y1]
        have a1 := hL x x0 x1
        have a2 := hL y y0 y1
        have a3 := hsm x x0 x1
        have a4 := hsm y y0 y1
        omega
      have hpos : ∀ q, 0 ≤ q → q < (((μ1 (tw b + 1) 3).toNat : Nat) : Int) → 0 ≤ (fun p => μ1 74 (38 + p)) q ∧ (fun p => μ1 74 (38 + p)) q < 10 := fun q q0 q1 => by
        have := R_place hR1 q0 (by omega : q < μ1 (tw b + 1) 3)
        show 0 ≤ μ1 74 (38 + q) ∧ μ1 74 (38 + q) < 10
        omega
      have hle := mea_le (F := farF b μ1 r) (P := (μ1 (tw b + 1) 3).toNat) (by omega) (fun x x0 x1 => by rw [← hFF x x0 x1]; exact hsm x x0 x1) hpos
      have k133 : μ3 133 = μ1 133 := scR_ne hf3' (by decide) (by decide)
      have k124 : μ3 124 = μ1 124 := scR_ne hf3' (by decide) (by decide)
      have k120 : μ3 120 = μ1 120 := scR_ne hf3' (by decide) (by decide)
      refine eX10_fire41 (d := d) (by omega) (f := μ1 74) (μ0 := μ3) (P := (μ1 (tw b + 1) 3).toNat) (by omega) (by rw [k120]; omega) (by rw [k133]; exact hR1.2.1.1) (fun μ4 hf4 hx4 => ?_) (μ1 (tw b + 1) 3).toNat 0 μ3 (by omega) (by omega) fr_rfl (fun q q0 q1 => absurd q0 (by omega))
      have hf4' : Fg scR scJ μ1 μ4 := fg_tr hf3' (fg_fr (J := scJ) hf4 (by decide)) (sub_R (by decide)) (fun a h => h)
      refine ev_mono (eX10_fire69 (d := d) hd (R_gok1 hR1) (by omega) (by omega) hD (by rw [hf4 124 (by decide), k124]; exact hG) (by rw [hf4 120 (by decide), k120]; omega) (by rw [hf4 120 (by decide), k120]; omega) (by rw [hf4 137 (by decide)]; exact hord) 1000 0 (fun p => μ1 74 (38 + p)) μ4 (by decide) (by decide) hpos (by omega) fr_rfl hx4) (fun v μ' h => ⟨?_, ?_⟩)
      · exact fg_tr hf4' (fg_fr (J := scJ) h.1 (by decide)) (sub_R (by decide)) (fun a h => h)
      · rw [if_pos e1]; exact h.2
    · rw [t01_neg (by omega)] at hP
      exact ev_call hP (ev_pos rfl (ev_ret ⟨fg_rfl, by rw [if_neg e1]⟩))
  · have kt := scC_tw (b := b) hf
    have k74 : μ1 74 = μ 74 := scC_ne hf (by decide)
    have hd : fireP b μ1 r = fireP b μ r := by
      unfold fireP farF
      rw [k74, kt (tw b + 1) (by simp [twL]), kt (tw b + 8) (by simp [twL]), kt (tw b + 9) (by simp [twL])]
      congr 1
      funext x
      rw [dstN_same kt]
    rw [h1, h2, hd, kt (tw b + 1) (by simp [twL])]
