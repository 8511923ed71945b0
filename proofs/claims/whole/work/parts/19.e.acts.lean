theorem p_friend {b : Bool} {μ : Nat → Int → Int} (p m is : Int) (hR : R b μ) : ∀ d, 4 ≤ d → PairA d b μ 224 44 [mI p, mI m, mI is] := deep fun d hd => by
  obtain ⟨⟨c1, c2, c3⟩, ⟨n1, n2, n3⟩, -, -⟩ := hR.2.2.1
  have hcn := hR.1.1
  have hC := Rcnt_C hcn
  obtain ⟨-, ⟨hm1, hm2, hm3⟩, -, ⟨hp1, hp2, hp3⟩⟩ := hcn
  have hP := sX9_isPerson p b μ d (by omega)
  have hP' := sX10_isPerson p b μ (by omega) (by omega) d (by omega)
  have hM := sX9_isMan m b μ d (by omega)
  have hM' := sX10_isMan m b μ (by omega) (by omega) d (by omega)
  have n0 : ¬ ((1 : Int) = 0) := by decide
  by_cases e1 : 0 ≤ p ∧ p < μ (tw b + 1) 3
  · rw [t01_pos e1] at hP
    rw [t01_pos (by omega)] at hP'
    by_cases e2 : 0 ≤ m ∧ m < μ (tw b + 1) 1
    · rw [t01_pos e2] at hM
      rw [t01_pos (by omega)] at hM'
      have hA := sX7_areFriends 74 p m b μ rfl e1.1 (by omega) d (by omega)
      have hA' := sX10_areFriends p m b μ e1.1 (by omega) d (by omega)
      have r3 := (hR.2.1.1.2 p e1.1 (by omega)).2.2.2
      rw [r3] at hA'
      by_cases e3 : t01 (iAnd (iShr (μ 74 (56 + p)) m) 1 = 1) = is
      · refine ⟨0, μ, μ, call_X9_friend d b μ p m is ⟨2, ?_⟩, call_X10_friend d b μ p m is ⟨2, ?_⟩, hR⟩
        · rw [tX9_friend_0, hP, mOptR_some, mBr_neg n0, hM, mOptR_some, mBr_neg n0, hA, mOptR_some, mBr_pos e3, tX9_friend_29]
        · rw [tX10_friend_0, hP', mOptR_some, mBr_neg n0, hM', mOptR_some, mBr_neg n0, hA', mOptR_some, mBr_pos e3, tX10_friend_26]
      · have k74 : muBegin μ 74 = μ 74 := muBegin_ne (by decide) (by decide) (by decide) (by decide) n2 n3
        have w1 : w32 (56 + p) = 56 + p := w32_id (by omega) (by omega)
        have w2 : w32 (4 * p) = 4 * p := w32_id (by omega) (by omega)
        have w3 : w32 (38 + 4 * p) = 38 + 4 * p := w32_id (by omega) (by omega)
        have w4 : w32 (38 + 4 * p + 3) = 38 + 4 * p + 3 := w32_id (by omega) (by omega)
        have h1 : mCallN (d + 1) 224 (mP 0 :: [mI p, mI m, mI is]) (SH, μ, RHO b) = some (1, SH, m2 (muBegin μ) 74 (56 + p) (iXor (μ 74 (56 + p)) (iShl 1 m)), RHO b) := by
          refine call_X9_friend d b μ p m is ⟨2, ?_⟩
          rw [tX9_friend_0, hP, mOptR_some, mBr_neg n0, hM, mOptR_some, mBr_neg n0, hA, mOptR_some, mBr_neg e3, sX9_beginAct b μ n2 n3 c2 c3 d hd, mOptR_some, w1, if_pos (by omega), if_pos (by omega)]
          dsimp only
          rw [k74]
        have hb := fun a (ha : a ≠ 74) => (m2_ne ha : m2 (muBegin μ) 74 (56 + p) (iXor (μ 74 (56 + p)) (iShl 1 m)) a = muBegin μ a)
        have hp74 : m2 (muBegin μ) 74 (56 + p) (iXor (μ 74 (56 + p)) (iShl 1 m)) 74 = uPd (μ 74) (56 + p) (iXor (μ 74 (56 + p)) (iShl 1 m)) := by rw [m2_uPd, k74]
        generalize m2 (muBegin μ) 74 (56 + p) (iXor (μ 74 (56 + p)) (iShl 1 m)) = μ1 at h1 hb hp74
        obtain ⟨⟨k96, k133, kt⟩, q1, q2⟩ := act_pre hR (fun a a1 _ => hb a a1)
        have k120 : μ1 120 = μ 120 := kt 120 (by simp [twL])
        have hP1 := sX10_isPerson p b μ1 (by rw [k120]; omega) (by rw [k120]; omega) d (by omega)
        rw [k120, t01_pos (by omega)] at hP1
        have hM1 := sX10_isMan m b μ1 (by rw [k120]; omega) (by rw [k120]; omega) d (by omega)
        rw [k120, t01_pos (by omega)] at hM1
        have hA1 := sX10_areFriends p m b μ1 e1.1 (by omega) d (by omega)
        rw [k133, r3] at hA1
        have km : muKeeps μ1 133 = μ 133 := by rw [muKeeps_ne (by decide) (by decide), k133]
        have h2 : mCallN (d + 1) 44 (mP 96 :: [mI p, mI m, mI is]) (SH, μ1, RHO b) = some (1, SH, m2 (muKeeps μ1) 133 (38 + 4 * p + 3) (iXor (μ 74 (56 + p)) (iShl 1 m)), RHO b) := by
          refine call_X10_friend d b μ1 p m is ⟨2, ?_⟩
          rw [tX10_friend_0, hP1, mOptR_some, mBr_neg n0, hM1, mOptR_some, mBr_neg n0, hA1, mOptR_some, mBr_neg e3, sX10_keeps' b μ1 q1.1 q1.2 q2.1 q2.2 d (by omega), mOptR_some, w2, w3, w4, if_pos (by omega), if_pos (by omega)]
          dsimp only
          rw [km, r3]
        refine ⟨1, μ1, _, h1, h2, R_act' hR hb (fun a ha => m2_ne ha) ?_ ?_⟩
        · obtain ⟨z1, z2⟩ := hR.2.1.1
          rw [hp74, m2_uPd, km]
          refine ⟨fun i i0 i1 => ?_, fun x x0 x1 => ?_⟩
          · rw [uPd_ne (by omega), uPd_ne (by omega)]; exact z1 i i0 i1
          · obtain ⟨y1, y2, y3, y4⟩ := z2 x x0 x1
            refine ⟨?_, ?_, ?_, ?_⟩
            · rw [uPd_ne (by omega), uPd_ne (by omega)]; exact y1
            · rw [uPd_ne (by omega), uPd_ne (by omega)]; exact y2
            · rw [uPd_ne (by omega), uPd_ne (by omega)]; exact y3
            · rw [uPd_at, uPd_at]
              by_cases e : x = p
              · rw [if_pos (by omega), if_pos (by omega)]
              · rw [if_neg (by omega), if_neg (by omega)]; exact y4
        · have hr := hR.2.1.2
          obtain ⟨⟨a1, a2, a3, a4⟩, o2, o3, o4, o5, o6, o7, o8, o9, o10, o11⟩ := hR.2.1.2
          have b4 := a4 p e1.1 (by omega)
          have b8 := (o8 p e1.1 e1.2).2.2
          have hpm : (2 : Nat) ^ m.toNat < 2 ^ (μ (tw b + 1) 1).toNat := Nat.pow_lt_pow_right (by decide) (by omega)
          have hp12 : (2 : Nat) ^ (μ (tw b + 1) 1).toNat ≤ 2 ^ 12 := Nat.pow_le_pow_right (by decide) (by omega)
          have hx : iXor (μ 74 (56 + p)) (iShl 1 m) = (((μ 74 (56 + p)).toNat ^^^ (2 ^ m.toNat) : Nat) : Int) := by
            rw [iShl_1 e2.1 (by omega), iXor_n b4.1 (by omega) (Int.natCast_nonneg _) (by omega)]
            rfl
          have hlt : (μ 74 (56 + p)).toNat ^^^ (2 ^ m.toNat) < 2 ^ (μ (tw b + 1) 1).toNat := Nat.xor_lt_two_pow (by omega) hpm
          have hk : ∀ i, i ≠ 56 + p → μ1 74 i = μ 74 i := fun i hi => by rw [hp74, uPd_ne hi]
          have hv : μ1 74 (56 + p) = iXor (μ 74 (56 + p)) (iShl 1 m) := by rw [hp74, uPd_same]
          refine rowOK_mod hC hr ⟨?_, ?_, fun x x0 x1 => ?_, fun x x0 x1 => ?_⟩ (fun i i0 i1 => hk i (by omega)) (fun i i0 i1 => hk i (by omega)) (fun x x0 x1 => ?_) (fun x x0 x1 => ?_) (fun x x0 x1 => ?_)
          · rw [hk _ (by omega)]; exact a1
          · rw [hk _ (by omega)]; exact a2
          · rw [hk _ (by omega)]; exact a3 x x0 x1
          · by_cases e : x = p
            · rw [e, hv, hx]; omega
            · rw [hk _ (by omega)]; exact a4 x x0 x1
          · rw [hk _ (by omega)]; exact (o7 x x0 x1).1
          · by_cases e : x = p
            · rw [e, hv, hx]; exact Int.ofNat_lt.mpr hlt
            · rw [hk _ (by omega)]; exact (o8 x x0 x1).2.2
          · rw [hk _ (by omega)]; exact (o10 x x0 x1).2.2.2
    · rw [t01_neg e2] at hM
      rw [t01_neg (by omega)] at hM'
      refine ⟨0, μ, μ, call_X9_friend d b μ p m is ⟨2, ?_⟩, call_X10_friend d b μ p m is ⟨2, ?_⟩, hR⟩
      · rw [tX9_friend_0, hP, mOptR_some, mBr_neg n0, hM, mOptR_some, mBr_pos rfl, tX9_friend_29]
      · rw [tX10_friend_0, hP', mOptR_some, mBr_neg n0, hM', mOptR_some, mBr_pos rfl, tX10_friend_26]
  · rw [t01_neg e1] at hP
    rw [t01_neg (by omega)] at hP'
    refine ⟨0, μ, μ, call_X9_friend d b μ p m is ⟨2, ?_⟩, call_X10_friend d b μ p m is ⟨2, ?_⟩, hR⟩
    · rw [tX9_friend_0, hP, mOptR_some, mBr_pos rfl, tX9_friend_29]
    · rw [tX10_friend_0, hP', mOptR_some, mBr_pos rfl, tX10_friend_26]
theorem Rrow_exch {f g f' g' : Int → Int} {i j : Int} (hr : Rrow f g) (hi0 : 0 ≤ i) (hi1 : i < 12) (hj0 : 0 ≤ j) (hj1 : j < 12) (h : ∀ x, f' x = if x = 2 + j then f (2 + i) else if x = 2 + i then f (2 + j) else f x) (h2 : ∀ x, g' x = if x = 2 + j then g (2 + i) else if x = 2 + i then g (2 + j) else g x) : Rrow f' g' := by
  obtain ⟨r1, r2⟩ := hr
  refine ⟨fun x x0 x1 => ?_, fun p p0 p1 => ?_⟩
  · rw [h x, h2 x, r1 (2 + i) (by omega) (by omega), r1 (2 + j) (by omega) (by omega), r1 x x0 x1]
  · rw [h _, h _, h _, h _, h2 _, h2 _, h2 _, h2 _]
    rw [if_neg (by omega), if_neg (by omega), if_neg (by omega), if_neg (by omega), if_neg (by omega), if_neg (by omega), if_neg (by omega), if_neg (by omega), if_neg (by omega), if_neg (by omega), if_neg (by omega), if_neg (by omega), if_neg (by omega), if_neg (by omega), if_neg (by omega), if_neg (by omega)]
    exact r2 p p0 p1
theorem p_swap {b : Bool} {μ : Nat → Int → Int} (p q : Int) (hR : R b μ) : ∀ d, 4 ≤ d → PairA d b μ 253 120 [mI p, mI q] := deep fun d hd => by
  obtain ⟨⟨c1, c2, c3⟩, ⟨n1, n2, n3⟩, -, -⟩ := hR.2.2.1
  have hcn := hR.1.1
  have hC := Rcnt_C hcn
  obtain ⟨-, -, ⟨hm1, hm2, hm3⟩, -⟩ := hcn
  have hP := sX9_isGate p b μ d (by omega)
  have hP' := sX10_isGate p b μ (by omega) (by omega) d (by omega)
  have hM := sX9_isGate q b μ d (by omega)
  have hM' := sX10_isGate q b μ (by omega) (by omega) d (by omega)
  have n0 : ¬ ((1 : Int) = 0) := by decide
  by_cases e1 : 0 ≤ p ∧ p < μ (tw b + 1) 2
  · rw [t01_pos e1] at hP
    rw [t01_pos (by omega)] at hP'
    by_cases e2 : 0 ≤ q ∧ q < μ (tw b + 1) 2
    · rw [t01_pos e2] at hM
      rw [t01_pos (by omega)] at hM'
      by_cases e3 : p = q
      · refine ⟨0, μ, μ, call_X9_swap d b μ p q ⟨2, ?_⟩, call_X10_swap d b μ p q ⟨2, ?_⟩, hR⟩
        · rw [tX9_swap_0, hP, mOptR_some, mBr_neg n0, hM, mOptR_some, mBr_neg n0, mBr_pos e3, tX9_swap_21]
        · rw [tX10_swap_0, hP', mOptR_some, mBr_neg n0, hM', mOptR_some, mBr_neg n0, mBr_pos e3, tX10_swap_21]
      · have k74 : muBegin μ 74 = μ 74 := muBegin_ne (by decide) (by decide) (by decide) (by decide) n2 n3
        have w1 : w32 (2 + p) = 2 + p := w32_id (by omega) (by omega)
        have w2 : w32 (2 + q) = 2 + q := w32_id (by omega) (by omega)
        have hE : mCallN d 216 [mP 74, mI (2 + p), mI (2 + q)] (SH, muBegin μ, RHO b) = some (0, SH, m2 (m2 (muBegin μ) 74 (2 + p) (muBegin μ 74 (2 + q))) 74 (2 + q) (muBegin μ 74 (2 + p)), RHO b) := sX9_exchangeIn 74 62 (2 + p) (2 + q) b (muBegin μ) rfl (by omega) (by omega) (by omega) (by omega) d (by omega)
        have h1 : mCallN (d + 1) 253 (mP 0 :: [mI p, mI q]) (SH, μ, RHO b) = some (1, SH, m2 (m2 (muBegin μ) 74 (2 + p) (muBegin μ 74 (2 + q))) 74 (2 + q) (muBegin μ 74 (2 + p)), RHO b) := by
          refine call_X9_swap d b μ p q ⟨2, ?_⟩
          rw [tX9_swap_0, hP, mOptR_some, mBr_neg n0, hM, mOptR_some, mBr_neg n0, mBr_neg e3, sX9_beginAct b μ n2 n3 c2 c3 d hd, mOptR_some, w1, w2]
          dsimp only
          rw [hE, mOptR_some]
        have hb := fun a (ha : a ≠ 74) => (by rw [m2_ne ha, m2_ne ha] : m2 (m2 (muBegin μ) 74 (2 + p) (muBegin μ 74 (2 + q))) 74 (2 + q) (muBegin μ 74 (2 + p)) a = muBegin μ a)
        have hp74 : ∀ x, m2 (m2 (muBegin μ) 74 (2 + p) (muBegin μ 74 (2 + q))) 74 (2 + q) (muBegin μ 74 (2 + p)) 74 x = if x = 2 + q then μ 74 (2 + p) else if x = 2 + p then μ 74 (2 + q) else μ 74 x := fun x => by rw [m2_at, m2_at, k74]
        generalize m2 (m2 (muBegin μ) 74 (2 + p) (muBegin μ 74 (2 + q))) 74 (2 + q) (muBegin μ 74 (2 + p)) = μ1 at h1 hb hp74
        obtain ⟨⟨k96, k133, kt⟩, q1, q2⟩ := act_pre hR (fun a a1 _ => hb a a1)
        have k120 : μ1 120 = μ 120 := kt 120 (by simp [twL])
        have hP1 := sX10_isGate p b μ1 (by rw [k120]; omega) (by rw [k120]; omega) d (by omega)
        rw [k120, t01_pos (by omega)] at hP1
        have hM1 := sX10_isGate q b μ1 (by rw [k120]; omega) (by rw [k120]; omega) d (by omega)
        rw [k120, t01_pos (by omega)] at hM1
        have km : muKeeps μ1 133 = μ 133 := by rw [muKeeps_ne (by decide) (by decide), k133]
        have h2 : mCallN (d + 1) 120 (mP 96 :: [mI p, mI q]) (SH, μ1, RHO b) = some (1, SH, m2 (m2 (muKeeps μ1) 133 (2 + p) (muKeeps μ1 133 (2 + q))) 133 (2 + q) (muKeeps μ1 133 (2 + p)), RHO b) := by
          refine call_X10_swap d b μ1 p q ⟨2, ?_⟩
          rw [tX10_swap_0, hP1, mOptR_some, mBr_neg n0, hM1, mOptR_some, mBr_neg n0, mBr_neg e3, sX10_keeps' b μ1 q1.1 q1.2 q2.1 q2.2 d (by omega), mOptR_some]
          dsimp only
          rw [sX10_changes p q b (muKeeps μ1) (by omega) (by omega) (by omega) (by omega) d (by omega), mOptR_some]
        refine ⟨1, μ1, _, h1, h2, R_act' hR hb (fun a ha => by rw [m2_ne ha, m2_ne ha]) ?_ ?_⟩
        · exact Rrow_exch hR.2.1.1 (i := p) (j := q) (by omega) (by omega) (by omega) (by omega) hp74 (fun x => by rw [m2_at, m2_at, km])
        · exact rowOK_exch hC hR.2.1.2 e1.1 e1.2 e2.1 e2.2 hp74
    · rw [t01_neg e2] at hM
      rw [t01_neg (by omega)] at hM'
      refine ⟨0, μ, μ, call_X9_swap d b μ p q ⟨2, ?_⟩, call_X10_swap d b μ p q ⟨2, ?_⟩, hR⟩
      · rw [tX9_swap_0, hP, mOptR_some, mBr_neg n0, hM, mOptR_some, mBr_pos rfl, tX9_swap_21]
      · rw [tX10_swap_0, hP', mOptR_some, mBr_neg n0, hM', mOptR_some, mBr_pos rfl, tX10_swap_21]
  · rw [t01_neg e1] at hP
    rw [t01_neg (by omega)] at hP'
    refine ⟨0, μ, μ, call_X9_swap d b μ p q ⟨2, ?_⟩, call_X10_swap d b μ p q ⟨2, ?_⟩, hR⟩
    · rw [tX9_swap_0, hP, mOptR_some, mBr_pos rfl, tX9_swap_21]
    · rw [tX10_swap_0, hP', mOptR_some, mBr_pos rfl, tX10_swap_21]
