def goC (b : Bool) (μ : Nat → Int → Int) (p : Int) : Prop := farW b μ p (μ 74 (38 + p)) ≠ 268435456 ∧ farW b μ p (μ 74 (38 + p)) / 16 ≤ μ 74 (50 + p)
theorem c_go {b : Bool} {μ : Nat → Int → Int} (p : Int) (hR : R b μ) (p0 : 0 ≤ p) (p1 : p < μ (tw b + 1) 3) : ∀ d, 8 ≤ d → Cal d 229 [mP 0, mI p] b μ (fun v μ1 => (¬ goC b μ p ∧ v = -1 ∧ Fr scC μ μ1) ∨ (goC b μ p ∧ v = farW b μ p (μ 74 (38 + p)) / 16 ∧ ∃ μa, Fr scC μ μa ∧ (∀ a, a ≠ 74 → μ1 a = muBegin μa a) ∧ ∀ x, μ1 74 x = rowG b μ p x)) := deepC fun d hd => by
  obtain ⟨h1, h2, h3, h4⟩ := R_place hR p0 p1
  have hCn := hR.1.1
  have hC := Rcnt_C hCn
  obtain ⟨-, ⟨w1, w2, w3⟩, -, -⟩ := hCn
  have hP := sX9_isPerson p b μ d (by omega)
  rw [t01_pos ⟨p0, p1⟩] at hP
  have e50 : w32 (50 + p) = 50 + p := w32_id (by omega) (by omega)
  refine cal_ev (fun r => call_X9_go d b μ p) (ev_row (fun n => tX9_go_0 _ n b μ p) (ev_call hP (ev_neg (by show ¬ ((1 : Int) = 0); decide) (ev_callP (sX9_findWay p b μ hR p0 p1 d (by omega)) (fun v μa ⟨hfa, hw, hv⟩ => ?_)))))
  have hfa' := fr_sc hfa (sub_C (by decide))
  have hRa := R_cls hfa' hR
  have k74 : μa 74 = μ 74 := hfa 74 (by decide)
  have no : ¬ goC b μ p → Ev (fun n => mRun (mCallN d) kX9_go n 34 [some (mP 0), some (mI p), some (mI v), none] [] (SH, μa, RHO b)) b (fun v μ1 => (¬ goC b μ p ∧ v = -1 ∧ Fr scC μ μ1) ∨ (goC b μ p ∧ v = farW b μ p (μ 74 (38 + p)) / 16 ∧ ∃ μa, Fr scC μ μa ∧ (∀ a, a ≠ 74 → μ1 a = muBegin μa a) ∧ ∀ x, μ1 74 x = rowG b μ p x)) := fun h => ev_row (fun n => tX9_go_34 _ n b μa p v) (ev_ret (Or.inl ⟨h, rfl, hfa'⟩))
  rcases hv with ⟨q1, q2⟩ | ⟨q1, q2, q3, q4⟩
  · exact ev_pos (show v = -1 from q2) (no (fun h => h.1 q1))
  · obtain ⟨a1, a2, a3, a4, a5, a6⟩ := R_wayok p hR p0 p1 q1
    refine ev_neg (by show ¬ v = -1; omega) (ev_if (by show 0 ≤ w32 (50 + p) ∧ w32 (50 + p) < 62; rw [e50]; omega) (ev_br (fun c => no (fun h => ?_)) (fun c => ?_)))
    · have c' : μa 74 (w32 (50 + p)) < v := c
      rw [k74, e50] at c'
      have := h.2; omega
    · have c' : ¬ μa 74 (w32 (50 + p)) < v := c
      rw [k74, e50] at c'
      have hgo : goC b μ p := ⟨q1, by omega⟩
      obtain ⟨⟨c1, c2, c3⟩, ⟨n1, n2, n3⟩, -, -⟩ := hRa.2.2.1
      refine ev_call (sX9_beginAct b μa n2 n3 c2 c3 d (by omega)) ?_
      have kb : ∀ a, a ≠ 44 → a ≠ 46 → a ≠ 50 → (a < 52 ∨ 72 ≤ a) → muBegin μa a = μa a := fun a x1 x2 x3 x4 => muBegin_ne x1 x2 x3 x4 n2 n3
      obtain ⟨hA, o2, o3, o4, o5, o6, o7, o8, o9, o10, o11⟩ := hR.2.1.2
      have hcoin := R_coins hR p p0 (by omega)
      have hlen : (wayP b μ p (farW b μ p (μ 74 (38 + p)) % 16).toNat).length = (farW b μ p (μ 74 (38 + p)) % 16).toNat := by unfold wayP; rw [wayL_len]
      refine eX9_go (d := d) (by omega) (c := wP b μ p) (f0 := μ 74) (C := μ (tw b + 1)) (μ0 := muBegin μa) (N := farW b μ p (μ 74 (38 + p)) % 16) (L0 := wayP b μ p (farW b μ p (μ 74 (38 + p)) % 16).toNat) p0 h4 w3 (by rw [kb 26 (by decide) (by decide) (by decide) (by decide)]; exact q3) a4 (fun m m0 m1 => by have := R_purse hR m m0 m1; omega) (by omega) (fun μ' f' hf' hi' hx' hp' => ?_) (wayP b μ p (farW b μ p (μ 74 (38 + p)) % 16).toNat) 0 0 (μ 74) (muBegin μa) (by decide) (by rw [hlen]; omega) (fun j hj => ?_) (fun g hg => ⟨o2 g (a1 g hg).1 (a1 g hg).2, by have := a1 g hg; omega, wP_in b μ p g, ?_⟩) fr_rfl (gInvR_0 hA o6 o7) (fun m _ _ => by omega) (by omega) (fun x => ?_) rfl (by omega)
      · have e1 : w32 (38 + p) = 38 + p := w32_id (by omega) (by omega)
        have e2 : w32 (44 + p) = 44 + p := w32_id (by omega) (by omega)
        rw [e1, e2]
        refine ev_if (by omega) (ev_if (by omega) (ev_if (by omega) (ev_if (by omega) (ev_ret (Or.inr ⟨hgo, q2, μa, hfa', fun a ha => ?_, fun x => ?_⟩)))))
        · rw [m2_ne ha, m2_ne ha]; exact hf' a (by simpa using ha)
        · have y38 : μ' 74 (38 + p) = μ 74 (38 + p) := by rw [hx', if_neg (by omega)]; exact hi'.2.1 _ (by omega)
          have y44 : μ' 74 (44 + p) = μ 74 (44 + p) := by rw [hx', if_neg (by omega)]; exact hi'.2.1 _ (by omega)
          rw [m2_at, m2_at, y38, y44]
          unfold rowG
          by_cases z1 : x = 44 + p
          · rw [if_pos z1, if_pos z1]
          · rw [if_neg z1, if_neg z1]
            by_cases z2 : x = 38 + p
            · rw [if_pos z2, if_pos z2]
            · rw [if_neg z2, if_neg z2, hx' x]
              by_cases z3 : x = 50 + p
              · rw [if_pos z3, if_pos z3, a2]
              · rw [if_neg z3, if_neg z3, hp']
      · rw [hlen] at hj
        rw [kb 29 (by decide) (by decide) (by decide) (by decide), Int.zero_add]
        exact q4 j (by omega)
      · rw [kb 27 (by decide) (by decide) (by decide) (by decide), hw g (a1 g hg).1 (a1 g hg).2]; rfl
      · rw [kb 74 (by decide) (by decide) (by decide) (by decide), k74]
        split
        · rename_i e; rw [e]; omega
        · rfl
/-- finding, told by the class's reckoning -/
theorem RL_farW {b : Bool} {μ : Nat → Int → Int} {p : Int} (hR : R b μ) (p0 : 0 ≤ p) (p1 : p < μ (tw b + 1) 3) {cost F K G : Int → Int} (hw : ∀ g, 0 ≤ g → g < μ (tw b + 1) 2 → cost g = wP b μ p g) (hD : Dist (μ (tw b + 8)) (μ (tw b + 9)) (wr cost (-1)) (μ (tw b + 1) 2).toNat 10 268435456 (μ 74 (44 + p)) F) (hL : RL K G F) : RL K G (farW b μ p) := by
  obtain ⟨h1, h2, h3, h4⟩ := R_place hR p0 p1
  have hC := Rcnt_C hR.1.1
  have hgok := R_gok hR p
  have hcc : ∀ g, 0 ≤ g → g < (((μ (tw b + 1) 2).toNat : Nat) : Int) → 0 ≤ wP b μ p g ∧ wP b μ p g ≤ 99 := fun g _ _ => wP_in b μ p g
  refine RL_congr hL (fun x x0 x1 => ?_)
  have hD' : Dist (μ (tw b + 8)) (μ (tw b + 9)) (w16 (wP b μ p)) (μ (tw b + 1) 2).toNat 10 268435456 (μ 74 (44 + p)) F := by
    have hwr : ∀ g, 0 ≤ g → g < (((μ (tw b + 1) 2).toNat : Nat) : Int) → wr cost (-1) g = w16 (wP b μ p) g := fun g g0 g1 => by unfold wr w16; rw [if_neg (by omega), hw g g0 (by omega)]
    refine ⟨hD.1, fun v v0 v1 => ?_, fun g g0 g1 gw => ?_⟩
    · obtain ⟨c1, c2, c3⟩ := hD.2.1 v v0 v1
      exact ⟨c1, c2, c3.imp id (fun ⟨h, d1, d2⟩ => ⟨h, d1, Wk_mono (fun g g0 g1 _ => (hwr g g0 g1).symm) h v _ d2⟩)⟩
    · have := hD.2.2 g g0 g1 (by rw [hwr g g0 g1]; exact gw)
      rw [hwr g g0 g1] at this
      exact this
  exact Dist_uniq (w16_ok hgok hcc) h2.1 (by omega) (by decide : (0 : Int) ≤ 100000) (by decide) (fun g g0 g1 => by have := hcc g g0 g1; unfold w16; omega) (R_farW hR p0 p1) hD' x0 x1
/-- the reference goes, on a memory whose class cells may have gone on -/
theorem m_go {b : Bool} {μ : Nat → Int → Int} (p : Int) (hR : R b μ) (p0 : 0 ≤ p) (p1 : p < μ (tw b + 1) 3) {μ1 : Nat → Int → Int} (ht : ∀ a, a ∈ twL b → μ1 a = μ a) (hr : ∀ a, 96 ≤ a → μ1 a = μ a) : ∀ d, 8 ≤ d → Cal d 50 [mP 96, mI p] b μ1 (fun v μ2 => (¬ goC b μ p ∧ v = -1 ∧ Fg scR scJ μ1 μ2) ∨ (goC b μ p ∧ v = farW b μ p (μ 74 (38 + p)) / 16 ∧ ∃ μd, Fg scR scJ μ1 μd ∧ (∀ a, a ≠ 133 → μ2 a = muKeeps μd a) ∧ ∀ x, μ2 133 x = if x = 38 + 4 * p + 2 then μ 133 (38 + 4 * p + 2) - farW b μ p (μ 74 (38 + p)) / 16 else if x = 38 + 4 * p + 1 then μ 74 (38 + p) else if x = 38 + 4 * p then μ 74 (44 + p) else psL (wP b μ p) (wayP b μ p (farW b μ p (μ 74 (38 + p)) % 16).toNat) (μ 133) x)) := deepC fun d hd => by
  obtain ⟨h1, h2, h3, h4⟩ := R_place hR p0 p1
  have hCn := hR.1.1
  have hC := Rcnt_C hCn
  obtain ⟨-, ⟨w1, w2, w3⟩, ⟨y1, y2, y3⟩, ⟨d1, d2, d3⟩⟩ := hCn
  obtain ⟨r0, r1, r2, r3⟩ := hR.2.1.1.2 p p0 h4
  have k120 : μ1 120 = μ 120 := hr 120 (by decide)
  have k1 := ht (tw b + 1) (by simp [twL])
  have hP := sX10_isPerson p b μ1 (by rw [k120]; omega) (by rw [k120]; omega) d (by omega)
  rw [k120, t01_pos (by omega)] at hP
  have hO : RefOK b μ1 (μ 74) := RefOK_same (fun a ha _ => ht a ha) (by rw [hr 133 (by decide)]; exact hR.2.1.1) (fun q q0 q1 => by rw [hr 134 (by decide)]; exact ((R_refOK hR).2.2.2.2.2.2.2 q q0 q1).1) (R_refOK hR)
  have hK := sX10_costs p (μ 74) b μ1 hO p0 (by rw [k1]; exact p1) d (by omega)
  rw [prc_same ht, k1, hr 134 (by decide), (hR.1.2.2.2.2.1 p p0 p1).1] at hK
  refine cal_ev (fun r => call_X10_go d b μ1 p) (ev_row (fun n => tX10_go_0 _ n b μ1 p) (ev_call hP (ev_neg (by show ¬ ((1 : Int) = 0); decide) (ev_callP hK (fun _ μc ⟨hfc, hw⟩ => ?_)))))
  have hw' : ∀ g, 0 ≤ g → g < μ (tw b + 1) 2 → μc 135 g = wP b μ p g := hw
  have hfc' := fg_sc hfc (sub_R (by decide)) (sub_J (by decide))
  have ktc : ∀ a, a ∈ twL b → μc a = μ a := fun a ha => by rw [scR_tw hfc' a ha]; exact ht a ha
  have k1c := ktc (tw b + 1) (by simp [twL])
  have hOc : RefOK b μc (μ 74) := RefOK_same (fun a ha _ => ktc a ha) (by rw [hfc.1 133 (by decide) (by decide), hr 133 (by decide)]; exact hR.2.1.1) (fun q q0 q1 => by rw [ktc 134 (by simp [twL])]; exact ((R_refOK hR).2.2.2.2.2.2.2 q q0 q1).1) (R_refOK hR)
  have hPay := sX10_canPay p (-1) (μ 74) b μc hOc p0 (by rw [k1c]; exact p1) (fun g g0 g1 => by rw [k1c] at g1; rw [hw' g g0 g1]; exact wP_in b μ p g) d (by omega)
  refine ev_callP hPay (fun v μd ⟨hfd, hv, F, hD, hL⟩ => ?_)
  have hfd' : Fg scR scJ μ1 μd := fg_tr hfc' (fg_fr (J := scJ) hfd (by decide)) (sub_R (by decide)) (fun a h => h)
  rw [ktc (tw b + 8) (by simp [twL]), ktc (tw b + 9) (by simp [twL]), k1c] at hD
  have hLW := RL_farW hR p0 p1 hw' hD hL
  have hKd := hLW (μ 74 (38 + p)) h1.1 (by omega)
  have hcoin := R_coins hR p p0 (by omega)
  have hwd : dstN b μc (wc (μc 135) (-1)) (μ 74 (38 + p)) (μ 74 (44 + p)) = dstN b μ (wP b μ p) (μ 74 (38 + p)) (μ 74 (44 + p)) := by
    rw [dstN_same ktc]
    exact dstN_congr (fun g g0 g1 => by unfold wc; rw [if_neg (by omega), hw' g g0 g1]) _ _
  have hgoE : v = t01 (farW b μ p (μ 74 (38 + p)) ≠ 268435456 ∧ farW b μ p (μ 74 (38 + p)) / 16 ≤ μ 74 (50 + p)) := by
    have hK2 := K_dst (s := μ 74 (38 + p)) (t := μ 74 (44 + p)) (wo := -1) (cost := μc 135) (Rgat_ok (w := μc 135) hR.1.1 hR.1.2.1 (fun g g0 g1 => by rw [hw' g g0 g1]; have := wP_in b μ p g; omega)) (fun g g0 g1 => by rw [hw' g g0 (by omega)]; exact wP_in b μ p g) h1.1 (by omega) h2.1 (by omega) hD hL
    have hLr := hL (μ 74 (38 + p)) h1.1 (by omega)
    rw [hv]
    refine t01_congr ?_
    have e : dst (μ (tw b + 8)) (μ (tw b + 9)) (wc (μc 135) (-1)) (μ (tw b + 1) 2).toNat (μ 74 (38 + p)) (μ 74 (44 + p)) = dstN b μc (wc (μc 135) (-1)) (μ 74 (38 + p)) (μ 74 (44 + p)) := by
      rw [dstN_same ktc]; rfl
    rw [e] at hK2
    constructor
    · intro q
      rcases hK2 with z | z
      · omega
      · omega
    · intro q
      rcases hK2 with z | z
      · omega
      · omega
  by_cases hgo : goC b μ p
  · rw [t01_pos (show farW b μ p (μ 74 (38 + p)) ≠ 268435456 ∧ farW b μ p (μ 74 (38 + p)) / 16 ≤ μ 74 (50 + p) from hgo)] at hgoE
    obtain ⟨a1, a2, a3, a4, a5, a6⟩ := R_wayok p hR p0 p1 hgo.1
    obtain ⟨z1, z2, z3, z4, z5, z6⟩ := hKd.resolve_left (fun h => hgo.1 h.1)
    have k96 : ∀ j, j ≠ 50 → μd 96 j = μ 96 j := fun j hj => by rw [hfd 96 (by decide), hfc.2 j (by simpa using hj), hr 96 (by decide)]
    obtain ⟨⟨c1, c2, c3⟩, ⟨n1, n2, n3⟩, -, -⟩ := hR.2.2.1
    refine ev_neg (by show ¬ v = 0; omega) (ev_call (sX10_keeps' b μd (by rw [k96 59 (by decide)]; omega) (by rw [k96 59 (by decide)]; omega) (by rw [k96 58 (by decide)]; omega) (by rw [k96 58 (by decide)]; omega) d (by omega)) ?_)
    have kk : ∀ a, a ≠ 96 → a ≠ 138 → muKeeps μd a = μd a := fun a x1 x2 => muKeeps_ne x1 x2
    have k133 : muKeeps μd 133 = μ 133 := by rw [kk 133 (by decide) (by decide), hfd 133 (by decide), hfc.1 133 (by decide) (by decide), hr 133 (by decide)]
    have hP0 := sX10_personOf p 0 b (muKeeps μd) p0 h4 (by decide) (by decide) d (by omega)
    rw [k133, r0] at hP0
    refine ev_call hP0 (ev_if (by show 0 ≤ μ 74 (38 + p) ∧ μ 74 (38 + p) < 10; omega) ?_)
    have hall : muKeeps μd 136 (μ 74 (38 + p)) = farW b μ p (μ 74 (38 + p)) / 16 := by rw [kk 136 (by decide) (by decide)]; omega
    have hall' : (μ 74 (38 + p), SH, muKeeps μd, RHO b).2.2.1 136 (μ 74 (38 + p)) = farW b μ p (μ 74 (38 + p)) / 16 := hall
    rw [hall']
    obtain ⟨hA, o2, o3, o4, o5, o6, o7, o8, o9, o10, o11⟩ := hR.2.1.2
    have hrow := hR.2.1.1
    have gA : gInvR (μ (tw b + 1)) (μ 133) (μ 133) := ⟨fun _ _ => rfl, fun _ _ => rfl, fun m m0 m1 => by rw [hrow.1 (14 + m) (by omega) (by omega), hrow.1 (26 + m) (by omega) (by omega)]; exact ⟨hA.2.2.1 m m0 m1, o6 m m0 m1, by omega⟩, fun m m0 m1 => by rw [hrow.1 (14 + m) (by omega) (by omega), hrow.1 (26 + m) (by omega) (by omega)]; exact o7 m m0 m1⟩
    have hm : farW b μ p (μ 74 (38 + p)) % 16 = (((farW b μ p (μ 74 (38 + p)) % 16).toNat : Nat) : Int) := by omega
    refine ev_mono (eX10_go (d := d) (by omega) (fa := μ (tw b + 8)) (fb := μ (tw b + 9)) (cc := wP b μ p) (F := farW b μ p) (f0 := μ 133) (C := μ (tw b + 1)) (μ0 := muKeeps μd) (n := (μ (tw b + 1) 2).toNat) (goal := μ 74 (44 + p)) p0 h4 (R_gok hR p) (by omega) (fun g _ _ => wP_in b μ p g) (fun g g0 g1 => ?_) (by rw [kk 120 (by decide) (by decide), hfd 120 (by decide), hfc.1 120 (by decide) (by decide), k120]; omega) (by rw [kk 136 (by decide) (by decide), kk 137 (by decide) (by decide)]; exact hLW) h2.1 (by omega) (R_farW hR p0 p1) (fun g g0 g1 => by rw [hrow.1 (2 + g) (by omega) (by omega)]; exact o2 g g0 (by omega)) w3 (fun m m0 m1 => by rw [hrow.1 (26 + m) (by omega) (by omega)]; have := R_purse hR m m0 m1; omega) r1 (by rw [r2]; omega) (by omega) (farW b μ p (μ 74 (38 + p)) % 16).toNat (μ 74 (38 + p)) none none (μ 133) (muKeeps μd) (by omega) h1.1 (by omega) hgo.1 hm fr_rfl k133 gA (fun m m0 m1 => by omega)) (fun v' μ2 ⟨u1, u2, u3, u4⟩ => Or.inr ⟨hgo, u1, μd, hfd', fun a ha => u2 a (by simpa using ha), u4⟩)
    obtain ⟨⟨b1, b2, -⟩, -⟩ := hR.1.2.1 g g0 (by omega)
    rw [kk 124 (by decide) (by decide), kk 135 (by decide) (by decide), hfd 124 (by decide), hfd 135 (by decide), hfc.1 124 (by decide) (by decide), hr 124 (by decide)]
    exact ⟨b1, b2, hw' g g0 (by omega)⟩
  · rw [t01_neg (show ¬ (farW b μ p (μ 74 (38 + p)) ≠ 268435456 ∧ farW b μ p (μ 74 (38 + p)) / 16 ≤ μ 74 (50 + p)) from hgo)] at hgoE
    exact ev_pos (show v = 0 from hgoE) (ev_ret (Or.inl ⟨hgo, rfl, hfd'⟩))
theorem p_go {b : Bool} {μ : Nat → Int → Int} (p : Int) (hR : R b μ) : ∀ d, 8 ≤ d → PairA d b μ 229 50 [mI p] := fun d hd => by
  by_cases e1 : 0 ≤ p ∧ p < μ (tw b + 1) 3
  · obtain ⟨h1, h2, h3, h4⟩ := R_place hR e1.1 e1.2
    obtain ⟨v, μ1, g1, g2⟩ := c_go p hR e1.1 e1.2 d hd
    rcases g2 with ⟨n1, n2, n3⟩ | ⟨n1, n2, μa, n3, n4, n5⟩
    · obtain ⟨v', μ2, k1, k2⟩ := m_go p hR e1.1 e1.2 (μ1 := μ1) (scC_tw n3) (fun a ha => scC_ne n3 (by omega)) d hd
      rcases k2 with ⟨-, m2', m3⟩ | ⟨m1, -, -⟩
      · rw [m2', ← n2] at k1
        exact ⟨v, μ1, μ2, g1, k1, R_ref m3 (R_cls n3 hR)⟩
      · exact absurd m1 n1
    · have hRa := R_cls n3 hR
      obtain ⟨⟨c1, c2, c3⟩, ⟨i1, i2, i3⟩, -, -⟩ := hRa.2.2.1
      have kb : ∀ a, a ≠ 44 → a ≠ 46 → a ≠ 50 → (a < 52 ∨ 72 ≤ a) → muBegin μa a = μa a := fun a x1 x2 x3 x4 => muBegin_ne x1 x2 x3 x4 i2 i3
      have kr : ∀ a, 96 ≤ a → μ1 a = μ a := fun a ha => by rw [n4 a (by omega), kb a (by omega) (by omega) (by omega) (by omega), scC_ne n3 (by omega)]
      have kt : ∀ a, a ∈ twL b → μ1 a = μ a := fun a ha => by
        have := twL_or ha
        have := tw_or b
        rw [n4 a (by omega), kb a (by omega) (by omega) (by omega) (by omega)]; exact scC_tw n3 a ha
      obtain ⟨v', μ2, k1, k2⟩ := m_go p hR e1.1 e1.2 (μ1 := μ1) kt kr d hd
      rcases k2 with ⟨m1, -, -⟩ | ⟨-, m2', μd, m3, m4, m5⟩
      · exact absurd n1 m1
      · rw [m2', ← n2] at k1
        have hdc : ∀ a, a < 96 → μd a = μ1 a := fun a ha => scR_ne m3 (by omega) (by omega)
        have hFg : Fg scR scJ μa (fun a => if a < 96 then μa a else μd a) := by
          refine ⟨fun a ha h9 => ?_, fun j hj => ?_⟩
          · by_cases q : a < 96
            · show (if a < 96 then μa a else μd a) = μa a
              rw [if_pos q]
            · show (if a < 96 then μa a else μd a) = μa a
              rw [if_neg q, m3.1 a ha h9, kr a (by omega), scC_ne n3 (by omega)]
          · show (if 96 < 96 then μa 96 else μd 96) j = μa 96 j
            rw [if_neg (by decide), m3.2 j hj, kr 96 (by decide), scC_ne n3 (by decide)]
        have hRb := R_ref hFg hRa
        have hlow : ∀ a, a < 96 → (fun a => if a < 96 then μa a else μd a) a = μa a := fun a ha => if_pos ha
        have hhi : ∀ a, 96 ≤ a → (fun a => if a < 96 then μa a else μd a) a = μd a := fun a ha => if_neg (by omega)
        have hRt : ∀ a, a ∈ twL b → (fun a => if a < 96 then μa a else μd a) a = μa a := scR_tw (b := b) hFg
        generalize (fun a => if a < 96 then μa a else μd a) = μb at hRb hlow hhi hRt
        have hgoD := n1
        obtain ⟨a1, a2, a3, a4, a5, a6⟩ := R_wayok p hR e1.1 e1.2 n1.1
        have hrow := hR.2.1.1
        obtain ⟨hA, o2, o3, o4, o5, o6, o7, o8, o9, o10, o11⟩ := hR.2.1.2
        have hCn := hR.1.1
        have hC := Rcnt_C hCn
        obtain ⟨-, ⟨w1, w2, w3⟩, -, -⟩ := hCn
        have hl : ∀ x ∈ wayP b μ p (farW b μ p (μ 74 (38 + p)) % 16).toNat, (0 ≤ μ 74 (2 + x) ∧ μ 74 (2 + x) < μ (tw b + 1) 1) ∧ (0 ≤ x ∧ x < 12) := fun x hx => ⟨o2 x (a1 x hx).1 (a1 x hx).2, by have := a1 x hx; omega⟩
        refine ⟨v, μ1, μ2, g1, k1, R_act' (μ1 := μd) hRb (fun a ha => ?_) m4 ?_ ?_⟩
        · by_cases q : a < 96
          · rw [hdc a q, n4 a ha, muBegin_congr hlow q]
          · rw [muBegin_ne (by omega) (by omega) (by omega) (by omega) (by rw [hlow 50 (by decide)]; exact i2) (by rw [hlow 50 (by decide)]; exact i3), hhi a (by omega)]
        · rw [hdc 74 (by decide)]
          have hrel := psL_rel (c := wP b μ p) (C := μ (tw b + 1)) (f0 := μ 74) w3 (wayP b μ p (farW b μ p (μ 74 (38 + p)) % 16).toNat) (μ 74) (μ 133) hl (fun _ _ _ => rfl) (fun x x0 x1 => hrow.1 x x0 x1)
          have hhiC := psL_hi (c := wP b μ p) (C := μ (tw b + 1)) (f0 := μ 74) w3 (wayP b μ p (farW b μ p (μ 74 (38 + p)) % 16).toNat) (μ 74) hl (fun _ _ _ => rfl)
          have hhiM := psL_hi (c := wP b μ p) (C := μ (tw b + 1)) (f0 := μ 74) w3 (wayP b μ p (farW b μ p (μ 74 (38 + p)) % 16).toNat) (μ 133) hl (fun x x0 x1 => hrow.1 x x0 (by omega))
          refine ⟨fun x x0 x1 => ?_, fun q q0 q1 => ?_⟩
          · rw [m5 x, n5 x, if_neg (by omega), if_neg (by omega), if_neg (by omega)]
            unfold rowG
            rw [if_neg (by omega), if_neg (by omega), if_neg (by omega)]
            exact hrel x x0 x1
          · obtain ⟨r0, r1, r2, r3⟩ := hrow.2 q q0 q1
            rw [m5, m5, m5, m5, n5, n5, n5, n5]
            unfold rowG
            by_cases e : q = p
            · subst e
              refine ⟨?_, ?_, ?_, ?_⟩
              · rw [if_neg (by omega), if_neg (by omega), if_pos (by omega), if_neg (by omega), if_pos rfl]
              · rw [if_neg (by omega), if_pos rfl, if_pos rfl]
              · rw [if_pos rfl, if_neg (by omega), if_neg (by omega), if_pos rfl, r2]
              · rw [if_neg (by omega), if_neg (by omega), if_neg (by omega), if_neg (by omega), if_neg (by omega), if_neg (by omega), hhiM _ (by omega), hhiC _ (by omega)]; exact r3
            · refine ⟨?_, ?_, ?_, ?_⟩
              · rw [if_neg (by omega), if_neg (by omega), if_neg (by omega), if_neg (by omega), if_neg (by omega), if_neg (by omega), hhiM _ (by omega), hhiC _ (by omega)]; exact r0
              · rw [if_neg (by omega), if_neg (by omega), if_neg (by omega), if_neg (by omega), if_neg (by omega), if_neg (by omega), hhiM _ (by omega), hhiC _ (by omega)]; exact r1
              · rw [if_neg (by omega), if_neg (by omega), if_neg (by omega), if_neg (by omega), if_neg (by omega), if_neg (by omega), hhiM _ (by omega), hhiC _ (by omega)]; exact r2
              · rw [if_neg (by omega), if_neg (by omega), if_neg (by omega), if_neg (by omega), if_neg (by omega), if_neg (by omega), hhiM _ (by omega), hhiC _ (by omega)]; exact r3
        · have hG := R_rowG p hR e1.1 e1.2 n1.1 n1.2
          have h74 : μd 74 = rowG b μ p := by funext x; rw [hdc 74 (by decide)]; exact n5 x
          rw [h74]
          refine rowR_same (μ := μ) (fun a ha => ?_) hG
          rw [hRt a ha]; exact scC_tw n3 a ha
  · obtain ⟨d', rfl⟩ : ∃ d', d = d' + 1 := ⟨d - 1, by omega⟩
    have hcn := hR.1.1
    obtain ⟨-, -, -, ⟨d1, d2, d3⟩⟩ := hcn
    have hP := sX9_isPerson p b μ d' (by omega)
    rw [t01_neg e1] at hP
    have hP' := sX10_isPerson p b μ (by omega) (by omega) d' (by omega)
    rw [t01_neg (by omega)] at hP'
    refine ⟨-1, μ, μ, call_X9_go d' b μ p ⟨1, ?_⟩, call_X10_go d' b μ p ⟨1, ?_⟩, hR⟩
    · rw [tX9_go_0, hP, mOptR_some, mBr_pos rfl]
    · rw [tX10_go_0, hP', mOptR_some, mBr_pos rfl]
