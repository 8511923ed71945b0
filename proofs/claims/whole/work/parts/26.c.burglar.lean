/-! ===== burglar, the reference's half ===== -/
/-- the row with these friends -/
def rowF (μ : Nat → Int → Int) (p s : Int) : Int → Int := uPd (μ 74) (56 + p) s
theorem rowF_ne {μ : Nat → Int → Int} {p s x : Int} (h : x ≠ 56 + p) : rowF μ p s x = μ 74 x := uPd_ne h
theorem rowF_at {μ : Nat → Int → Int} {p s : Int} : rowF μ p s (56 + p) = s := uPd_same
def Bu (μ μ' : Nat → Int → Int) (p : Int) : Prop := Fg [131, 132, 133, 135] [50] μ μ' ∧ ∀ x, x ≠ 41 + 4 * p → μ' 133 x = μ 133 x
theorem Bu_tw {b : Bool} {μ μ' : Nat → Int → Int} {p : Int} (h : Bu μ μ' p) : ∀ a, a ∈ twL b → μ' a = μ a := fun a ha => h.1.1 a (fun hm => by
  simp only [List.mem_cons, List.not_mem_nil, or_false] at hm
  have := twL_or ha
  have := tw_or b
  omega) (by have := twL_or ha; have := tw_or b; omega)
theorem Bu_ref {b : Bool} {μ μ' : Nat → Int → Int} (hR : R b μ) {p s : Int} (p0 : 0 ≤ p) (p1 : p < 6) (s0 : 0 ≤ s) (s1 : s < 4096) (h : Bu μ μ' p) (h1 : μ' 133 (41 + 4 * p) = s) : RefOK b μ' (rowF μ p s) := by
  have ht := Bu_tw (b := b) h
  obtain ⟨q1, q2, q3, q4, q5, q6, q7, q8⟩ := R_refOK hR
  have hT := Rtw_same ht hR.1
  have k1 := ht (tw b + 1) (by simp [twL])
  have hC := Rcnt_C hR.1.1
  refine ⟨hT.1, hT.2.2.2.2.2.2.2, hT.2.2.2.1, hT.2.1, ⟨fun i i0 i1 => ?_, fun q q0 q1' => ⟨?_, ?_, ?_, ?_⟩⟩, ⟨?_, ?_, fun m m0 m1 => ?_, fun q q0 q1' => ?_⟩, fun g g0 g1 => ?_, fun q q0 q1' => ?_⟩
  · rw [h.2 i (by omega), rowF_ne (by omega)]; exact q5.1 i i0 i1
  · rw [h.2 _ (by omega), rowF_ne (by omega)]; exact (q5.2 q q0 q1').1
  · rw [h.2 _ (by omega), rowF_ne (by omega)]; exact (q5.2 q q0 q1').2.1
  · rw [h.2 _ (by omega), rowF_ne (by omega)]; exact (q5.2 q q0 q1').2.2.1
  · by_cases e : q = p
    · rw [e, show 38 + 4 * p + 3 = 41 + 4 * p by omega, h1, rowF_at]
    · rw [h.2 _ (by omega), rowF_ne (by omega)]; exact (q5.2 q q0 q1').2.2.2
  · rw [rowF_ne (by omega)]; exact q6.1
  · rw [rowF_ne (by omega)]; exact q6.2.1
  · rw [rowF_ne (by omega)]; exact q6.2.2.1 m m0 m1
  · by_cases e : q = p
    · rw [e, rowF_at]; exact ⟨s0, s1⟩
    · rw [rowF_ne (by omega)]; exact q6.2.2.2 q q0 q1'
  · rw [k1] at g1 ⊢
    rw [rowF_ne (by omega)]; exact q7 g g0 g1
  · rw [k1] at q1'
    rw [rowF_ne (by omega), rowF_ne (by omega), rowF_ne (by omega), ht 134 (by simp [twL])]; exact q8 q q0 q1'
theorem prc_fr {b : Bool} {μ : Nat → Int → Int} {p m t : Int} {k : Nat} (p0 : 0 ≤ p) (m0 : 0 ≤ m) (m1 : m < 12) (w0' : 0 ≤ μ 74 (56 + p)) (w1 : μ 74 (56 + p) < 4096) (hk : k < 4096) : prc b μ (rowF μ p (iOr (μ 74 (56 + p)) k)) m p t = if k.testBit m.toNat = true then 0 else prc b μ (μ 74) m p t := by
  have hb := (iOr_set w0' w1 (by omega : (0 : Int) ≤ (k : Int)) (by omega)).2 m
  have hbk : bI (k : Int) m = k.testBit m.toNat := by unfold bI; rw [Int.toNat_natCast]
  unfold prc
  rw [rowF_at, rowF_ne (by omega : 14 + m ≠ 56 + p), rowF_ne (by omega : (1 : Int) ≠ 56 + p), rowF_ne (by omega : (0 : Int) ≠ 56 + p), hb, hbk]
  by_cases e : k.testBit m.toNat = true
  · rw [if_pos e, e, Bool.or_true, if_pos (Or.inr rfl)]
  · rw [if_neg e, Bool.eq_false_iff.2 e, Bool.or_false]
theorem eX10_burglar_87 {d : Nat} (hd : 6 ≤ d) {b : Bool} {μ : Nat → Int → Int} (hR : R b μ) {p r w : Int} (p0 : 0 ≤ p) (p1 : p < μ (tw b + 1) 3) (r0 : 0 ≤ r) (r1 : r < μ (tw b + 1) 0) : ∀ (q k : Nat) (μ' : Nat → Int → Int), k + q = 2 ^ (μ (tw b + 1) 1).toNat → Bu μ μ' p → Ev (fun n => mRun (mCallN d) kX10_burglar n 87 [some (mP 96), some (mI p), some (mI r), some (mI w), some (mI (41 + 4 * p)), some (mI (μ 74 (56 + p))), some (mI (ofM b μ)), some (mI (bsS (feS b μ p r) k)), some (mI k)] [] (SH, μ', RHO b)) b (fun v μ2 => Fg scR scJ μ μ2 ∧ v = buA b μ p r w) := by
  have hC := hR.1.1
  obtain ⟨⟨z1, z2, z3⟩, ⟨w1, w2, w3⟩, ⟨y1, y2, y3⟩, ⟨x1, x2, x3⟩⟩ := hC
  obtain ⟨h1, h2, h3, h4⟩ := R_place hR p0 p1
  have hp12 : 2 ^ (μ (tw b + 1) 1).toNat ≤ 4096 := Nat.pow_le_pow_right (by decide : 0 < 2) (by omega : (μ (tw b + 1) 1).toNat ≤ 12)
  have hwas := (R_rowA hR).2.2.2 p p0 h4
  have hM : iShl 1 (μ (tw b + 1) 1) = ((2 ^ (μ (tw b + 1) 1).toNat : Nat) : Int) := iShl_1 w2 (by omega)
  have hrow := (hR.2.1.1.2 p p0 h4)
  generalize hN : 2 ^ (μ (tw b + 1) 1).toNat = N at *
  intro q
  induction q with
  | zero =>
    intro k μ' hk hB
    have k5 : μ' 120 5 = μ (tw b + 1) 1 := by rw [hB.1.1 120 (by decide) (by decide)]; exact w1
    have hBB : bsS (feS b μ p r) k = buB b μ p r := by unfold buB; rw [hN, show k = N by omega]
    refine ev_row (fun n => tX10_burglar_87 _ n b μ' _ _ _ _ _ _ _ _) (ev_call (sX10_manMany b μ' d (by omega)) ?_)
    dsimp only
    rw [k5, hM, hBB]
    refine ev_neg (by omega) (ev_if (by omega) ?_)
    have hfin : Fg scR scJ μ (m2 μ' 133 (41 + 4 * p) (μ 74 (56 + p))) := by
      refine ⟨fun a ha h9 => ?_, fun j hj => ?_⟩
      · by_cases e : a = 133
        · subst e
          funext x
          rw [m2_at]
          by_cases e2 : x = 41 + 4 * p
          · rw [if_pos e2, e2, ← hrow.2.2.2, show 38 + 4 * p + 3 = 41 + 4 * p by omega]
          · rw [if_neg e2]; exact hB.2 x e2
        · rw [m2_ne e]
          refine hB.1.1 a (fun h => ha ?_) h9
          simp only [List.mem_cons, List.not_mem_nil, or_false] at h
          unfold scR
          simp only [List.mem_cons, List.not_mem_nil, or_false]
          omega
      · rw [m2_ne (by decide)]
        refine hB.1.2 j (fun h => hj ?_)
        have : j = 50 := by simpa using h
        rw [this]; decide
    unfold buA
    refine ev_br (fun e => ev_row (fun n => tX10_burglar_216 _ n b _ _ _ _ _ _ _ _ _ _) (ev_ret ⟨hfin, by rw [if_pos e]⟩)) (fun e => ?_)
    rw [if_neg e]
    have hb0 : 0 ≤ buB b μ p r ∧ buB b μ p r < 4096 := by
      rcases bur_both hR p0 p1 r0 r1 with ⟨c1, -⟩ | ⟨c1, -⟩
      · exact absurd c1 e
      · exact c1
    refine ev_br (fun e2 => ev_call (sX10_bits _ b _ hb0.1 hb0.2 d (by omega)) (ev_row (fun n => tX10_burglar_216 _ n b _ _ _ _ _ _ _ _ _ _) (ev_ret ⟨hfin, ?_⟩))) (fun e2 => ev_row (fun n => tX10_burglar_216 _ n b _ _ _ _ _ _ _ _ _ _) (ev_ret ⟨hfin, ?_⟩))
    · rw [if_pos e2]; exact bc_pc hb0.1 hb0.2
    · rw [if_neg e2]
  | succ q ih =>
    intro k μ' hk hB
    have hkN : k < 4096 := by omega
    have k5 : μ' 120 5 = μ (tw b + 1) 1 := by rw [hB.1.1 120 (by decide) (by decide)]; exact w1
    have go : ∀ (v7 : Int) (μ5 : Nat → Int → Int), v7 = bsS (feS b μ p r) (k + 1) → Bu μ μ5 p → Ev (fun n => mRun (mCallN d) kX10_burglar n 177 [some (mP 96), some (mI p), some (mI r), some (mI w), some (mI (41 + 4 * p)), some (mI (μ 74 (56 + p))), some (mI (ofM b μ)), some (mI v7), some (mI k)] [] (SH, μ5, RHO b)) b (fun v μ2 => Fg scR scJ μ μ2 ∧ v = buA b μ p r w) := fun v7 μ5 h7 hB5 => by
      refine ev_row (fun n => tX10_burglar_177 _ n b μ5 _ _ _ _ _ _ _ _) ?_
      rw [show w32 ((k : Int) + 1) = ((k + 1 : Nat) : Int) from by rw [w32_id (by omega) (by omega)]; rfl, h7]
      exact ih (k + 1) μ5 (by omega) hB5
    have stay : ¬ (feS b μ p r k = true ∧ (bsS (feS b μ p r) k = -1 ∨ pc k < pc (bsS (feS b μ p r) k).toNat)) → bsS (feS b μ p r) k = bsS (feS b μ p r) (k + 1) := fun h => by
      show _ = if _ then _ else _
      rw [if_neg h]
    -- a trial
    have one : iAnd (k : Int) (iXor (ofM b μ) (-1)) = 0 → iAnd (k : Int) (μ 74 (56 + p)) = 0 → (bsS (feS b μ p r) k = -1 ∨ pc k < pc (bsS (feS b μ p r) k).toNat) → Ev (fun n => mRun (mCallN d) kX10_burglar n 138 [some (mP 96), some (mI p), some (mI r), some (mI w), some (mI (41 + 4 * p)), some (mI (μ 74 (56 + p))), some (mI (ofM b μ)), some (mI (bsS (feS b μ p r) k)), some (mI k)] [] (SH, μ', RHO b)) b (fun v μ2 => Fg scR scJ μ μ2 ∧ v = buA b μ p r w) := fun c1 c2 c3 => by
      obtain ⟨⟨o0, o1⟩, -⟩ := iOr_set hwas.1 hwas.2 (by omega : (0 : Int) ≤ (k : Int)) (by omega)
      have hBm : Bu μ (m2 μ' 133 (41 + 4 * p) (iOr (μ 74 (56 + p)) k)) p := ⟨fg_m2 hB.1 (by decide) (by decide), fun x hx => by rw [m2_at, if_neg hx]; exact hB.2 x hx⟩
      have hO := Bu_ref hR p0 h4 o0 o1 hBm (by rw [m2_at, if_pos rfl])
      have ht := Bu_tw (b := b) hBm
      have k1 := ht (tw b + 1) (by simp [twL])
      have hK := sX10_costs p _ b _ hO p0 (by rw [k1]; exact p1) d hd
      rw [prc_same ht, k1, ht 134 (by simp [twL])] at hK
      refine ev_row (fun n => tX10_burglar_138 _ n b μ' _ _ _ _ _ _ _ _) (ev_if (by omega) (ev_callP hK (fun _ μ1 ⟨f1, hw1⟩ => ?_)))
      have hB1 : Bu μ μ1 p := ⟨fg_tr hBm.1 f1 (by decide) (fun a ha => ha), fun x hx => by rw [f1.1 133 (by decide) (by decide)]; exact hBm.2 x hx⟩
      have h133 : μ1 133 (41 + 4 * p) = iOr (μ 74 (56 + p)) k := by rw [f1.1 133 (by decide) (by decide), m2_at, if_pos rfl]
      have hO1 := Bu_ref hR p0 h4 o0 o1 hB1 h133
      have ht1 := Bu_tw (b := b) hB1
      have k11 := ht1 (tw b + 1) (by simp [twL])
      have hP0 := sX10_personOf p 0 b μ1 p0 h4 (by decide) (by decide) d (by omega)
      rw [hB1.2 _ (by omega), hrow.1] at hP0
      have hw2 : ∀ g, 0 ≤ g → g < μ (tw b + 1) 2 → μ1 135 g = wS b μ p k g := fun g g0 g1 => by
        have hmm := hR.2.1.2.2.1 g g0 g1
        rw [hw1 g g0 g1, rowF_ne (by omega), (hR.1.2.2.2.2.1 p p0 p1).1, prc_fr p0 hmm.1 (by omega) hwas.1 hwas.2 hkN]
        rfl
      have hF := Ref_freely (μ 74 (38 + p)) hO1 (fun g g0 g1 => by
        rw [k11] at g1
        rw [hw1 g g0 g1]; exact prc_in _ _ _ _ _ _) h1.1 (by rw [k11]; exact h1.2) d (by omega)
      refine ev_call hP0 (ev_callP hF (fun v μ2 ⟨hμ, hv, hb⟩ => ?_))
      subst hμ
      have hpR : 2 ^ (μ (tw b + 1) 0).toNat ≤ 1024 := Nat.pow_le_pow_right (by decide : 0 < 2) (by omega : (μ (tw b + 1) 0).toNat ≤ 10)
      have hv1 : v < 1024 := by rw [k11] at hv; omega
      have hb' := hb r r0 (by rw [k11]; exact r1)
      rw [dstN_same ht1, dstN_congr hw2] at hb'
      have hfe : feS b μ p r k = true ↔ dstN b μ (wS b μ p k) (μ 74 (38 + p)) r = 0 := by
        unfold feS
        rw [decide_eq_true c1, decide_eq_true c2, Bool.true_and, Bool.true_and, decide_eq_true_eq]
      refine ev_br (fun e => ?_) (fun e => ?_)
      · have e' : bI v r = true := (bit_br hv.1 (by omega) r0 (by omega)).1 e
        refine go k μ2 ?_ hB1
        show _ = if _ then _ else _
        rw [if_pos ⟨hfe.2 (hb'.1 e'), c3⟩]
      · have e' : ¬ bI v r = true := fun h => e ((bit_br hv.1 (by omega) r0 (by omega)).2 h)
        exact go _ μ2 (stay (fun h => e' (hb'.2 (hfe.1 h.1)))) hB1
    refine ev_row (fun n => tX10_burglar_87 _ n b μ' _ _ _ _ _ _ _ _) (ev_call (sX10_manMany b μ' d (by omega)) ?_)
    dsimp only
    rw [k5, hM]
    refine ev_pos (by omega) (ev_br (fun c1 => ev_br (fun c2 => ev_br (fun c3 => one c1 c2 (Or.inl c3)) (fun c3 => ?_)) (fun c2 => ?_)) (fun c1 => ?_))
    · have hb0 : 0 ≤ bsS (feS b μ p r) k ∧ bsS (feS b μ p r) k < 4096 := by
        rcases bsS_ok (fe := feS b μ p r) k (by omega) with ⟨a1, -⟩ | ⟨a1, -⟩
        · exact absurd a1 c3
        · omega
      refine ev_call (sX10_bits _ b _ (by omega) (by omega) d (by omega)) (ev_call (sX10_bits _ b _ hb0.1 hb0.2 d (by omega)) ?_)
      dsimp only
      rw [bc_pc (by omega : (0 : Int) ≤ (k : Int)) (by omega), bc_pc hb0.1 hb0.2, Int.toNat_natCast]
      exact ev_br (fun c4 => one c1 c2 (Or.inr (by omega))) (fun c4 => go _ μ' (stay (fun h => h.2.elim c3 (fun q => c4 (by omega)))) hB)
    · refine go _ μ' (stay (fun h => c2 ?_)) hB
      have := h.1
      unfold feS at this
      rw [Bool.and_eq_true, Bool.and_eq_true, decide_eq_true_eq, decide_eq_true_eq, decide_eq_true_eq] at this
      exact this.2.1
    · refine go _ μ' (stay (fun h => c1 ?_)) hB
      have := h.1
      unfold feS at this
      rw [Bool.and_eq_true, Bool.and_eq_true, decide_eq_true_eq, decide_eq_true_eq, decide_eq_true_eq] at this
      exact this.1
theorem sX10_burglar (p r w : Int) (b : Bool) (μ : Nat → Int → Int) (hR : R b μ) : ∀ d, 7 ≤ d → Cal d 18 [mP 96, mI p, mI r, mI w] b μ (fun v μ' => Fg scR scJ μ μ' ∧ v = buV b μ p r w) := deepC fun d hd => by
  have hC := hR.1.1
  obtain ⟨⟨z1, z2, z3⟩, ⟨w1, w2, w3⟩, ⟨y1, y2, y3⟩, ⟨x1, x2, x3⟩⟩ := hC
  have hP := sX10_isPerson p b μ (by omega) (by omega) d (by omega)
  rw [x1] at hP
  have hRm := sX10_isRoom r b μ (by omega) (by omega) d (by omega)
  rw [z1] at hRm
  have hW := sX10_isIn w 0 1 b μ d (by omega)
  have no : ¬ ((0 ≤ p ∧ p < μ (tw b + 1) 3) ∧ (0 ≤ r ∧ r < μ (tw b + 1) 0) ∧ (0 ≤ w ∧ w < 2)) → Ev (fun n => mRun (mCallN d) kX10_burglar n 26 [some (mP 96), some (mI p), some (mI r), some (mI w), none, none, none, none, none] [] (SH, μ, RHO b)) b (fun v μ' => Fg scR scJ μ μ' ∧ v = buV b μ p r w) := fun h => ev_row (fun n => tX10_burglar_26 _ n b μ p r w) (ev_ret ⟨fg_rfl, by unfold buV; rw [if_neg h]⟩)
  refine cal_ev (fun r' => call_X10_burglar d b μ p r w) (ev_row (fun n => tX10_burglar_0 _ n b μ p r w) (ev_call hP ?_))
  by_cases e1 : 0 ≤ p ∧ p < μ (tw b + 1) 3
  · refine ev_neg (by show ¬ t01 (0 ≤ p ∧ p < μ (tw b + 1) 3) = 0; rw [t01_pos e1]; decide) (ev_call hRm ?_)
    by_cases e2 : 0 ≤ r ∧ r < μ (tw b + 1) 0
    · refine ev_neg (by show ¬ t01 (0 ≤ r ∧ r < μ (tw b + 1) 0) = 0; rw [t01_pos e2]; decide) (ev_call hW ?_)
      by_cases e3 : 0 ≤ w ∧ w < 2
      · obtain ⟨h1, h2, h3, h4⟩ := R_place hR e1.1 e1.2
        have hrow := (hR.2.1.1.2 p e1.1 h4)
        refine ev_neg (by show ¬ t01 (0 ≤ w ∧ w ≤ 1) = 0; rw [t01_pos (by omega)]; decide) ?_
        dsimp only
        rw [show w32 (w32 (38 + w32 (4 * p)) + 3) = 41 + 4 * p from by
          rw [w32_id (by omega : -2147483648 ≤ 4 * p) (by omega), w32_id (by omega : -2147483648 ≤ 38 + 4 * p) (by omega), w32_id (by omega) (by omega)]
          omega]
        have h41 : μ 133 (41 + 4 * p) = μ 74 (56 + p) := by rw [← hrow.2.2.2, show 38 + 4 * p + 3 = 41 + 4 * p by omega]
        refine ev_if (by omega) ?_
        rw [h41]
        have lp : ∀ (k : Nat) (i acc : Int), 0 ≤ i → i + k = μ (tw b + 1) 2 → orB (fun g => μ 74 (2 + g)) k i acc = ofM b μ → Ev (fun n => mRun (mCallN d) kX10_burglar n 53 [some (mP 96), some (mI p), some (mI r), some (mI w), some (mI (41 + 4 * p)), some (mI (μ 74 (56 + p))), some (mI acc), some (mI i), none] [] (SH, μ, RHO b)) b (fun v μ' => Fg scR scJ μ μ' ∧ v = buV b μ p r w) := by
          intro k
          induction k with
          | zero =>
            intro i acc i0 hk he
            have he' : acc = ofM b μ := he
            refine ev_row (fun n => tX10_burglar_53 _ n b μ _ _ _ _ _ _ _) (ev_call (sX10_gateMany b μ d (by omega)) (ev_neg (by show ¬ (i < μ 120 7); omega) ?_))
            rw [he']
            have := eX10_burglar_87 (by omega : 6 ≤ d) hR (w := w) e1.1 e1.2 e2.1 e2.2 (2 ^ (μ (tw b + 1) 1).toNat) 0 μ (by omega) ⟨fg_rfl, fun x _ => rfl⟩
            refine ev_mono this (fun v μ' h => ⟨h.1, ?_⟩)
            unfold buV
            rw [if_pos ⟨e1, e2, e3⟩]; exact h.2
          | succ k ih =>
            intro i acc i0 hk he
            refine ev_row (fun n => tX10_burglar_53 _ n b μ _ _ _ _ _ _ _) (ev_call (sX10_gateMany b μ d (by omega)) (ev_pos (by show i < μ 120 7; omega) (ev_call (sX10_manAt i b μ i0 (by omega) d (by omega)) ?_)))
            dsimp only
            rw [hR.2.1.1.1 (2 + i) (by omega) (by omega), w32_id (by omega) (by omega)]
            exact ih (i + 1) _ (by omega) (by omega) he
        exact lp (μ (tw b + 1) 2).toNat 0 0 (by decide) (by omega) rfl
      · exact ev_pos (show t01 (0 ≤ w ∧ w ≤ 1) = 0 from t01_neg (by omega)) (no (fun h => e3 h.2.2))
    · exact ev_pos (show t01 (0 ≤ r ∧ r < μ (tw b + 1) 0) = 0 from t01_neg e2) (no (fun h => e2 h.2.1))
  · exact ev_pos (show t01 (0 ≤ p ∧ p < μ (tw b + 1) 3) = 0 from t01_neg e1) (no (fun h => e1 h.1))
theorem p_burglar {b : Bool} {μ : Nat → Int → Int} (p r w : Int) (hR : R b μ) : ∀ d, 7 ≤ d → PairA d b μ 211 18 [mI p, mI r, mI w] := fun d hd => pair_q (V := fun μ v => v = buV b μ p r w) hR (sX9_burglar p r w b μ hR d hd) (fun μ1 hR1 => sX10_burglar p r w b μ1 hR1 d hd) (fun μ1 v v' hf h1 h2 => by rw [h1, h2, buV_same (scC_tw hf) (scC_ne hf (by decide))])
