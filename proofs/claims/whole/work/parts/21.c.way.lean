/-! ===== the reference's way ===== -/
theorem eX10_nextGate {d : Nat} (hd : 2 ≤ d) {b : Bool} {r : Int} {n : Nat} {fa fb cc F : Int → Int} {μ : Nat → Int → Int} (hg : gOk fa fb cc n 10) (hn : n ≤ 12) (hc : ∀ g, 0 ≤ g → g < (n : Int) → 0 ≤ cc g ∧ cc g ≤ 99) (hG : ∀ g, 0 ≤ g → g < (n : Int) → μ 124 (36 + 3 * g) = fa g ∧ μ 124 (36 + 3 * g + 1) = fb g ∧ μ 135 g = cc g) (h7 : μ 120 7 = n) (hL : RL (μ 136) (μ 137) F) (r0 : 0 ≤ r) (r1 : r < 10) (hr : F r ≠ 268435456) (hF : ∀ x, 0 ≤ x → x < 10 → F x ≤ 268435456) : ∀ (k : Nat) (i best br : Int) (v4 : Option mV), 0 ≤ i → i + k = n → ((best = -1 ∧ br = 10) ∨ (0 ≤ best ∧ best < n ∧ br = acr fa fb best r)) → Ev (fun m => mRun (mCallN d) kX10_nextGate m 4 [some (mP 96), some (mI r), some (mI best), some (mI i), v4] [] (SH, μ, RHO b)) b (fun v μ' => μ' = μ ∧ v = onw F (w16 cc) fa fb r k i best br) := by
  have hRr := hL r r0 r1
  have hFr := hF r r0 r1
  intro k
  induction k with
  | zero =>
    intro i best br v4 h0 hk hb
    exact ev_row (fun m => tX10_nextGate_4 _ m b μ r best i v4) (ev_call (sX10_gateMany b μ d (by omega)) (ev_neg (by show ¬ (i < μ 120 7); omega) (ev_ret ⟨rfl, rfl⟩)))
  | succ k ih =>
    intro i best br v4 h0 hk hb
    have e5 : w32 (i + 1) = i + 1 := w32_id (by omega) (by omega)
    obtain ⟨g1, g2, g3⟩ := hG i h0 (by omega)
    have hA := sX10_behind i r b μ h0 (by omega) d hd
    rw [g1, g2] at hA
    have hac : (if fa i = r then fb i else if fb i = r then fa i else -1) = acr fa fb i r := rfl
    rw [hac] at hA
    have hin := acr_in (r := r) hg h0 (by omega)
    have hci := hc i h0 (by omega)
    have nx : ∀ (best' br' v4' : Int), ((best' = -1 ∧ br' = 10) ∨ (0 ≤ best' ∧ best' < n ∧ br' = acr fa fb best' r)) → onw F (w16 cc) fa fb r (k + 1) i best br = onw F (w16 cc) fa fb r k (i + 1) best' br' → Ev (fun m => mRun (mCallN d) kX10_nextGate m 101 [some (mP 96), some (mI r), some (mI best'), some (mI i), some (mI v4')] [] (SH, μ, RHO b)) b (fun v μ' => μ' = μ ∧ v = onw F (w16 cc) fa fb r (k + 1) i best br) := fun best' br' v4' hb' he => by
      refine ev_row (fun m => tX10_nextGate_101 _ m b μ r best' i v4') ?_
      rw [e5, he]
      exact ih (i + 1) best' br' (some (mI v4')) (by omega) (by omega) hb'
    have no : ∀ v4', ¬ (acr fa fb i r ≠ -1 ∧ acr fa fb i r < br ∧ F (acr fa fb i r) + w16 cc i = F r) → Ev (fun m => mRun (mCallN d) kX10_nextGate m 101 [some (mP 96), some (mI r), some (mI best), some (mI i), some (mI v4')] [] (SH, μ, RHO b)) b (fun v μ' => μ' = μ ∧ v = onw F (w16 cc) fa fb r (k + 1) i best br) := fun v4' h => nx best br v4' hb (by rw [onw, if_neg h])
    have yes : ∀ v4', (acr fa fb i r ≠ -1 ∧ acr fa fb i r < br ∧ F (acr fa fb i r) + w16 cc i = F r) → Ev (fun m => mRun (mCallN d) kX10_nextGate m 99 [some (mP 96), some (mI r), some (mI best), some (mI i), some (mI v4')] [] (SH, μ, RHO b)) b (fun v μ' => μ' = μ ∧ v = onw F (w16 cc) fa fb r (k + 1) i best br) := fun v4' h => ev_row (fun m => tX10_nextGate_99 _ m b μ r best i v4') (nx i _ v4' (Or.inr ⟨h0, by omega, rfl⟩) (by rw [onw, if_pos h]))
    refine ev_row (fun m => tX10_nextGate_4 _ m b μ r best i v4) (ev_call (sX10_gateMany b μ d (by omega)) (ev_pos (by show i < μ 120 7; omega) (ev_call hA (ev_br (fun q => ?_) (fun q => ?_)))))
    · have q' : acr fa fb i r = -1 := q
      exact no _ (fun h => h.1 q')
    · have q' : ¬ acr fa fb i r = -1 := q
      have ht : 0 ≤ acr fa fb i r ∧ acr fa fb i r < 10 := by rcases hin with h | h <;> omega
      have hRt := hL _ ht.1 ht.2
      have hFt := hF _ ht.1 ht.2
      have hw : w16 cc i = 16 * cc i + 1 := rfl
      refine ev_if ht (ev_br (fun q2 => ?_) (fun q2 => ?_))
      · have q2' : μ 136 (acr fa fb i r) = 1000000 := q2
        exact no _ (fun h => by have := h.2.2; omega)
      · have q2' : ¬ μ 136 (acr fa fb i r) = 1000000 := q2
        have ew : w32 (μ 136 (acr fa fb i r) + μ 135 i) = μ 136 (acr fa fb i r) + cc i := by rw [g3, w32_id (by omega) (by omega)]
        have ew2 : w32 (μ 137 (acr fa fb i r) + 1) = μ 137 (acr fa fb i r) + 1 := w32_id (by omega) (by omega)
        refine ev_if ht (ev_if (by omega) (ev_if ⟨r0, r1⟩ (ev_br (fun q3 => ?_) (fun q3 => ?_))))
        · have q3' : w32 (μ 136 (acr fa fb i r) + μ 135 i) = μ 136 r := q3
          rw [ew] at q3'
          refine ev_if ht (ev_if ⟨r0, r1⟩ (ev_br (fun q4 => ?_) (fun q4 => ?_)))
          · have q4' : w32 (μ 137 (acr fa fb i r) + 1) = μ 137 r := q4
            rw [ew2] at q4'
            have hFe : F (acr fa fb i r) + w16 cc i = F r := by omega
            refine ev_br (fun q5 => ?_) (fun q5 => ?_)
            · refine yes _ ⟨q', ?_, hFe⟩
              rcases hb with ⟨b1, b2⟩ | ⟨b1, b2, b3⟩ <;> omega
            · obtain ⟨b1, b2, b3⟩ := hb.resolve_left (fun h => q5 h.1)
              obtain ⟨k1, k2, -⟩ := hG best b1 b2
              have hB := sX10_behind best r b μ b1 (by omega) d hd
              rw [k1, k2] at hB
              have hbc : (if fa best = r then fb best else if fb best = r then fa best else -1) = br := by rw [b3]; rfl
              rw [hbc] at hB
              refine ev_call hB (ev_br (fun q6 => yes _ ⟨q', q6, hFe⟩) (fun q6 => no _ (fun h => q6 h.2.1)))
          · have q4' : ¬ w32 (μ 137 (acr fa fb i r) + 1) = μ 137 r := q4
            rw [ew2] at q4'
            exact no _ (fun h => by have := h.2.2; omega)
        · have q3' : ¬ w32 (μ 136 (acr fa fb i r) + μ 135 i) = μ 136 r := q3
          rw [ew] at q3'
          exact no _ (fun h => by have := h.2.2; omega)
theorem sX10_nextGate (r : Int) (b : Bool) (μ : Nat → Int → Int) {n : Nat} {fa fb cc F : Int → Int} (hg : gOk fa fb cc n 10) (hn : n ≤ 12) (hc : ∀ g, 0 ≤ g → g < (n : Int) → 0 ≤ cc g ∧ cc g ≤ 99) (hG : ∀ g, 0 ≤ g → g < (n : Int) → μ 124 (36 + 3 * g) = fa g ∧ μ 124 (36 + 3 * g + 1) = fb g ∧ μ 135 g = cc g) (h7 : μ 120 7 = n) (hL : RL (μ 136) (μ 137) F) (r0 : 0 ≤ r) (r1 : r < 10) (hr : F r ≠ 268435456) (hF : ∀ x, 0 ≤ x → x < 10 → F x ≤ 268435456) : ∀ d, 3 ≤ d → mCallN d 90 [mP 96, mI r] (SH, μ, RHO b) = some (onw F (w16 cc) fa fb r n 0 (-1) 10, SH, μ, RHO b) := deep fun d hd => by
  refine cal_eq (cal_ev (fun r' => call_X10_nextGate d b μ r) (ev_row (fun m => tX10_nextGate_0 _ m b μ r) ?_))
  exact ev_mono (eX10_nextGate hd hg hn hc hG h7 hL r0 r1 hr hF n 0 (-1) 10 none (by omega) (by omega) (Or.inl ⟨rfl, rfl⟩)) (fun v μ' h => ⟨h.2, h.1⟩)
theorem RL_congr {K G F F' : Int → Int} (hL : RL K G F) (h : ∀ x, 0 ≤ x → x < 10 → F' x = F x) : RL K G F' := fun x x0 x1 => by rw [h x x0 x1]; exact hL x x0 x1
/-- after the reference's finding: by the class's reckoning of the same -/
theorem Ref_finds {b : Bool} {μ : Nat → Int → Int} (p : Int) (hR : R b μ) (p0 : 0 ≤ p) (p1 : p < μ (tw b + 1) 3) {μ1 : Nat → Int → Int} (hf : Fg scR scJ μ μ1) (hw : ∀ g, 0 ≤ g → g < μ (tw b + 1) 2 → μ1 135 g = wP b μ p g) : ∀ d, 2 ≤ d → Cal d 39 [mP 96, mI (μ 74 (44 + p)), mI (-1)] b μ1 (fun _ μ' => Fr [136, 137] μ1 μ' ∧ RL (μ' 136) (μ' 137) (farW b μ p)) := fun d hd => by
  obtain ⟨h1, h2, h3, h4⟩ := R_place hR p0 p1
  have hC := Rcnt_C hR.1.1
  obtain ⟨-, -, ⟨y1, y2, y3⟩, -⟩ := hR.1.1
  have kt := scR_tw (b := b) hf
  have hgok := R_gok hR p
  have hcc : ∀ g, 0 ≤ g → g < (((μ (tw b + 1) 2).toNat : Nat) : Int) → 0 ≤ wP b μ p g ∧ wP b μ p g ≤ 99 := fun g _ _ => wP_in b μ p g
  refine cal_mono (sX10_finds (μ 74 (44 + p)) (-1) b μ1 (fa := μ (tw b + 8)) (fb := μ (tw b + 9)) (cost := wP b μ p) (n := (μ (tw b + 1) 2).toNat) (fun g g0 g1 => ?_) hgok (by omega) (by rw [kt 120 (by simp [twL])]; omega) hcc h2.1 (by omega) d hd) (fun v μ' ⟨a1, F, a2, a3⟩ => ⟨a1, RL_congr a3 (fun x x0 x1 => ?_)⟩)
  · obtain ⟨⟨b1, b2, -⟩, -⟩ := hR.1.2.1 g g0 (by omega)
    rw [kt 124 (by simp [twL])]
    exact ⟨b1, b2, hw g g0 (by omega)⟩
  · have hD : Dist (μ (tw b + 8)) (μ (tw b + 9)) (w16 (wP b μ p)) (μ (tw b + 1) 2).toNat 10 268435456 (μ 74 (44 + p)) F := by
      have hwr : ∀ g, 0 ≤ g → g < (((μ (tw b + 1) 2).toNat : Nat) : Int) → wr (wP b μ p) (-1) g = w16 (wP b μ p) g := fun g g0 g1 => by unfold wr w16; rw [if_neg (by omega)]
      refine ⟨a2.1, fun v v0 v1 => ?_, fun g g0 g1 gw => ?_⟩
      · obtain ⟨c1, c2, c3⟩ := a2.2.1 v v0 v1
        exact ⟨c1, c2, c3.imp id (fun ⟨h, d1, d2⟩ => ⟨h, d1, Wk_mono (fun g g0 g1 _ => (hwr g g0 g1).symm) h v _ d2⟩)⟩
      · have := a2.2.2 g g0 g1 (by rw [hwr g g0 g1]; exact gw)
        rw [hwr g g0 g1] at this
        exact this
    exact Dist_uniq (w16_ok hgok hcc) h2.1 (by omega) (by decide : (0 : Int) ≤ 100000) (by decide) (fun g g0 g1 => by have := hcc g g0 g1; unfold w16; omega) (R_farW hR p0 p1) hD x0 x1
theorem wayL_len {F w fa fb : Int → Int} {n : Nat} : ∀ (k : Nat) (r : Int), (wayL F w fa fb n k r).length = k
  | 0, _ => rfl
  | k + 1, r => by rw [wayL, List.length_cons, wayL_len k]
/-- what way answers -/
def wayV (b : Bool) (μ : Nat → Int → Int) (p k : Int) : Int := if farW b μ p (μ 74 (38 + p)) = 268435456 then -1 else if k = -1 then farW b μ p (μ 74 (38 + p)) / 16 else if k = 20 then farW b μ p (μ 74 (38 + p)) % 16 else if 0 ≤ k ∧ k < farW b μ p (μ 74 (38 + p)) % 16 then (wayP b μ p (farW b μ p (μ 74 (38 + p)) % 16).toNat).getD k.toNat 0 else -1
theorem eX10_way {d : Nat} (hd : 3 ≤ d) {b : Bool} {n : Nat} {v1 v2 v4 goal : Int} {fa fb cc F : Int → Int} {μ : Nat → Int → Int} (hg : gOk fa fb cc n 10) (hn : n ≤ 12) (hc : ∀ g, 0 ≤ g → g < (n : Int) → 0 ≤ cc g ∧ cc g ≤ 99) (hG : ∀ g, 0 ≤ g → g < (n : Int) → μ 124 (36 + 3 * g) = fa g ∧ μ 124 (36 + 3 * g + 1) = fb g ∧ μ 135 g = cc g) (h7 : μ 120 7 = n) (hL : RL (μ 136) (μ 137) F) (s0 : 0 ≤ goal) (s1 : goal < 10) (hD : Dist fa fb (w16 cc) n 10 268435456 goal F) (hv2 : v2 < 100) : ∀ (k : Nat) (h : Nat) (i r : Int), 0 ≤ i → i + k = v2 → k < h → 0 ≤ r → r < 10 → F r ≠ 268435456 → F r % 16 = h → Ev (fun m => mRun (mCallN d) kX10_way m 95 [some (mP 96), some (mI v1), some (mI v2), some (mI r), some (mI v4), some (mI i)] [] (SH, μ, RHO b)) b (fun v μ' => μ' = μ ∧ v = (wayL F (w16 cc) fa fb n h r).getD k 0) := by
  have hF : ∀ x, 0 ≤ x → x < 10 → F x ≤ 268435456 := fun x x0 x1 => (hD.2.1 x x0 (by omega)).2.1
  intro k
  induction k with
  | zero =>
    intro h i r h0 hk hh r0 r1 hr hm
    have hN := sX10_nextGate r b μ hg hn hc hG h7 hL r0 r1 hr hF d hd
    refine ev_row (fun m => tX10_way_95 _ m b μ v1 v2 r v4 i) (ev_neg (by omega) (ev_call hN (ev_ret ⟨rfl, ?_⟩)))
    obtain ⟨h', rfl⟩ : ∃ h', h = h' + 1 := ⟨h - 1, by omega⟩
    rw [wayL, List.getD_cons_zero]
  | succ k ih =>
    intro h i r h0 hk hh r0 r1 hr hm
    have hN := sX10_nextGate r b μ hg hn hc hG h7 hL r0 r1 hr hF d hd
    obtain ⟨h', rfl⟩ : ∃ h', h = h' + 1 := ⟨h - 1, by omega⟩
    have hrg : r ≠ goal := fun e => by
      rw [e, hD.1] at hm; omega
    obtain ⟨⟨g0, g1, g2, g3⟩, ⟨t0, t1⟩, tV, tF⟩ := D_step hg hc s0 s1 hD r0 r1 hr hrg
    obtain ⟨K, hh', q1, q2, q3, q4, q5, q6⟩ := D_room hg hc s0 s1 hD r0 r1 hr
    rw [wayL, List.getD_cons_succ]
    generalize onw F (w16 cc) fa fb r n 0 (-1) 10 = gt at *
    obtain ⟨k1, k2, -⟩ := hG gt g0 g1
    have hB := sX10_behind gt r b μ g0 (by omega) d (by omega)
    rw [k1, k2] at hB
    refine ev_row (fun m => tX10_way_95 _ m b μ v1 v2 r v4 i) (ev_pos (by omega) (ev_call hN (ev_call hB ?_)))
    dsimp only
    rw [w32_id (by omega) (by omega)]
    exact ih h' (i + 1) (acr fa fb gt r) (by omega) (by omega) (by omega) t0 t1 tV (by omega)
theorem p_way {b : Bool} {μ : Nat → Int → Int} (p k : Int) (hR : R b μ) : ∀ d, 8 ≤ d → PairA d b μ 257 131 [mI p, mI k] := deep fun d hd => by
  refine pair_q (V := fun μ v => v = if 0 ≤ p ∧ p < μ (tw b + 1) 3 then wayV b μ p k else -1) hR ?_ (fun μ1 hR1 => ?_) (fun μ1 v v' hf h1 h2 => ?_)
  · have hP := sX9_isPerson p b μ d (by omega)
    refine cal_ev (fun r => call_X9_way d b μ p k) (ev_row (fun m => tX9_way_0 _ m b μ p k) ?_)
    by_cases e1 : 0 ≤ p ∧ p < μ (tw b + 1) 3
    · rw [t01_pos e1] at hP
      obtain ⟨h1, h2, h3, h4⟩ := R_place hR e1.1 e1.2
      obtain ⟨f0, f1, -⟩ := (R_farW hR e1.1 e1.2).2.1 (μ 74 (38 + p)) h1.1 (by omega)
      refine ev_call hP (ev_neg (by show ¬ ((1 : Int) = 0); decide) (ev_callP (sX9_findWay p b μ hR e1.1 e1.2 d (by omega)) (fun v μ1 ⟨hf1, hw, hv⟩ => ?_)))
      have hf1' := fr_sc hf1 (sub_C (by decide))
      rw [if_pos e1]
      unfold wayV
      rcases hv with ⟨q1, q2⟩ | ⟨q1, q2, q3, q4⟩
      · refine ev_pos (show v = -1 from q2) (ev_row (fun m => tX9_way_26 _ m b μ1 p k v) (ev_ret ⟨hf1', ?_⟩))
        rw [if_pos q1]; exact q2
      · obtain ⟨K9, h9, x1, x2, x3, x4, -, -⟩ := D_room (R_gok hR p) (fun g _ _ => wP_in b μ p g) h2.1 (by omega) (R_farW hR e1.1 e1.2) h1.1 (by omega) q1
        refine ev_neg (by show ¬ v = -1; omega) (ev_br (fun c1 => ?_) (fun c1 => ev_br (fun c2 => ?_) (fun c2 => ?_)))
        · exact ev_row (fun m => tX9_way_26 _ m b μ1 p k v) (ev_ret ⟨hf1', by rw [if_neg q1, if_pos c1]; exact q2⟩)
        · exact ev_ret ⟨hf1', by rw [if_neg q1, if_neg c1, if_pos c2]; exact q3⟩
        · have hW := sX9_within k (μ1 26 3) b μ1 d (by omega)
          by_cases c3 : 0 ≤ k ∧ k < μ1 26 3
          · rw [t01_pos c3] at hW
            refine ev_call hW (ev_neg (by show ¬ ((1 : Int) = 0); decide) (ev_if (by omega) ?_))
            refine ev_row (fun m => tX9_way_69 _ m b μ1 p k v _) (ev_ret ⟨hf1', ?_⟩)
            rw [if_neg q1, if_neg c1, if_neg c2, if_pos (by omega)]
            have := q4 k.toNat (by omega)
            rw [show ((k.toNat : Nat) : Int) = k by omega] at this
            exact this
          · rw [t01_neg c3] at hW
            refine ev_call hW (ev_pos rfl (ev_row (fun m => tX9_way_69 _ m b μ1 p k v (-1)) (ev_ret ⟨hf1', ?_⟩)))
            rw [if_neg q1, if_neg c1, if_neg c2, if_neg (by omega)]
    · rw [t01_neg e1] at hP
      exact ev_call hP (ev_pos rfl (ev_ret ⟨fr_rfl, by rw [if_neg e1]⟩))
  · have hcn := hR1.1.1
    have hC := Rcnt_C hcn
    obtain ⟨-, -, ⟨y1, y2, y3⟩, ⟨d1, d2, d3⟩⟩ := hcn
    have hP := sX10_isPerson p b μ1 (by omega) (by omega) d (by omega)
    refine cal_ev (fun r => call_X10_way d b μ1 p k) (ev_row (fun m => tX10_way_0 _ m b μ1 p k) ?_)
    by_cases e1 : 0 ≤ p ∧ p < μ1 (tw b + 1) 3
    · rw [t01_pos (by omega)] at hP
      obtain ⟨h1, h2, h3, h4⟩ := R_place hR1 e1.1 e1.2
      obtain ⟨r0, r1, r2, r3⟩ := hR1.2.1.1.2 p e1.1 h4
      have hD := R_farW hR1 e1.1 e1.2
      obtain ⟨f0, f1, -⟩ := hD.2.1 (μ1 74 (38 + p)) h1.1 (by omega)
      refine ev_call hP (ev_neg (by show ¬ ((1 : Int) = 0); decide) (ev_callP (R_costs p hR1 e1.1 e1.2 d (by omega)) (fun _ μ2 ⟨hf2, hw⟩ => ?_)))
      have hf2' := fg_sc hf2 (sub_R (by decide)) (sub_J (by decide))
      have hP1 := sX10_personOf p 1 b μ2 e1.1 h4 (by decide) (by decide) d (by omega)
      rw [hf2.1 133 (by decide) (by decide), r1] at hP1
      refine ev_call hP1 (ev_callP (Ref_finds p hR1 e1.1 e1.2 hf2' hw d (by omega)) (fun _ μ3 ⟨hf3, hL⟩ => ?_))
      have hf3' : Fg scR scJ μ1 μ3 := fg_tr hf2' (fg_fr (J := scJ) hf3 (by decide)) (sub_R (by decide)) (fun a h => h)
      have kt := scR_tw (b := b) hf3'
      have hP0 := sX10_personOf p 0 b μ3 e1.1 h4 (by decide) (by decide) d (by omega)
      rw [scR_ne hf3' (by decide : ¬ (133 = 123 ∨ 133 = 127 ∨ 133 = 131 ∨ 133 = 132 ∨ 133 = 135 ∨ 133 = 136 ∨ 133 = 137 ∨ 133 = 139 ∨ 133 = 140 ∨ 133 = 142)) (by decide), r0] at hP0
      have hLr := hL (μ1 74 (38 + p)) h1.1 (by omega)
      have cr : 0 ≤ μ1 74 (38 + p) ∧ μ1 74 (38 + p) < 10 := ⟨h1.1, by omega⟩
      rw [if_pos e1]
      unfold wayV
      refine ev_call hP0 (ev_if cr (ev_br (fun q => ?_) (fun q => ?_)))
      · have q' : μ3 136 (μ1 74 (38 + p)) = 1000000 := q
        exact ev_ret ⟨hf3', by rw [if_pos (by omega)]⟩
      · have q' : ¬ μ3 136 (μ1 74 (38 + p)) = 1000000 := q
        obtain ⟨z1, z2, z3, z4, z5, z6⟩ := hLr.resolve_left (fun h => q' h.2.1)
        have hmod : farW b μ1 p (μ1 74 (38 + p)) % 16 = μ3 137 (μ1 74 (38 + p)) := by omega
        have hdiv : farW b μ1 p (μ1 74 (38 + p)) / 16 = μ3 136 (μ1 74 (38 + p)) := by omega
        rw [if_neg z1]
        refine ev_if cr (ev_br (fun c1 => ?_) (fun c1 => ev_br (fun c2 => ?_) (fun c2 => ?_)))
        · exact ev_if cr (ev_ret ⟨hf3', by rw [if_pos c1, hdiv]⟩)
        · exact ev_ret ⟨hf3', by rw [if_neg c1, if_pos c2, hmod]⟩
        · rw [if_neg c1, if_neg c2, hmod]
          have hI := sX10_isIn k 0 (μ3 137 (μ1 74 (38 + p)) - 1) b μ3 d (by omega)
          have ew : w32 (μ3 137 (μ1 74 (38 + p)) - 1) = μ3 137 (μ1 74 (38 + p)) - 1 := w32_id (by omega) (by omega)
          have hI' : mCallN d 66 [mJ k, mJ 0, mJ (w32 (μ3 137 (μ1 74 (38 + p)) - 1))] (SH, μ3, RHO b) = some (t01 (0 ≤ k ∧ k ≤ μ3 137 (μ1 74 (38 + p)) - 1), SH, μ3, RHO b) := by rw [ew]; exact hI
          by_cases c3 : 0 ≤ k ∧ k < μ3 137 (μ1 74 (38 + p))
          · rw [t01_pos (by omega)] at hI'
            rw [if_pos c3]
            refine ev_call hI' (ev_neg (by show ¬ ((1 : Int) = 0); decide) ?_)
            have hcc : ∀ g, 0 ≤ g → g < (((μ1 (tw b + 1) 2).toNat : Nat) : Int) → 0 ≤ wP b μ1 p g ∧ wP b μ1 p g ≤ 99 := fun g _ _ => wP_in b μ1 p g
            refine ev_mono (eX10_way (by omega) (R_gok hR1 p) (by omega) hcc (fun g g0 g1 => ?_) (by rw [kt 120 (by simp [twL])]; omega) hL h2.1 (by omega) hD (by omega) k.toNat (μ3 137 (μ1 74 (38 + p))).toNat 0 (μ1 74 (38 + p)) (by decide) (by omega) (by omega) h1.1 (by omega) z1 (by omega)) (fun v μ' h => ⟨?_, ?_⟩)
            · obtain ⟨⟨b1, b2, -⟩, -⟩ := hR1.1.2.1 g g0 (by omega)
              rw [kt 124 (by simp [twL]), hf3 135 (by decide)]
              exact ⟨b1, b2, hw g g0 (by omega)⟩
            · rw [h.1]; exact hf3'
            · exact h.2
          · rw [t01_neg (by omega)] at hI'
            rw [if_neg c3]
            exact ev_call hI' (ev_pos rfl (ev_ret ⟨hf3', rfl⟩))
    · rw [t01_neg (by omega)] at hP
      exact ev_call hP (ev_pos rfl (ev_ret ⟨fg_rfl, by rw [if_neg e1]⟩))
  · have kt := scC_tw (b := b) hf
    have k74 : μ1 74 = μ 74 := scC_ne hf (by decide)
    have hd1 : farW b μ1 p = farW b μ p := by
      unfold farW
      funext x
      rw [wP_same kt k74, k74, dstN_same kt]
    have hd : wayV b μ1 p k = wayV b μ p k := by
      unfold wayV wayP
      rw [hd1, wP_same kt k74, k74, kt (tw b + 1) (by simp [twL]), kt (tw b + 8) (by simp [twL]), kt (tw b + 9) (by simp [twL])]
    rw [h1, h2, hd, kt (tw b + 1) (by simp [twL])]
