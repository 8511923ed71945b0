/-! ===== the class's way ===== -/
theorem onw_congr {F w F' w' fa fb : Int → Int} {n : Nat} {r : Int} (hF : ∀ x, 0 ≤ x → x < 10 → F' x = F x) (hw : ∀ g, 0 ≤ g → g < (n : Int) → w' g = w g) (r0 : 0 ≤ r) (r1 : r < 10) (ha : ∀ g, 0 ≤ g → g < (n : Int) → acr fa fb g r = -1 ∨ (0 ≤ acr fa fb g r ∧ acr fa fb g r < 10)) : ∀ (k : Nat) (i best br : Int), 0 ≤ i → i + k = n → onw F' w' fa fb r k i best br = onw F w fa fb r k i best br
  | 0, _, _, _, _, _ => rfl
  | k + 1, i, best, br, h0, hk => by
    rw [onw, onw, hF r r0 r1, hw i h0 (by omega)]
    rcases ha i h0 (by omega) with e | e
    · rw [if_neg (fun h => h.1 e), if_neg (fun h => h.1 e)]
      exact onw_congr hF hw r0 r1 ha k (i + 1) best br (by omega) (by omega)
    · rw [hF _ e.1 e.2]
      by_cases c : acr fa fb i r ≠ -1 ∧ acr fa fb i r < br ∧ F (acr fa fb i r) + w i = F r
      · rw [if_pos c, if_pos c]; exact onw_congr hF hw r0 r1 ha k (i + 1) i _ (by omega) (by omega)
      · rw [if_neg c, if_neg c]; exact onw_congr hF hw r0 r1 ha k (i + 1) best br (by omega) (by omega)
theorem eX8_firstOnward {d : Nat} (hd : 1 ≤ d) {b c : Bool} {r : Int} {n : Nat} {μ : Nat → Int → Int} (hg : gOk (μ (tw c + 8)) (μ (tw c + 9)) (μ 27) n 10) (hn : n ≤ 12) (h1 : μ (tw c + 1) 2 = n) (hw : ∀ g, 0 ≤ g → g < (n : Int) → μ 27 g ≤ 100000) (hb : ∀ x, 0 ≤ x → x < 10 → 0 ≤ μ 28 x ∧ μ 28 x ≤ 268435456) (r0 : 0 ≤ r) (r1 : r < 10) : ∀ (k : Nat) (i best br : Int) (v6 : Option mV), 0 ≤ i → i + k = n → Ev (fun m => mRun (mCallN d) kX8_firstOnward m 9 [some (mP 26), some (mP (tw c)), some (mI r), some (mI best), some (mI br), some (mI i), v6] [] (SH, μ, RHO b)) b (fun v μ' => μ' = μ ∧ v = onw (μ 28) (μ 27) (μ (tw c + 8)) (μ (tw c + 9)) r k i best br) := by
  intro k
  induction k with
  | zero =>
    intro i best br v6 h0 hk
    exact ev_row (fun m => tX8_firstOnward_9 _ m b μ r best br i v6 c) (ev_neg (by omega) (ev_ret ⟨rfl, rfl⟩))
  | succ k ih =>
    intro i best br v6 h0 hk
    have e5 : w32 (i + 1) = i + 1 := w32_id (by omega) (by omega)
    have hA := sX7_across c i r b μ h0 (by omega) d hd
    have hin := acr_in (r := r) hg h0 (by omega)
    have hw0 := (hg i h0 (by omega)).2.2
    have hw1 := hw i h0 (by omega)
    have hac : (if μ (tw c + 8) i = r then μ (tw c + 9) i else if μ (tw c + 9) i = r then μ (tw c + 8) i else -1) = acr (μ (tw c + 8)) (μ (tw c + 9)) i r := rfl
    rw [hac] at hA
    have nx : ∀ (best' br' : Int) (v6' : Int), onw (μ 28) (μ 27) (μ (tw c + 8)) (μ (tw c + 9)) r (k + 1) i best br = onw (μ 28) (μ 27) (μ (tw c + 8)) (μ (tw c + 9)) r k (i + 1) best' br' → Ev (fun m => mRun (mCallN d) kX8_firstOnward m 73 [some (mP 26), some (mP (tw c)), some (mI r), some (mI best'), some (mI br'), some (mI i), some (mI v6')] [] (SH, μ, RHO b)) b (fun v μ' => μ' = μ ∧ v = onw (μ 28) (μ 27) (μ (tw c + 8)) (μ (tw c + 9)) r (k + 1) i best br) := fun best' br' v6' he => by
      refine ev_row (fun m => tX8_firstOnward_73 _ m b μ r best' br' i v6' c) ?_
      rw [e5, he]
      exact ih (i + 1) best' br' (some (mI v6')) (by omega) (by omega)
    refine ev_row (fun m => tX8_firstOnward_9 _ m b μ r best br i v6 c) (ev_pos (by omega) (ev_call hA (ev_br (fun q => ?_) (fun q => ev_br (fun q2 => ?_) (fun q2 => ?_)))))
    · have q' : acr (μ (tw c + 8)) (μ (tw c + 9)) i r = -1 := q
      exact nx best br _ (by rw [onw, if_neg (fun h => h.1 q')])
    · have q' : ¬ acr (μ (tw c + 8)) (μ (tw c + 9)) i r = -1 := q
      have q2' : acr (μ (tw c + 8)) (μ (tw c + 9)) i r < br := q2
      have ht : 0 ≤ acr (μ (tw c + 8)) (μ (tw c + 9)) i r ∧ acr (μ (tw c + 8)) (μ (tw c + 9)) i r < 10 := by rcases hin with h | h <;> omega
      have hbt := hb _ ht.1 ht.2
      have ew : w32 (μ 28 (acr (μ (tw c + 8)) (μ (tw c + 9)) i r) + μ 27 i) = μ 28 (acr (μ (tw c + 8)) (μ (tw c + 9)) i r) + μ 27 i := w32_id (by omega) (by omega)
      refine ev_if ht (ev_if (by omega) (ev_if ⟨r0, r1⟩ (ev_br (fun q3 => ?_) (fun q3 => ?_))))
      · have q3' : w32 (μ 28 (acr (μ (tw c + 8)) (μ (tw c + 9)) i r) + μ 27 i) = μ 28 r := q3
        rw [ew] at q3'
        exact nx i _ _ (by rw [onw, if_pos ⟨q', q2', q3'⟩])
      · have q3' : ¬ w32 (μ 28 (acr (μ (tw c + 8)) (μ (tw c + 9)) i r) + μ 27 i) = μ 28 r := q3
        rw [ew] at q3'
        exact nx best br _ (by rw [onw, if_neg (fun h => q3' h.2.2)])
    · have q2' : ¬ acr (μ (tw c + 8)) (μ (tw c + 9)) i r < br := q2
      exact nx best br _ (by rw [onw, if_neg (fun h => q2' h.2.1)])
theorem sX8_firstOnward (c : Bool) (r : Int) (b : Bool) (μ : Nat → Int → Int) {n : Nat} (hg : gOk (μ (tw c + 8)) (μ (tw c + 9)) (μ 27) n 10) (hn : n ≤ 12) (h1 : μ (tw c + 1) 2 = n) (hw : ∀ g, 0 ≤ g → g < (n : Int) → μ 27 g ≤ 100000) (hb : ∀ x, 0 ≤ x → x < 10 → 0 ≤ μ 28 x ∧ μ 28 x ≤ 268435456) (r0 : 0 ≤ r) (r1 : r < 10) : ∀ d, 2 ≤ d → mCallN d 205 [mP 26, mP (tw c), mI r] (SH, μ, RHO b) = some (onw (μ 28) (μ 27) (μ (tw c + 8)) (μ (tw c + 9)) r n 0 (-1) 10, SH, μ, RHO b) := deep fun d hd => by
  refine cal_eq (cal_ev (fun r' => call_X8_firstOnward d b μ r c) (ev_row (fun m => tX8_firstOnward_0 _ m b μ r c) ?_))
  exact ev_mono (eX8_firstOnward hd hg hn h1 hw hb r0 r1 n 0 (-1) 10 none (by omega) (by omega)) (fun v μ' h => ⟨h.2, h.1⟩)
theorem eX8_trace {d : Nat} (hd : 2 ≤ d) {b c : Bool} {fr goal : Int} {n : Nat} {fa fb cc F : Int → Int} {μ0 : Nat → Int → Int} (hg : gOk fa fb cc n 10) (hn : n ≤ 12) (hc : ∀ g, 0 ≤ g → g < (n : Int) → 0 ≤ cc g ∧ cc g ≤ 99) (s0 : 0 ≤ goal) (s1 : goal < 10) (hD : Dist fa fb (w16 cc) n 10 268435456 goal F) (h8 : μ0 (tw c + 8) = fa) (h9 : μ0 (tw c + 9) = fb) (h1 : μ0 (tw c + 1) 2 = n) (hw : ∀ g, 0 ≤ g → g < (n : Int) → μ0 27 g = w16 cc g) (hF : ∀ x, 0 ≤ x → x < 10 → μ0 28 x = F x) (f0 : 0 ≤ fr) (f1 : fr < 10) : ∀ (h : Nat) (s r : Int) (v5 : Option mV) (μ : Nat → Int → Int), 0 ≤ s → s + h ≤ 9 → 0 ≤ r → r < 10 → F r ≠ 268435456 → F r % 16 = h → Fr [26, 29] μ0 μ → (∀ j, j ≠ 3 → μ 26 j = μ0 26 j) → μ 26 3 = s → Ev (fun m => mRun (mCallN d) kX8_trace m 27 [some (mP 26), some (mP (tw c)), some (mI fr), some (mI goal), some (mI r), v5] [] (SH, μ, RHO b)) b (fun v μ' => v = F fr / 16 ∧ Fr [26, 29] μ0 μ' ∧ μ' 26 3 = s + h ∧ (∀ j, j < s → μ' 29 j = μ 29 j) ∧ ∀ j : Nat, j < h → μ' 29 (s + j) = (wayL F (w16 cc) fa fb n h r).getD j 0) := by
  have hF0 := hD.2.1 fr f0 (by omega)
  intro h
  induction h with
  | zero =>
    intro s r v5 μ hs0 hs1 r0 r1 hr hh hf h26 h263
    obtain ⟨K, h', q1, q2, q3, q4, q5, q6⟩ := D_room hg hc s0 s1 hD r0 r1 hr
    have e : r = goal := (q5 (by omega)).1
    refine ev_row (fun m => tX8_trace_27 _ m b μ fr goal r v5 c) (ev_pos e ?_)
    refine ev_row (fun m => tX8_trace_96 _ m b μ fr goal r v5 c) (ev_if ⟨f0, f1⟩ (ev_ret ⟨?_, hf, by omega, fun _ _ => rfl, fun j hj => absurd hj (by omega)⟩))
    rw [hf 28 (by decide), hF fr f0 f1, iDiv_p (by omega) (by omega) (by decide) (by decide)]
  | succ h ih =>
    intro s r v5 μ hs0 hs1 r0 r1 hr hh hf h26 h263
    obtain ⟨K, h', q1, q2, q3, q4, q5, q6⟩ := D_room hg hc s0 s1 hD r0 r1 hr
    have hrg : r ≠ goal := fun e => by
      rw [e, hD.1] at hh; omega
    obtain ⟨⟨g0, g1, g2, g3⟩, ⟨t0, t1⟩, tV, tF⟩ := D_step hg hc s0 s1 hD r0 r1 hr hrg
    have hne : ∀ a, a ≠ 26 → a ≠ 29 → μ a = μ0 a := fun a a1 a2 => hf a (by simp [a1, a2])
    have k27 : μ 27 = μ0 27 := hne 27 (by decide) (by decide)
    have k28 : μ 28 = μ0 28 := hne 28 (by decide) (by decide)
    have k8 : μ (tw c + 8) = fa := by rw [hne _ (by have := tw_or c; omega) (by have := tw_or c; omega)]; exact h8
    have k9 : μ (tw c + 9) = fb := by rw [hne _ (by have := tw_or c; omega) (by have := tw_or c; omega)]; exact h9
    have k1 : μ (tw c + 1) 2 = n := by rw [hne _ (by have := tw_or c; omega) (by have := tw_or c; omega)]; exact h1
    have hgw : gOk (μ (tw c + 8)) (μ (tw c + 9)) (μ 27) n 10 := fun g a0 a1 => by
      obtain ⟨p1, p2, -⟩ := hg g a0 a1
      have := hc g a0 a1
      rw [k8, k9, k27, hw g a0 a1]
      exact ⟨p1, p2, by unfold w16; omega⟩
    have hO := sX8_firstOnward c r b μ hgw hn k1 (fun g a0 a1 => by rw [k27, hw g a0 a1]; have := hc g a0 a1; unfold w16; omega) (fun x x0 x1 => by rw [k28, hF x x0 x1]; exact ⟨(hD.2.1 x x0 (by omega)).1, (hD.2.1 x x0 (by omega)).2.1⟩) r0 r1 d hd
    rw [k8, k9, k27, k28, onw_congr (F := F) (w := w16 cc) hF hw r0 r1 (fun g a0 a1 => by rcases acr_in (r := r) hg a0 a1 with p | p; exact Or.inl p.1; exact Or.inr (by omega)) n 0 (-1) 10 (by omega) (by omega)] at hO
    rw [wayL]
    generalize onw F (w16 cc) fa fb r n 0 (-1) 10 = gt at *
    have hA := sX7_across c gt r b (m2 (m2 μ 29 s gt) 26 3 (s + 1)) g0 (by omega) d (by omega)
    rw [m2_ne (by have := tw_or c; omega), m2_ne (by have := tw_or c; omega), m2_ne (by have := tw_or c; omega), m2_ne (by have := tw_or c; omega), k8, k9] at hA
    refine ev_row (fun m => tX8_trace_27 _ m b μ fr goal r v5 c) (ev_neg hrg (ev_pos (by omega) (ev_call hO (ev_neg (by show ¬ (gt = -1); omega) (ev_if (by show 0 ≤ μ 26 3 ∧ μ 26 3 < 10; omega) ?_)))))
    dsimp only
    rw [m2_ne (by decide : (26 : Nat) ≠ 29), h263, w32_id (x := s + 1) (by omega) (by omega)]
    refine ev_call hA ?_
    have hmod : F (acr fa fb gt r) % 16 = (h : Int) := by omega
    refine ev_mono (ih (s + 1) (acr fa fb gt r) (some (mI gt)) (m2 (m2 μ 29 s gt) 26 3 (s + 1)) (by omega) (by omega) t0 t1 tV hmod (fr_m2 (fr_m2 hf (by decide)) (by decide)) (fun j hj => by rw [m2_at, if_neg hj, m2_ne (by decide), h26 j hj]) (by rw [m2_at, if_pos rfl])) (fun v μ' ⟨v1, v2, v3, v4, v5⟩ => ⟨v1, v2, by omega, fun j hj => ?_, fun j hj => ?_⟩)
    · rw [v4 j (by omega), m2_ne (by decide), m2_at, if_neg (by omega)]
    · cases j with
      | zero =>
        rw [show s + ((0 : Nat) : Int) = s by omega, v4 s (by omega), m2_ne (by decide), m2_at, if_pos rfl, List.getD_cons_zero]
      | succ j =>
        have := v5 j (by omega)
        rw [show s + ((j + 1 : Nat) : Int) = s + 1 + (j : Int) by omega, this, List.getD_cons_succ]
/-- how far to a wish, by coins and gates -/
def farW (b : Bool) (μ : Nat → Int → Int) (p : Int) : Int → Int := dstN b μ (w16 (wP b μ p)) (μ 74 (44 + p))
def wayP (b : Bool) (μ : Nat → Int → Int) (p : Int) (k : Nat) : List Int := wayL (farW b μ p) (w16 (wP b μ p)) (μ (tw b + 8)) (μ (tw b + 9)) (μ (tw b + 1) 2).toNat k (μ 74 (38 + p))
theorem R_gok {b : Bool} {μ : Nat → Int → Int} (hR : R b μ) (p : Int) : gOk (μ (tw b + 8)) (μ (tw b + 9)) (wP b μ p) (μ (tw b + 1) 2).toNat 10 := Rgat_ok hR.1.1 hR.1.2.1 (fun g _ _ => by have := wP_in b μ p g; omega)
theorem R_farW {b : Bool} {μ : Nat → Int → Int} (hR : R b μ) {p : Int} (p0 : 0 ≤ p) (p1 : p < μ (tw b + 1) 3) : Dist (μ (tw b + 8)) (μ (tw b + 9)) (w16 (wP b μ p)) (μ (tw b + 1) 2).toNat 10 268435456 (μ 74 (44 + p)) (farW b μ p) := by
  obtain ⟨h1, h2, h3, h4⟩ := R_place hR p0 p1
  exact dst_dist (w16_ok (R_gok hR p) (fun g _ _ => wP_in b μ p g)) h2.1 (by omega)
theorem eX9_findWay {Φ : mOrc} {b : Bool} {p : Int} {c : Int → Int} {Q : Int → (Nat → Int → Int) → Prop} {μ0 : Nat → Int → Int} {n : Nat} (hn : n ≤ 12) (hc : ∀ g, 0 ≤ g → g < (n : Int) → 0 ≤ c g ∧ c g ≤ 99) (h1 : μ0 (tw b + 1) 2 = n) (hK : ∀ μ', Fr [27] μ0 μ' → (∀ g, 0 ≤ g → g < (n : Int) → μ' 27 g = w16 c g) → Ev (fun m => if (0 : Int) ≤ w32 (38 + p) ∧ w32 (38 + p) < (62 : Int) then (if (0 : Int) ≤ w32 (44 + p) ∧ w32 (44 + p) < (62 : Int) then (mOptR (Φ 209 [mP 26, mP (tw b), mI (μ' 74 (w32 (38 + p))), mI (μ' 74 (w32 (44 + p)))] (SH, μ', RHO b)) (fun x1 => some (x1.1, SH, x1.2.2.1, RHO b))) else none) else none) b Q) : ∀ (k : Nat) (i : Int) (μ : Nat → Int → Int), 0 ≤ i → i + k = n → Fr [27] μ0 μ → (∀ g, 0 ≤ g → g < (n : Int) → μ 27 g = if g < i then w16 c g else c g) → Ev (fun m => mRun Φ kX9_findWay m 16 [some (mP 0), some (mI p), some (mI i)] [] (SH, μ, RHO b)) b Q := by
  intro k
  induction k with
  | zero =>
    intro i μ h0 hk hf hx
    refine ev_row (fun m => tX9_findWay_16 _ m b μ p i) (ev_neg (by rw [hf _ (by have := tw_or b; simp only [List.mem_cons, List.not_mem_nil, or_false]; omega)]; omega) ?_)
    exact hK μ hf (fun g g0 g1 => by rw [hx g g0 g1, if_pos (by omega)])
  | succ k ih =>
    intro i μ h0 hk hf hx
    have hci := hc i h0 (by omega)
    have hxi := hx i h0 (by omega)
    rw [if_neg (by omega)] at hxi
    refine ev_row (fun m => tX9_findWay_16 _ m b μ p i) (ev_pos (by rw [hf _ (by have := tw_or b; simp only [List.mem_cons, List.not_mem_nil, or_false]; omega)]; omega) (ev_if (by omega) (ev_if (by omega) ?_)))
    rw [w32_id (x := i + 1) (by omega) (by omega), hxi, w32_id (x := c i * 16) (by omega) (by omega), w32_id (by omega) (by omega)]
    refine ih (i + 1) _ (by omega) (by omega) (fr_m2 hf (by decide)) (fun g g0 g1 => ?_)
    rw [m2_at]
    by_cases e : g = i
    · rw [if_pos e, if_pos (by omega), e]; unfold w16; omega
    · rw [if_neg e, hx g g0 g1]
      by_cases e2 : g < i
      · rw [if_pos e2, if_pos (by omega)]
      · rw [if_neg e2, if_neg (by omega)]
/-- what the class's finding leaves -/
theorem sX9_findWay (p : Int) (b : Bool) (μ : Nat → Int → Int) (hR : R b μ) (p0 : 0 ≤ p) (p1 : p < μ (tw b + 1) 3) : ∀ d, 7 ≤ d → Cal d 220 [mP 0, mI p] b μ (fun v μ' => Fr [24, 25, 26, 27, 28, 29] μ μ' ∧ (∀ g, 0 ≤ g → g < μ (tw b + 1) 2 → μ' 27 g = w16 (wP b μ p) g) ∧ ((farW b μ p (μ 74 (38 + p)) = 268435456 ∧ v = -1) ∨ (farW b μ p (μ 74 (38 + p)) ≠ 268435456 ∧ v = farW b μ p (μ 74 (38 + p)) / 16 ∧ μ' 26 3 = farW b μ p (μ 74 (38 + p)) % 16 ∧ ∀ j : Nat, (j : Int) < μ' 26 3 → μ' 29 j = (wayP b μ p (farW b μ p (μ 74 (38 + p)) % 16).toNat).getD j 0))) := deepC fun d hd => by
  obtain ⟨h1, h2, h3, h4⟩ := R_place hR p0 p1
  have hC := Rcnt_C hR.1.1
  have hgok := R_gok hR p
  have hcc : ∀ g, 0 ≤ g → g < (((μ (tw b + 1) 2).toNat : Nat) : Int) → 0 ≤ wP b μ p g ∧ wP b μ p g ≤ 99 := fun g _ _ => wP_in b μ p g
  have hD := R_farW hR p0 p1
  have e1 : w32 (38 + p) = 38 + p := w32_id (by omega) (by omega)
  have e2 : w32 (44 + p) = 44 + p := w32_id (by omega) (by omega)
  refine cal_ev (fun r => call_X9_findWay d b μ p) (ev_row (fun m => tX9_findWay_0 _ m b μ p) (ev_if (by omega) (ev_callP (R_weigh p hR p0 p1 d hd) (fun _ μ1 ⟨hf1, hw⟩ => ?_))))
  have k1 : μ1 (tw b + 1) = μ (tw b + 1) := hf1 _ (by have := tw_or b; simp only [List.mem_cons, List.not_mem_nil, or_false]; omega)
  refine eX9_findWay (n := (μ (tw b + 1) 2).toNat) (c := wP b μ p) (μ0 := μ1) (by omega) hcc (by rw [k1]; omega) (fun μ2 hf2 hw2 => ?_) (μ (tw b + 1) 2).toNat 0 μ1 (by omega) (by omega) fr_rfl (fun g g0 g1 => by rw [if_neg (by omega)]; exact hw g g0 (by omega))
  have hf12 : Fr [24, 25, 26, 27, 28, 29] μ μ2 := fr_tr (fr_sub hf1 (by simp)) hf2 (by simp)
  have hne : ∀ a, (a < 24 ∨ 29 < a) → μ2 a = μ a := fun a ha => hf12 a (by simp only [List.mem_cons, List.not_mem_nil, or_false]; omega)
  rw [e1, e2, hne 74 (by decide)]
  refine ev_if (by omega) (ev_if (by omega) ?_)
  have htr : Cal d 209 [mP 26, mP (tw b), mI (μ 74 (38 + p)), mI (μ 74 (44 + p))] b μ2 (fun v μ' => Fr [26, 28, 29] μ2 μ' ∧ ((farW b μ p (μ 74 (38 + p)) = 268435456 ∧ v = -1) ∨ (farW b μ p (μ 74 (38 + p)) ≠ 268435456 ∧ v = farW b μ p (μ 74 (38 + p)) / 16 ∧ μ' 26 3 = farW b μ p (μ 74 (38 + p)) % 16 ∧ ∀ j : Nat, (j : Int) < μ' 26 3 → μ' 29 j = (wayP b μ p (farW b μ p (μ 74 (38 + p)) % 16).toNat).getD j 0))) := by
    have hdd : d = (d - 1) + 1 := by omega
    rw [hdd]
    have t8 : μ2 (tw b + 8) = μ (tw b + 8) := hne _ (by have := tw_or b; omega)
    have t9 : μ2 (tw b + 9) = μ (tw b + 9) := hne _ (by have := tw_or b; omega)
    have t1 : μ2 (tw b + 1) = μ (tw b + 1) := hne _ (by have := tw_or b; omega)
    have hM := sX8_measure b (μ 74 (44 + p)) b (m2 μ2 26 3 0) (n := (μ (tw b + 1) 2).toNat) (by
      rw [m2_ne (by have := tw_or b; omega), m2_ne (by have := tw_or b; omega), m2_ne (by decide : (27 : Nat) ≠ 26), t8, t9]
      intro g g0 g1
      obtain ⟨a1, a2, -⟩ := hgok g g0 g1
      rw [hw2 g g0 g1]
      have := hcc g g0 g1
      exact ⟨a1, a2, by unfold w16; omega⟩) (by omega) (by rw [m2_ne (by have := tw_or b; omega), t1]; omega) (fun g g0 g1 => by rw [m2_ne (by decide : (27 : Nat) ≠ 26), hw2 g g0 g1]; have := hcc g g0 g1; unfold w16; omega) h2.1 (by omega) (d - 1) (by omega)
    rw [m2_ne (by have := tw_or b; omega), m2_ne (by have := tw_or b; omega), m2_ne (by decide : (27 : Nat) ≠ 26), t8, t9] at hM
    refine cal_ev (fun r => call_X8_trace (d - 1) b μ2 _ _ b) (ev_row (fun m => tX8_trace_0 _ m b μ2 _ _ b) (ev_callP hM (fun _ μ3 ⟨hf3, hD3⟩ => ?_)))
    have hwd : Dist (μ (tw b + 8)) (μ (tw b + 9)) (w16 (wP b μ p)) (μ (tw b + 1) 2).toNat 10 268435456 (μ 74 (44 + p)) (μ3 28) := by
      have hcg : ∀ (h : Nat) (v c : Int), Wk (μ (tw b + 8)) (μ (tw b + 9)) (μ2 27) (μ (tw b + 1) 2).toNat h (μ 74 (44 + p)) v c → Wk (μ (tw b + 8)) (μ (tw b + 9)) (w16 (wP b μ p)) (μ (tw b + 1) 2).toNat h (μ 74 (44 + p)) v c := Wk_mono (fun g g0 g1 _ => (hw2 g g0 g1).symm)
      refine ⟨hD3.1, fun v v0 v1 => ?_, fun g g0 g1 gw => ?_⟩
      · obtain ⟨a1, a2, a3⟩ := hD3.2.1 v v0 v1
        exact ⟨a1, a2, a3.imp id (fun ⟨h, b1, b2⟩ => ⟨h, b1, hcg h v _ b2⟩)⟩
      · have := hD3.2.2 g g0 g1 (by rw [hw2 g g0 g1]; exact gw)
        rw [hw2 g g0 g1] at this
        exact this
    have hF3 : ∀ x, 0 ≤ x → x < 10 → μ3 28 x = farW b μ p x := fun x x0 x1 => Dist_uniq (w16_ok hgok hcc) h2.1 (by omega) (by decide : (0 : Int) ≤ 100000) (by decide) (fun g g0 g1 => by have := hcc g g0 g1; unfold w16; omega) hwd hD x0 x1
    have hne3 : ∀ a, a ≠ 28 → μ3 a = m2 μ2 26 3 0 a := fun a h => hf3 a (by simpa using h)
    have hin := hD.2.1 (μ 74 (38 + p)) h1.1 (by omega)
    refine ev_if ⟨h1.1, by omega⟩ (ev_br (fun q => ?_) (fun q => ?_))
    · have q' : μ3 28 (μ 74 (38 + p)) < 268435456 := q
      rw [hF3 _ h1.1 (by omega)] at q'
      obtain ⟨K, h, a1, a2, a3, a4, a5, a6⟩ := D_room hgok hcc h2.1 (by omega) hD h1.1 (by omega) (by omega)
      have hm : farW b μ p (μ 74 (38 + p)) % 16 = h := by omega
      refine ev_mono (eX8_trace (by omega) (c := b) (fa := μ (tw b + 8)) (fb := μ (tw b + 9)) (cc := wP b μ p) (F := farW b μ p) (n := (μ (tw b + 1) 2).toNat) (μ0 := μ3) hgok (by omega) hcc h2.1 (by omega) hD (by rw [hne3 _ (by have := tw_or b; omega), m2_ne (by have := tw_or b; omega), t8]) (by rw [hne3 _ (by have := tw_or b; omega), m2_ne (by have := tw_or b; omega), t9]) (by rw [hne3 _ (by have := tw_or b; omega), m2_ne (by have := tw_or b; omega), t1]; omega) (fun g g0 g1 => by rw [hne3 27 (by decide), m2_ne (by decide)]; exact hw2 g g0 g1) hF3 h1.1 (by omega) h 0 (μ 74 (38 + p)) none μ3 (by decide) (by omega) h1.1 (by omega) (by omega) hm fr_rfl (fun _ _ => rfl) (by rw [hne3 26 (by decide), m2_at, if_pos rfl])) (fun v μ' ⟨u1, u2, u3, u4, u5⟩ => ⟨?_, Or.inr ⟨by omega, u1, by omega, fun j hj => ?_⟩⟩)
      · intro a ha
        simp only [List.mem_cons, List.not_mem_nil, or_false, not_or] at ha
        rw [u2 a (by simp [ha.1, ha.2.2]), hne3 a ha.2.1, m2_ne ha.1]
      · have hjh : j < h := by omega
        have := u5 j hjh
        rw [Int.zero_add] at this
        rw [this, hm]; rfl
    · have q' : ¬ μ3 28 (μ 74 (38 + p)) < 268435456 := q
      rw [hF3 _ h1.1 (by omega)] at q'
      refine ev_ret ⟨?_, Or.inl ⟨by omega, rfl⟩⟩
      intro a ha
      simp only [List.mem_cons, List.not_mem_nil, or_false, not_or] at ha
      show μ3 a = μ2 a
      rw [hne3 a ha.2.1, m2_ne ha.1]
  refine ev_callP htr (fun v μ3 ⟨hf3, hv⟩ => ev_ret ⟨fr_tr hf12 hf3 (by simp), fun g g0 g1 => ?_, hv⟩)
  show μ3 27 g = _
  rw [hf3 27 (by decide)]; exact hw2 g g0 (by omega)
