theorem eX10_finds_57 {d : Nat} (hd : 1 ≤ d) {b : Bool} {fa fb cost : Int → Int} {n : Nat} {s wo : Int} {kk : Nat} {Q : Int → (Nat → Int → Int) → Prop} (hfa : fa = fun g => fa g) (hg : gOk fa fb cost n 10) (hgw : gOk fa fb (wr cost wo) n 10) (hn : n ≤ 12) (hc : ∀ g, 0 ≤ g → g < (n : Int) → 0 ≤ cost g ∧ cost g ≤ 99) (hs0 : 0 ≤ s) (hs1 : s < 10) : ∀ (k : Nat) (i f : Int) (v5 v6 : Option mV) (L : Int → Int) (H : Int → Nat) (μ : Nat → Int → Int), 0 ≤ i → i + k = n → (f = 0 ∨ f = 1) → (∀ g, 0 ≤ g → g < (n : Int) → μ 124 (36 + 3 * g) = fa g ∧ μ 124 (36 + 3 * g + 1) = fb g ∧ μ 135 g = cost g) → μ 120 7 = n → RL (μ 136) (μ 137) L → gInv fa fb (wr cost wo) n 10 268435456 s kk i L H →
    (∀ μ' v4 v5 v6 H', Fr [136, 137] μ μ' → RL (μ' 136) (μ' 137) (gPs fa fb (wr cost wo) k i L) → gInv fa fb (wr cost wo) n 10 268435456 s kk n (gPs fa fb (wr cost wo) k i L) H' → Ev (fun m => mRun (mCallN d) kX10_finds m 48 [some (mP 96), some (mI s), some (mI wo), some (mI (gFl fa fb (wr cost wo) k i L f)), some (mI v4), v5, v6] [] (SH, μ', RHO b)) b Q) →
    Ev (fun m => mRun (mCallN d) kX10_finds m 57 [some (mP 96), some (mI s), some (mI wo), some (mI f), some (mI i), v5, v6] [] (SH, μ, RHO b)) b Q := by
  intro k
  induction k with
  | zero =>
    intro i f v5 v6 L H μ h0 hk hf hG h7 hL hi hK
    refine ev_row (fun m => tX10_finds_57 _ m b μ s wo f i v5 v6) (ev_call (sX10_gateMany b μ d hd) (ev_neg (by show ¬ (i < μ 120 7); omega) ?_))
    exact hK μ i v5 v6 H fr_rfl hL (by rw [show (n : Int) = i by omega]; exact hi)
  | succ k ih =>
    intro i f v5 v6 L H μ h0 hk hf hG h7 hL hi hK
    have e5 : w32 (i + 1) = i + 1 := w32_id (by omega) (by omega)
    have ci : 0 ≤ i ∧ i < 12 := ⟨h0, by omega⟩
    obtain ⟨H', hi'⟩ := gInv_st hgw hi h0 (by omega) hs0 (by omega)
    refine ev_row (fun m => tX10_finds_57 _ m b μ s wo f i v5 v6) (ev_call (sX10_gateMany b μ d hd) (ev_pos (by show i < μ 120 7; omega) ?_))
    have key : ∀ (μ' : Nat → Int → Int) (f' : Int) (v5 v6 : Option mV), Fr [136, 137] μ μ' → RL (μ' 136) (μ' 137) (gSt fa fb (wr cost wo) L i) → f' = (if wr cost wo i ≠ -1 ∧ (L (fa i) + wr cost wo i < L (fb i) ∨ L (fb i) + wr cost wo i < L (fa i)) then 1 else f) → Ev (fun m => mRun (mCallN d) kX10_finds m 145 [some (mP 96), some (mI s), some (mI wo), some (mI f'), some (mI i), v5, v6] [] (SH, μ', RHO b)) b Q := fun μ' f' v5 v6 hfr hL' hf' => by
      refine ev_row (fun m => tX10_finds_145 _ m b μ' s wo f' i v5 v6) ?_
      rw [e5]
      have hne : ∀ a, a ≠ 136 → a ≠ 137 → μ' a = μ a := fun a h1 h2 => hfr a (by simp [h1, h2])
      refine ih (i + 1) f' v5 v6 _ H' μ' (by omega) (by omega) ?_ ?_ ?_ hL' hi' (fun μ2 v4 v5 v6 H2 hf2 hL2 hi2 => ?_)
      · rw [hf']; split
        · exact Or.inr rfl
        · exact hf
      · rw [hne 124 (by decide) (by decide), hne 135 (by decide) (by decide)]; exact hG
      · rw [hne 120 (by decide) (by decide)]; exact h7
      · have := hK μ2 v4 v5 v6 H2 (fr_tr hfr hf2 (fun a h => h)) (by rw [gPs]; exact hL2) (by rw [gPs]; exact hi2)
        rw [gFl, ← hf'] at this
        exact this
    refine ev_br (fun e => ?_) (fun e => ?_)
    · have hwr : wr cost wo i = -1 := if_pos e
      exact key μ f v5 v6 fr_rfl (by unfold gSt; rw [if_pos hwr]; exact hL) (by rw [if_neg (fun h => h.1 hwr)])
    · obtain ⟨g1, g2, g3⟩ := hG i h0 (by omega)
      have hA := sX10_firstRoom i b μ h0 (by omega) d hd
      have hB := sX10_otherRoom i b μ h0 (by omega) d hd
      rw [g1] at hA
      rw [g2] at hB
      obtain ⟨x4, x7, μ1, μ2, hC, hD, hf1, hf2, hL', h01, h02, hiff⟩ := RL_both (b := b) hd (μ := μ) hg hc h0 (by omega) e hL (gInv_nine hi' hg hs0 hs1 hc)
      rw [← g3] at hC hD
      have hne : ∀ a, a ≠ 136 → a ≠ 137 → μ1 a = μ a := fun a h1 h2 => hf1 a (by simp [h1, h2])
      have hA' := sX10_firstRoom i b μ1 h0 (by omega) d hd
      have hB' := sX10_otherRoom i b μ1 h0 (by omega) d hd
      rw [hne 124 (by decide) (by decide), g1] at hA'
      rw [hne 124 (by decide) (by decide), g2] at hB'
      have hD' : mCallN d 58 [mP 96, mI (fb i), mI (fa i), mI (μ1 135 i)] (SH, μ1, RHO b) = some (x7, SH, μ2, RHO b) := by
        rw [hne 135 (by decide) (by decide)]; exact hD
      refine ev_call hA (ev_call hB (ev_if ci (ev_call hC (ev_call hB' (ev_call hA' (ev_if ci (ev_call hD' ?_)))))))
      dsimp only
      have k1 : ∀ (f' : Int), f' = (if wr cost wo i ≠ -1 ∧ (L (fa i) + wr cost wo i < L (fb i) ∨ L (fb i) + wr cost wo i < L (fa i)) then 1 else f) → Ev (fun m => mRun (mCallN d) kX10_finds m 144 [some (mP 96), some (mI s), some (mI wo), some (mI f), some (mI i), some (mI x4), some (mI x7)] [mI f'] (SH, μ2, RHO b)) b Q := fun f' hf' => by
        refine ev_row (fun m => tX10_finds_144 _ m b μ2 s wo f i x4 x7 f') ?_
        exact key μ2 f' _ _ hf2 hL' hf'
      have k2 : (1 : Int) = (if wr cost wo i ≠ -1 ∧ (L (fa i) + wr cost wo i < L (fb i) ∨ L (fb i) + wr cost wo i < L (fa i)) then 1 else f) → Ev (fun m => mRun (mCallN d) kX10_finds m 139 [some (mP 96), some (mI s), some (mI wo), some (mI f), some (mI i), some (mI x4), some (mI x7)] [] (SH, μ2, RHO b)) b Q := fun h => ev_row (fun m => tX10_finds_139 _ m b μ2 s wo f i x4 x7) (k1 1 h)
      refine ev_br (fun c1 => ev_br (fun c2 => ev_br (fun c3 => ?_) (fun c3 => ?_)) (fun c2 => ?_)) (fun c1 => ?_)
      · refine k1 0 ?_
        rw [if_neg (fun h => by have := hiff.2 h; omega), c1]
      · exact k2 (by rw [if_pos (hiff.1 (by omega))])
      · exact k2 (by rw [if_pos (hiff.1 (by omega))])
      · refine k2 ?_
        split
        · rfl
        · omega
theorem eX10_finds_48 {d : Nat} (hd : 1 ≤ d) {b : Bool} {fa fb cost : Int → Int} {n : Nat} {s wo : Int} {μ0 : Nat → Int → Int} (hg : gOk fa fb cost n 10) (hgw : gOk fa fb (wr cost wo) n 10) (hn : n ≤ 12) (hc : ∀ g, 0 ≤ g → g < (n : Int) → 0 ≤ cost g ∧ cost g ≤ 99) (hs0 : 0 ≤ s) (hs1 : s < 10) : ∀ (m k : Nat) (v4 v5 v6 : Option mV) (L : Int → Int) (H : Int → Nat) (μ : Nat → Int → Int), k + m = 10 → (∀ g, 0 ≤ g → g < (n : Int) → μ 124 (36 + 3 * g) = fa g ∧ μ 124 (36 + 3 * g + 1) = fb g ∧ μ 135 g = cost g) → μ 120 7 = n → RL (μ 136) (μ 137) L → gInv fa fb (wr cost wo) n 10 268435456 s k 0 L H → Fr [136, 137] μ0 μ →
    Ev (fun j => mRun (mCallN d) kX10_finds j 48 [some (mP 96), some (mI s), some (mI wo), some (mI 1), v4, v5, v6] [] (SH, μ, RHO b)) b (fun _ μ' => Fr [136, 137] μ0 μ' ∧ RL (μ' 136) (μ' 137) (gIt fa fb (wr cost wo) n (m + 1) L)) := by
  intro m
  induction m with
  | zero =>
    intro k v4 v5 v6 L H μ hk hG h7 hL hi hf0
    refine ev_row (fun j => tX10_finds_48 _ j b μ s wo 1 v4 v5 v6) (ev_neg (by decide) ?_)
    refine eX10_finds_57 hd rfl hg hgw hn hc hs0 hs1 n 0 0 v5 v6 L H μ (by omega) (by omega) (Or.inl rfl) hG h7 hL hi (fun μ' v4' v5' v6' H' hf hL' hi' => ?_)
    have hfix : gFl fa fb (wr cost wo) n 0 L 0 = 0 := (gFl_fix n 0 L (fun g g0 g1 hch => by
      have hfg := hi.2.2 g g0 (by omega) hch.1
      rw [if_neg (by omega)] at hfg
      obtain ⟨⟨a0, a1⟩, ⟨b0, b1⟩, -⟩ := hgw g g0 (by omega)
      have ca := (hi.1 (fa g) a0 a1).2.2.2
      have cb := (hi.1 (fb g) b0 b1).2.2.2
      have la := cnt_le L (L (fa g)) 10
      have lb := cnt_le L (L (fb g)) 10
      have q1 := hfg.1.resolve_right (by omega)
      have q2 := hfg.2.resolve_right (by omega)
      omega)).1
    rw [hfix]
    exact ev_row (fun j => tX10_finds_48 _ j b μ' s wo 0 (some (mI v4')) v5' v6') (ev_pos rfl (ev_ret ⟨fr_tr hf0 hf (fun a h => h), hL'⟩))
  | succ m ih =>
    intro k v4 v5 v6 L H μ hk hG h7 hL hi hf0
    refine ev_row (fun j => tX10_finds_48 _ j b μ s wo 1 v4 v5 v6) (ev_neg (by decide) ?_)
    refine eX10_finds_57 hd rfl hg hgw hn hc hs0 hs1 n 0 0 v5 v6 L H μ (by omega) (by omega) (Or.inl rfl) hG h7 hL hi (fun μ' v4' v5' v6' H' hf hL' hi' => ?_)
    have hne : ∀ a, a ≠ 136 → a ≠ 137 → μ' a = μ a := fun a h1 h2 => hf a (by simp [h1, h2])
    by_cases e : gFl fa fb (wr cost wo) n 0 L 0 = 0
    · rw [e]
      have hz := (gFl_zero n 0 L e).1
      refine ev_row (fun j => tX10_finds_48 _ j b μ' s wo 0 (some (mI v4')) v5' v6') (ev_pos rfl (ev_ret ⟨fr_tr hf0 hf (fun a h => h), ?_⟩))
      rw [gIt_fix hz]; rw [hz] at hL'; exact hL'
    · have e1 : gFl fa fb (wr cost wo) n 0 L 0 = 1 := by
        rcases gFl_01 fa fb (wr cost wo) n 0 L 0 (Or.inl rfl) with h | h
        · exact absurd h e
        · exact h
      rw [e1, gIt]
      refine ih (k + 1) (some (mI v4')) v5' v6' _ H' μ' (by omega) ?_ ?_ hL' ?_ (fr_tr hf0 hf (fun a h => h))
      · rw [hne 124 (by decide) (by decide), hne 135 (by decide) (by decide)]; exact hG
      · rw [hne 120 (by decide) (by decide)]; exact h7
      · refine ⟨hi'.1, hi'.2.1, fun g g0 g1 gw => ?_⟩
        have h4 := hi'.2.2 g g0 g1 gw
        rw [if_pos g1] at h4
        rw [if_neg (by omega)]
        exact h4
theorem eX10_finds_2 {Φ : mOrc} {b : Bool} {s wo : Int} {Q : Int → (Nat → Int → Int) → Prop} {μ0 : Nat → Int → Int} (hs0 : 0 ≤ s) (hs1 : s < 10) (hK : ∀ μ', Fr [136, 137] μ0 μ' → RL (μ' 136) (μ' 137) (fun x => if x = s then 0 else 268435456) → Ev (fun j => mRun Φ kX10_finds j 48 [some (mP 96), some (mI s), some (mI wo), some (mI 1), none, none, none] [] (SH, μ', RHO b)) b Q) : ∀ (k : Nat) (i : Int) (μ : Nat → Int → Int), 0 ≤ i → i + k = 10 → Fr [136, 137] μ0 μ → (∀ x, 0 ≤ x → x < i → μ 136 x = 1000000 ∧ μ 137 x = 1000000) →
    Ev (fun j => mRun Φ kX10_finds j 2 [some (mP 96), some (mI s), some (mI wo), some (mI i), none, none, none] [] (SH, μ, RHO b)) b Q := by
  intro k
  induction k with
  | zero =>
    intro i μ h0 hk hf hx
    refine ev_row (fun j => tX10_finds_2 _ j b μ s wo i) (ev_neg (by omega) (ev_if ⟨hs0, hs1⟩ (ev_if ⟨hs0, hs1⟩ ?_)))
    refine hK _ (fr_m2 (fr_m2 hf (by decide)) (by decide)) (fun x x0 x1 => ?_)
    rw [m2_ne (by decide : (136 : Nat) ≠ 137), m2_at, m2_at, m2_ne (by decide : (137 : Nat) ≠ 136)]
    obtain ⟨h1, h2⟩ := hx x x0 (by omega)
    dsimp only
    by_cases e : x = s
    · rw [if_pos e, if_pos e, if_pos e]; right; omega
    · rw [if_neg e, if_neg e, if_neg e, h1, h2]; left; omega
  | succ k ih =>
    intro i μ h0 hk hf hx
    have ci : 0 ≤ i ∧ i < 10 := ⟨h0, by omega⟩
    refine ev_row (fun j => tX10_finds_2 _ j b μ s wo i) (ev_pos (by omega) (ev_if ci (ev_if ci ?_)))
    rw [w32_id (by omega) (by omega)]
    refine ih (i + 1) _ (by omega) (by omega) (fr_m2 (fr_m2 hf (by decide)) (by decide)) (fun x x0 x1 => ?_)
    rw [m2_ne (by decide : (136 : Nat) ≠ 137), m2_at, m2_at, m2_ne (by decide : (137 : Nat) ≠ 136)]
    by_cases e : x = i
    · rw [if_pos e, if_pos e]; exact ⟨rfl, rfl⟩
    · rw [if_neg e, if_neg e]; exact hx x x0 (by omega)
/-- what finding leaves -/
theorem sX10_finds (s wo : Int) (b : Bool) (μ : Nat → Int → Int) {fa fb cost : Int → Int} {n : Nat} (hG : ∀ g, 0 ≤ g → g < (n : Int) → μ 124 (36 + 3 * g) = fa g ∧ μ 124 (36 + 3 * g + 1) = fb g ∧ μ 135 g = cost g) (hg : gOk fa fb cost n 10) (hn : n ≤ 12) (h7 : μ 120 7 = n) (hc : ∀ g, 0 ≤ g → g < (n : Int) → 0 ≤ cost g ∧ cost g ≤ 99) (hs0 : 0 ≤ s) (hs1 : s < 10) : ∀ d, 2 ≤ d → Cal d 39 [mP 96, mI s, mI wo] b μ (fun _ μ' => Fr [136, 137] μ μ' ∧ ∃ F, Dist fa fb (wr cost wo) n 10 268435456 s F ∧ RL (μ' 136) (μ' 137) F) := deepC fun d hd => by
  have hgw : gOk fa fb (wr cost wo) n 10 := fun g g0 g1 => by
    obtain ⟨h1, h2, -⟩ := hg g g0 g1
    have := hc g g0 g1
    refine ⟨h1, h2, ?_⟩
    unfold wr; split <;> omega
  refine cal_ev (fun r => call_X10_finds d b μ s wo) ?_
  refine ev_row (fun m => tX10_finds_0 _ m b μ s wo) ?_
  refine eX10_finds_2 (μ0 := μ) hs0 hs1 (fun μ' hf hL => ?_) 10 0 μ (by decide) (by decide) fr_rfl (fun x x0 x1 => absurd x0 (by omega))
  have hne : ∀ a, a ≠ 136 → a ≠ 137 → μ' a = μ a := fun a h1 h2 => hf a (by simp [h1, h2])
  have hL1 : (fun x => if x = s then (0 : Int) else 268435456) s = 0 := if_pos rfl
  have hL2 : ∀ v, 0 ≤ v → v < ((10 : Nat) : Int) → v ≠ s → (fun x => if x = s then (0 : Int) else 268435456) v = 268435456 := fun v _ _ e => if_neg e
  refine ev_mono (eX10_finds_48 hd (μ0 := μ) hg hgw hn hc hs0 hs1 10 0 none none none _ (fun _ => 0) μ' (by decide) ?_ ?_ hL (gInv_0 (by decide) hL1 hL2) hf) (fun v μ2 h => ⟨h.1, _, ?_, h.2⟩)
  · rw [hne 124 (by decide) (by decide), hne 135 (by decide) (by decide)]; exact hG
  · rw [hne 120 (by decide) (by decide)]; exact h7
  · exact gIt_dist hgw hs0 (by omega) (by decide) (by decide) hL1 hL2
