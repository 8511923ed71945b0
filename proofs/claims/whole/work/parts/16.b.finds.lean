/-! ===== the reference finds ===== -/
/-- coins and gates, told by one number -/
def RL (K G L : Int → Int) : Prop := ∀ x, 0 ≤ x → x < 10 → (L x = 268435456 ∧ K x = 1000000 ∧ G x = 1000000) ∨ (L x ≠ 268435456 ∧ L x = 16 * K x + G x ∧ 0 ≤ G x ∧ G x ≤ 9 ∧ 0 ≤ K x ∧ K x ≤ 900)
def wr (cost : Int → Int) (wo : Int) : Int → Int := fun g => if g = wo then -1 else 16 * cost g + 1
theorem gInv_nine {fa fb cost : Int → Int} {n : Nat} {s wo : Int} {k : Nat} {i : Int} {L : Int → Int} {H : Int → Nat} (hi : gInv fa fb (wr cost wo) n 10 268435456 s k i L H) (hg : gOk fa fb cost n 10) (hs0 : 0 ≤ s) (hs1 : s < 10) (hc : ∀ g, 0 ≤ g → g < (n : Int) → 0 ≤ cost g ∧ cost g ≤ 99) : ∀ v, 0 ≤ v → v < 10 → L v = 268435456 ∨ ∃ c h, L v = 16 * c + h ∧ 0 ≤ h ∧ h ≤ 9 ∧ 0 ≤ c ∧ c ≤ 900 := fun v v0 v1 => by
  obtain ⟨-, -, h1, h2⟩ := hi.1 v v0 (by omega)
  refine h1.imp id (fun h1 => ?_)
  have h3 := cnt_le L (L v) 10
  obtain ⟨c, h4, h5⟩ := Wk_down (w := fun g => if g = wo then -1 else cost g) (fun g g0 g1 gw => by
    by_cases e : g = wo
    · simp only [if_pos e] at gw; exact absurd rfl gw
    · simp only [wr, if_neg e]) (fun g g0 g1 gw => by
    by_cases e : g = wo
    · simp only [wr, if_pos e]
    · simp only [if_neg e] at gw
      have := hc g g0 g1; omega) (H v) v _ h1
  have hg' : gOk fa fb (fun g => if g = wo then -1 else cost g) n 10 := fun g g0 g1 => by
    obtain ⟨a, b, c⟩ := hg g g0 g1
    refine ⟨a, b, ?_⟩
    dsimp only
    split <;> omega
  have h6 := (Wk_in hg' hs0 (by omega) _ _ _ h5).2
  have h7 := Wk_most (W := 99) (fun g g0 g1 => by
    have := hc g g0 g1
    split <;> omega) _ _ _ h5
  exact ⟨c, H v, h4, by omega, by omega, h6, by omega⟩
theorem sX10_improves (p q w : Int) (b : Bool) (μ : Nat → Int → Int) {L : Int → Int} (hL : RL (μ 136) (μ 137) L) (hp0 : 0 ≤ p) (hp1 : p < 10) (hq0 : 0 ≤ q) (hq1 : q < 10) (hw0 : 0 ≤ w) (hw1 : w ≤ 99) : ∀ d, 1 ≤ d → mCallN d 58 [mP 96, mI p, mI q, mI w] (SH, μ, RHO b) = some (if L q + (16 * w + 1) < L p then (1, SH, m2 (m2 μ 136 p (μ 136 q + w)) 137 p (μ 137 q + 1), RHO b) else (0, SH, μ, RHO b)) := deep fun d _ => by
  have c1 : 0 ≤ p ∧ p < 10 := ⟨hp0, hp1⟩
  have c2 : 0 ≤ q ∧ q < 10 := ⟨hq0, hq1⟩
  have h1 := hL p hp0 hp1
  have h2 := hL q hq0 hq1
  refine call_X10_improves d b μ p q w ⟨2, ?_⟩
  rw [tX10_improves_0, if_pos c2]
  by_cases a0 : μ 136 q = 1000000
  · rw [mBr_pos a0, if_neg (by omega)]
  · have e1 : w32 (μ 136 q + w) = μ 136 q + w := w32_id (by omega) (by omega)
    have e2 : w32 (μ 137 q + 1) = μ 137 q + 1 := w32_id (by omega) (by omega)
    rw [mBr_neg a0, e1, e2, if_pos c2, if_pos c2, if_pos c1]
    by_cases a1 : μ 136 p < μ 136 q + w
    · rw [mBr_pos a1, tX10_improves_67, if_neg (by omega)]
    · rw [mBr_neg a1, if_pos c1]
      by_cases a2 : μ 136 q + w = μ 136 p
      · rw [mBr_pos a2, if_pos c1]
        by_cases a3 : μ 137 q + 1 < μ 137 p
        · rw [mBr_pos a3, tX10_improves_69, if_pos c1, if_pos c1, if_pos (by omega)]
        · rw [mBr_neg a3, tX10_improves_67, if_neg (by omega)]
      · rw [mBr_neg a2, tX10_improves_69, if_pos c1, if_pos c1, if_pos (by omega)]
theorem RL_upd {K G L : Int → Int} {p q w x : Int} (hL : RL K G L) (hq0 : 0 ≤ q) (hq1 : q < 10) (hlt : L q + (16 * w + 1) < L p) (hp0 : 0 ≤ p) (hp1 : p < 10) (hw0 : 0 ≤ w) (hw1 : w ≤ 99) (hn : uPd L p (L q + (16 * w + 1)) p = 268435456 ∨ ∃ c h, uPd L p (L q + (16 * w + 1)) p = 16 * c + h ∧ 0 ≤ h ∧ h ≤ 9 ∧ 0 ≤ c ∧ c ≤ 900) : RL (uPd K p (K q + w)) (uPd G p (G q + 1)) (uPd L p (L q + (16 * w + 1))) := fun x x0 x1 => by
  have h1 := hL p hp0 hp1
  have h2 := hL q hq0 hq1
  rw [uPd_same] at hn
  by_cases e : x = p
  · subst e
    rw [uPd_same, uPd_same, uPd_same]
    right
    refine ⟨by omega, by omega, ?_⟩
    rcases hn with hn | ⟨c, h, hn, hn2⟩
    · omega
    · omega
  · rw [uPd_ne e, uPd_ne e, uPd_ne e]; exact hL x x0 x1
/-- both ways through one gate -/
theorem RL_both {b : Bool} {d : Nat} (hd : 1 ≤ d) {μ : Nat → Int → Int} {fa fb cost L : Int → Int} {n : Nat} {g wo : Int} (hg : gOk fa fb cost n 10) (hc : ∀ g, 0 ≤ g → g < (n : Int) → 0 ≤ cost g ∧ cost g ≤ 99) (h0 : 0 ≤ g) (h1 : g < n) (hwo : g ≠ wo) (hL : RL (μ 136) (μ 137) L) (hn : ∀ v, 0 ≤ v → v < 10 → gSt fa fb (wr cost wo) L g v = 268435456 ∨ ∃ c h, gSt fa fb (wr cost wo) L g v = 16 * c + h ∧ 0 ≤ h ∧ h ≤ 9 ∧ 0 ≤ c ∧ c ≤ 900) :
    ∃ v1 v2 μ1 μ2, mCallN d 58 [mP 96, mI (fa g), mI (fb g), mI (cost g)] (SH, μ, RHO b) = some (v1, SH, μ1, RHO b) ∧ mCallN d 58 [mP 96, mI (fb g), mI (fa g), mI (cost g)] (SH, μ1, RHO b) = some (v2, SH, μ2, RHO b) ∧ Fr [136, 137] μ μ1 ∧ Fr [136, 137] μ μ2 ∧ RL (μ2 136) (μ2 137) (gSt fa fb (wr cost wo) L g) ∧ (v1 = 0 ∨ v1 = 1) ∧ (v2 = 0 ∨ v2 = 1) ∧ ((v1 = 1 ∨ v2 = 1) ↔ (wr cost wo g ≠ -1 ∧ (L (fa g) + wr cost wo g < L (fb g) ∨ L (fb g) + wr cost wo g < L (fa g)))) := by
  obtain ⟨⟨a0, a1⟩, ⟨b0, b1⟩, -⟩ := hg g h0 h1
  have a1' : fa g < 10 := by omega
  have b1' : fb g < 10 := by omega
  obtain ⟨c0, c1⟩ := hc g h0 h1
  have hwr : wr cost wo g = 16 * cost g + 1 := if_neg hwo
  have n1 : wr cost wo g ≠ -1 := by omega
  have hgs : gSt fa fb (wr cost wo) L g = (if L (fa g) + (16 * cost g + 1) < L (fb g) then uPd L (fb g) (L (fa g) + (16 * cost g + 1)) else if L (fb g) + (16 * cost g + 1) < L (fa g) then uPd L (fa g) (L (fb g) + (16 * cost g + 1)) else L) := by
    unfold gSt; rw [if_neg n1, hwr]
  rw [hgs] at hn ⊢
  have hA := sX10_improves (fa g) (fb g) (cost g) b μ hL a0 a1' b0 b1' c0 c1 d hd
  by_cases e1 : L (fb g) + (16 * cost g + 1) < L (fa g)
  · have e2 : ¬ L (fa g) + (16 * cost g + 1) < L (fb g) := by omega
    rw [if_neg e2, if_pos e1] at hn ⊢
    rw [if_pos e1] at hA
    have hL2 := RL_upd (x := 0) hL b0 b1' e1 a0 a1' c0 c1 (hn (fa g) a0 a1')
    have hL3 : RL (m2 (m2 μ 136 (fa g) (μ 136 (fb g) + cost g)) 137 (fa g) (μ 137 (fb g) + 1) 136) (m2 (m2 μ 136 (fa g) (μ 136 (fb g) + cost g)) 137 (fa g) (μ 137 (fb g) + 1) 137) (uPd L (fa g) (L (fb g) + (16 * cost g + 1))) := by
      rw [m2_ne (by decide : (136 : Nat) ≠ 137), m2_uPd, m2_uPd, m2_ne (by decide : (137 : Nat) ≠ 136)]; exact hL2
    have hB := sX10_improves (fb g) (fa g) (cost g) b _ hL3 b0 b1' a0 a1' c0 c1 d hd
    rw [if_neg (by
      rw [uPd_same, uPd_at]
      split <;> omega)] at hB
    refine ⟨1, 0, _, _, hA, hB, fr_m2 (fr_m2 fr_rfl (by decide)) (by decide), fr_m2 (fr_m2 fr_rfl (by decide)) (by decide), hL3, Or.inr rfl, Or.inl rfl, ?_⟩
    rw [hwr]
    exact ⟨fun _ => ⟨by omega, Or.inr e1⟩, fun _ => Or.inl rfl⟩
  · rw [if_neg e1] at hA
    have hB := sX10_improves (fb g) (fa g) (cost g) b μ hL b0 b1' a0 a1' c0 c1 d hd
    by_cases e2 : L (fa g) + (16 * cost g + 1) < L (fb g)
    · rw [if_pos e2] at hn hB ⊢
      have hL2 := RL_upd (x := 0) hL a0 a1' e2 b0 b1' c0 c1 (hn (fb g) b0 b1')
      refine ⟨0, 1, _, _, hA, hB, fr_rfl, fr_m2 (fr_m2 fr_rfl (by decide)) (by decide), ?_, Or.inl rfl, Or.inr rfl, ?_⟩
      · rw [m2_ne (by decide : (136 : Nat) ≠ 137), m2_uPd, m2_uPd, m2_ne (by decide : (137 : Nat) ≠ 136)]; exact hL2
      · rw [hwr]
        exact ⟨fun _ => ⟨by omega, Or.inl e2⟩, fun _ => Or.inr rfl⟩
    · rw [if_neg e2] at hn hB ⊢
      rw [if_neg e1] at hn ⊢
      refine ⟨0, 0, _, _, hA, hB, fr_rfl, fr_rfl, hL, Or.inl rfl, Or.inl rfl, ?_⟩
      rw [hwr]
      exact ⟨fun h => by rcases h with h | h <;> exact absurd h (by decide), fun h => by rcases h.2 with h | h; exact absurd h e2; exact absurd h e1⟩
