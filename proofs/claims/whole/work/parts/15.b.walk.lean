/-! ===== walks ===== -/
theorem Wk_in {fa fb w : Int → Int} {n N : Nat} (hg : gOk fa fb w n N) {s : Int} (hs0 : 0 ≤ s) (hsN : s < N) : ∀ (h : Nat) (v c : Int), Wk fa fb w n h s v c → (0 ≤ v ∧ v < N) ∧ 0 ≤ c
  | 0, v, c, hw => by obtain ⟨e, e2⟩ := hw; omega
  | h + 1, v, c, hw => by
    obtain ⟨u, g, g0, g1, gw, huv, hk⟩ := hw
    have h2 := Wk_in hg hs0 hsN h u _ hk
    obtain ⟨⟨ga0, ga1⟩, ⟨gb0, gb1⟩, gw'⟩ := hg g g0 g1
    refine ⟨?_, by omega⟩
    rcases huv with ⟨_, e⟩ | ⟨_, e⟩ <;> omega
theorem Wk_most {fa fb w : Int → Int} {n : Nat} {W s : Int} (hW : ∀ g, 0 ≤ g → g < (n : Int) → w g ≤ W) : ∀ (h : Nat) (v c : Int), Wk fa fb w n h s v c → c ≤ h * W
  | 0, v, c, hw => by rw [hw.2]; simp
  | h + 1, v, c, hw => by
    obtain ⟨u, g, g0, g1, gw, huv, hk⟩ := hw
    have h2 := Wk_most hW h u _ hk
    have h3 := hW g g0 g1
    have h4 : ((h + 1 : Nat) : Int) * W = h * W + W := by rw [Int.natCast_succ, Int.add_mul, Int.one_mul]
    omega
theorem Wk_front {fa fb w : Int → Int} {n : Nat} {s t g : Int} (g0 : 0 ≤ g) (g1 : g < (n : Int)) (gw : w g ≠ -1) (huv : (fa g = t ∧ fb g = s) ∨ (fb g = t ∧ fa g = s)) : ∀ (h : Nat) (v c : Int), Wk fa fb w n h s v c → Wk fa fb w n (h + 1) t v (c + w g)
  | 0, v, c, hw => by
    obtain ⟨e, e2⟩ := hw
    exact ⟨t, g, g0, g1, gw, by rw [e]; exact huv, rfl, by omega⟩
  | h + 1, v, c, hw => by
    obtain ⟨u, g', g0', g1', gw', huv', hk⟩ := hw
    refine ⟨u, g', g0', g1', gw', huv', ?_⟩
    have h2 := Wk_front g0 g1 gw huv h u _ hk
    rw [show c + w g - w g' = c - w g' + w g by omega]
    exact h2
theorem Wk_rev {fa fb w : Int → Int} {n : Nat} {s : Int} : ∀ (h : Nat) (v c : Int), Wk fa fb w n h s v c → Wk fa fb w n h v s c
  | 0, v, c, hw => ⟨hw.1.symm, hw.2⟩
  | h + 1, v, c, hw => by
    obtain ⟨u, g, g0, g1, gw, huv, hk⟩ := hw
    have h2 := Wk_front (t := v) g0 g1 gw (by rcases huv with ⟨a, b⟩ | ⟨a, b⟩; exact Or.inr ⟨b, a⟩; exact Or.inl ⟨b, a⟩) h s _ (Wk_rev h u _ hk)
    rw [show c - w g + w g = c by omega] at h2
    exact h2
theorem Dist_le {fa fb w : Int → Int} {n N : Nat} {V s : Int} {F : Int → Int} (hD : Dist fa fb w n N V s F) : ∀ (h : Nat) (v c : Int), Wk fa fb w n h s v c → F v ≤ c
  | 0, v, c, hw => by rw [hw.1, hw.2, hD.1]; exact Int.le_refl 0
  | h + 1, v, c, hw => by
    obtain ⟨u, g, g0, g1, gw, huv, hk⟩ := hw
    have h2 := Dist_le hD h u _ hk
    have h3 := hD.2.2 g g0 g1 gw
    rcases huv with ⟨a, b⟩ | ⟨a, b⟩
    · rw [a, b] at h3; omega
    · rw [a, b] at h3; omega
theorem Dist_most {fa fb w : Int → Int} {n N : Nat} {V s W : Int} {F : Int → Int} (hD : Dist fa fb w n N V s F) (hN : N ≤ 10) (hW0 : 0 ≤ W) (hW : ∀ g, 0 ≤ g → g < (n : Int) → w g ≤ W) {v : Int} (h0 : 0 ≤ v) (h1 : v < N) (hv : F v ≠ V) : F v ≤ 9 * W := by
  obtain ⟨-, -, h | ⟨h, h2, h3⟩⟩ := hD.2.1 v h0 h1
  · exact absurd h hv
  · have h4 := Wk_most hW h v _ h3
    have h5 : (h : Int) * W ≤ 9 * W := Int.mul_le_mul_of_nonneg_right (by omega) hW0
    omega
theorem Dist_lt {fa fb w : Int → Int} {n N : Nat} {V s W : Int} {F : Int → Int} (hg : gOk fa fb w n N) (hs0 : 0 ≤ s) (hsN : s < N) (hD : Dist fa fb w n N V s F) (hN : N ≤ 10) (hW0 : 0 ≤ W) (hW : ∀ g, 0 ≤ g → g < (n : Int) → w g ≤ W) (hV : 10 * W < V) : ∀ (h : Nat) (v c : Int), Wk fa fb w n h s v c → F v ≠ V
  | 0, v, c, hw => by rw [hw.1, hD.1]; omega
  | h + 1, v, c, hw => by
    obtain ⟨u, g, g0, g1, gw, huv, hk⟩ := hw
    have h2 := Dist_lt hg hs0 hsN hD hN hW0 hW hV h u _ hk
    have hu := (Wk_in hg hs0 hsN h u _ hk).1
    have h4 := Dist_most hD hN hW0 hW hu.1 hu.2 h2
    have h3 := hD.2.2 g g0 g1 gw
    have h5 := hW g g0 g1
    rcases huv with ⟨a, b⟩ | ⟨a, b⟩
    · rw [a, b] at h3; omega
    · rw [a, b] at h3; omega
/-- coins and gates in one weight -/
theorem Wk_up {fa fb w w' : Int → Int} {n : Nat} {s : Int} (hw : ∀ g, 0 ≤ g → g < (n : Int) → w g ≠ -1 → w' g = 16 * w g + 1) : ∀ (h : Nat) (v c : Int), Wk fa fb w n h s v c → Wk fa fb w' n h s v (16 * c + h)
  | 0, v, c, hk => ⟨hk.1, by rw [hk.2]; rfl⟩
  | h + 1, v, c, hk => by
    obtain ⟨u, g, g0, g1, gw, huv, hk⟩ := hk
    have e := hw g g0 g1 gw
    refine ⟨u, g, g0, g1, by omega, huv, ?_⟩
    have h2 := Wk_up hw h u _ hk
    rw [show 16 * c + ((h + 1 : Nat) : Int) - w' g = 16 * (c - w g) + h by omega]
    exact h2
theorem Wk_down {fa fb w w' : Int → Int} {n : Nat} {s : Int} (hw : ∀ g, 0 ≤ g → g < (n : Int) → w g ≠ -1 → w' g = 16 * w g + 1) (hw2 : ∀ g, 0 ≤ g → g < (n : Int) → w g = -1 → w' g = -1) : ∀ (h : Nat) (v x : Int), Wk fa fb w' n h s v x → ∃ c, x = 16 * c + h ∧ Wk fa fb w n h s v c
  | 0, v, x, hk => ⟨0, by rw [hk.2]; rfl, hk.1, rfl⟩
  | h + 1, v, x, hk => by
    obtain ⟨u, g, g0, g1, gw, huv, hk⟩ := hk
    have gw2 : w g ≠ -1 := fun e => gw (hw2 g g0 g1 e)
    have e := hw g g0 g1 gw2
    obtain ⟨c, h3, h4⟩ := Wk_down hw hw2 h u _ hk
    refine ⟨c + w g, by omega, u, g, g0, g1, gw2, huv, ?_⟩
    rw [show c + w g - w g = c by omega]; exact h4
/-- the least, either way round and with gates counted too -/
theorem Dist_coins {fa fb w w' : Int → Int} {n N : Nat} {V V' s t W : Int} {F F' : Int → Int} (hg : gOk fa fb w n N) (hs0 : 0 ≤ s) (hsN : s < N) (ht0 : 0 ≤ t) (htN : t < N) (hN : N ≤ 10) (hW0 : 0 ≤ W) (hW : ∀ g, 0 ≤ g → g < (n : Int) → w g ≤ W) (hV : 10 * W < V) (hV' : 10 * (16 * W + 1) < V') (hD : Dist fa fb w n N V s F) (hD' : Dist fa fb w' n N V' t F') (hw : ∀ g, 0 ≤ g → g < (n : Int) → w g ≠ -1 → w' g = 16 * w g + 1) (hw2 : ∀ g, 0 ≤ g → g < (n : Int) → w g = -1 → w' g = -1) : (F t = V ∧ F' s = V') ∨ (F t ≤ 9 * W ∧ F' s ≠ V' ∧ ∃ h, 0 ≤ h ∧ h ≤ 9 ∧ F' s = 16 * F t + h) := by
  have hg' : gOk fa fb w' n N := fun g g0 g1 => by
    obtain ⟨h1, h2, h3⟩ := hg g g0 g1
    refine ⟨h1, h2, ?_⟩
    by_cases e : w g = -1
    · have := hw2 g g0 g1 e; omega
    · have := hw g g0 g1 e; omega
  have hW' : ∀ g, 0 ≤ g → g < (n : Int) → w' g ≤ 16 * W + 1 := fun g g0 g1 => by
    have := hW g g0 g1
    by_cases e : w g = -1
    · have := hw2 g g0 g1 e; omega
    · have := hw g g0 g1 e; omega
  obtain ⟨f0, f1, f2⟩ := hD.2.1 t ht0 htN
  obtain ⟨f0', f1', f2'⟩ := hD'.2.1 s hs0 hsN
  by_cases e : F t = V
  · left
    refine ⟨e, f2'.resolve_right ?_⟩
    rintro ⟨h, h1, h2⟩
    obtain ⟨c, -, h4⟩ := Wk_down hw hw2 h s _ h2
    exact Dist_lt hg hs0 hsN hD hN hW0 hW hV h t c (Wk_rev h s c h4) e
  · right
    obtain ⟨h, h1, h2⟩ := f2.resolve_left e
    have h3 := Wk_rev _ _ _ (Wk_up hw h t _ h2)
    have h4 := Dist_le hD' h s _ h3
    have h5 := Dist_lt hg' ht0 htN hD' hN (by omega) hW' hV' h s _ h3
    obtain ⟨h', h1', h2'⟩ := f2'.resolve_left h5
    obtain ⟨c, h6, h7⟩ := Wk_down hw hw2 h' s _ h2'
    have h8 := Dist_le hD h' t c (Wk_rev _ _ _ h7)
    refine ⟨Dist_most hD hN hW0 hW ht0 htN e, h5, h', by omega, by omega, ?_⟩
    omega
