/-! ===== the way: gate by gate ===== -/
def acr (fa fb : Int → Int) (g r : Int) : Int := if fa g = r then fb g else if fb g = r then fa g else -1
/-- the gate to the first room, then the first gate to it, by which nothing is lost -/
def onw (F w fa fb : Int → Int) (r : Int) : Nat → Int → Int → Int → Int
  | 0, _, best, _ => best
  | k + 1, i, best, br => if acr fa fb i r ≠ -1 ∧ acr fa fb i r < br ∧ F (acr fa fb i r) + w i = F r then onw F w fa fb r k (i + 1) i (acr fa fb i r) else onw F w fa fb r k (i + 1) best br
def goodG (F w fa fb : Int → Int) (n : Nat) (r g : Int) : Prop := 0 ≤ g ∧ g < (n : Int) ∧ acr fa fb g r ≠ -1 ∧ F (acr fa fb g r) + w g = F r
theorem onw_good {F w fa fb : Int → Int} {n : Nat} {r : Int} : ∀ (k : Nat) (i best br : Int), 0 ≤ i → i + k = n → (best = -1 ∨ goodG F w fa fb n r best) → (onw F w fa fb r k i best br = -1 ∨ goodG F w fa fb n r (onw F w fa fb r k i best br))
  | 0, _, _, _, _, _, h => h
  | k + 1, i, best, br, h0, hk, h => by
    rw [onw]
    by_cases c : acr fa fb i r ≠ -1 ∧ acr fa fb i r < br ∧ F (acr fa fb i r) + w i = F r
    · rw [if_pos c]; exact onw_good k (i + 1) i _ (by omega) (by omega) (Or.inr ⟨h0, by omega, c.1, c.2.2⟩)
    · rw [if_neg c]; exact onw_good k (i + 1) best br (by omega) (by omega) h
theorem onw_some {F w fa fb : Int → Int} {n : Nat} {r : Int} (ht : ∀ g, 0 ≤ g → g < (n : Int) → acr fa fb g r < 10) : ∀ (k : Nat) (i best br : Int), 0 ≤ i → i + k = n → ((best = -1 ∧ br = 10) ∨ best ≠ -1) → (best ≠ -1 ∨ ∃ g, i ≤ g ∧ g < (n : Int) ∧ acr fa fb g r ≠ -1 ∧ F (acr fa fb g r) + w g = F r) → onw F w fa fb r k i best br ≠ -1
  | 0, i, best, br, _, hk, _, h => by
    rcases h with h | ⟨g, g0, g1, -⟩
    · exact h
    · omega
  | k + 1, i, best, br, h0, hk, hb, h => by
    rw [onw]
    by_cases c : acr fa fb i r ≠ -1 ∧ acr fa fb i r < br ∧ F (acr fa fb i r) + w i = F r
    · rw [if_pos c]; exact onw_some ht k (i + 1) i _ (by omega) (by omega) (Or.inr (by omega)) (Or.inl (by omega))
    · rw [if_neg c]
      refine onw_some ht k (i + 1) best br (by omega) (by omega) hb ?_
      rcases h with h | ⟨g, g0, g1, g2, g3⟩
      · exact Or.inl h
      · by_cases e : g = i
        · subst e
          rcases hb with ⟨hb1, hb2⟩ | hb
          · exact absurd ⟨g2, by rw [hb2]; exact ht g h0 g1, g3⟩ c
          · exact Or.inl hb
        · exact Or.inr ⟨g, by omega, g1, g2, g3⟩
theorem acr_in {fa fb w : Int → Int} {n N : Nat} {g r : Int} (hg : gOk fa fb w n N) (g0 : 0 ≤ g) (g1 : g < n) : (acr fa fb g r = -1 ∧ fa g ≠ r ∧ fb g ≠ r) ∨ ((0 ≤ acr fa fb g r ∧ acr fa fb g r < N) ∧ ((fa g = r ∧ fb g = acr fa fb g r) ∨ (fb g = r ∧ fa g = acr fa fb g r))) := by
  obtain ⟨h1, h2, -⟩ := hg g g0 g1
  unfold acr
  by_cases e1 : fa g = r
  · rw [if_pos e1]; exact Or.inr ⟨h2, Or.inl ⟨e1, rfl⟩⟩
  · rw [if_neg e1]
    by_cases e2 : fb g = r
    · rw [if_pos e2]; exact Or.inr ⟨h1, Or.inr ⟨e2, rfl⟩⟩
    · rw [if_neg e2]; exact Or.inl ⟨rfl, e1, e2⟩
/-- coins times 16 and gates -/
def w16 (c : Int → Int) : Int → Int := fun g => 16 * c g + 1
theorem w16_ok {fa fb c : Int → Int} {n N : Nat} (hg : gOk fa fb c n N) (hc : ∀ g, 0 ≤ g → g < (n : Int) → 0 ≤ c g ∧ c g ≤ 99) : gOk fa fb (w16 c) n N := fun g g0 g1 => by
  obtain ⟨h1, h2, -⟩ := hg g g0 g1
  have := hc g g0 g1
  exact ⟨h1, h2, by unfold w16; omega⟩
/-- what is told of a room: its coins, its gates -/
theorem D_room {fa fb c F : Int → Int} {n : Nat} {s r : Int} (hg : gOk fa fb c n 10) (hc : ∀ g, 0 ≤ g → g < (n : Int) → 0 ≤ c g ∧ c g ≤ 99) (hs0 : 0 ≤ s) (hs1 : s < 10) (hD : Dist fa fb (w16 c) n 10 268435456 s F) (r0 : 0 ≤ r) (r1 : r < 10) (hr : F r ≠ 268435456) : ∃ (K : Int) (h : Nat), F r = 16 * K + h ∧ h ≤ 9 ∧ 0 ≤ K ∧ K ≤ 891 ∧ (h = 0 → r = s ∧ K = 0) ∧ (0 < h → ∃ g, 0 ≤ g ∧ g < (n : Int) ∧ acr fa fb g r ≠ -1 ∧ F (acr fa fb g r) + w16 c g = F r) := by
  obtain ⟨f0, f1, f2⟩ := hD.2.1 r r0 (by omega)
  obtain ⟨h, h1, h2⟩ := f2.resolve_left hr
  obtain ⟨K, h3, h4⟩ := Wk_down (w := c) (w' := w16 c) (fun g g0 g1 gw => rfl) (fun g g0 g1 gw => by have := hc g g0 g1; omega) h r _ h2
  have h5 := (Wk_in hg hs0 (by omega) _ _ _ h4).2
  have h6 := Wk_most (W := 99) (fun g g0 g1 => (hc g g0 g1).2) _ _ _ h4
  refine ⟨K, h, h3, by omega, h5, by omega, fun e => ?_, fun e => ?_⟩
  · subst e; exact h4
  · obtain ⟨h', rfl⟩ : ∃ h', h = h' + 1 := ⟨h - 1, by omega⟩
    obtain ⟨u, g, g0, g1, gw, huv, hk⟩ := h2
    have q1 := Dist_le hD h' u _ hk
    have q2 := hD.2.2 g g0 g1 gw
    have ha : acr fa fb g r = u := by
      unfold acr
      rcases huv with ⟨a, b⟩ | ⟨a, b⟩
      · by_cases e2 : fa g = r
        · rw [if_pos e2, b, ← e2, a]
        · rw [if_neg e2, if_pos b, a]
      · rw [if_pos b, a]
    have hu := (Wk_in (w16_ok hg hc) hs0 (by omega) _ _ _ hk).1
    refine ⟨g, g0, g1, by rw [ha]; omega, ?_⟩
    rw [ha]
    rcases huv with ⟨a, b⟩ | ⟨a, b⟩
    · rw [a, b] at q2; omega
    · rw [a, b] at q2; omega
/-- one step on -/
theorem D_step {fa fb c F : Int → Int} {n : Nat} {s r : Int} (hg : gOk fa fb c n 10) (hc : ∀ g, 0 ≤ g → g < (n : Int) → 0 ≤ c g ∧ c g ≤ 99) (hs0 : 0 ≤ s) (hs1 : s < 10) (hD : Dist fa fb (w16 c) n 10 268435456 s F) (r0 : 0 ≤ r) (r1 : r < 10) (hr : F r ≠ 268435456) (hrs : r ≠ s) : goodG F (w16 c) fa fb n r (onw F (w16 c) fa fb r n 0 (-1) 10) ∧ (0 ≤ acr fa fb (onw F (w16 c) fa fb r n 0 (-1) 10) r ∧ acr fa fb (onw F (w16 c) fa fb r n 0 (-1) 10) r < 10) ∧ F (acr fa fb (onw F (w16 c) fa fb r n 0 (-1) 10) r) ≠ 268435456 ∧ F r = F (acr fa fb (onw F (w16 c) fa fb r n 0 (-1) 10) r) + (16 * c (onw F (w16 c) fa fb r n 0 (-1) 10) + 1) := by
  obtain ⟨K, h, h1, h2, h3, h4, h5, h6⟩ := D_room hg hc hs0 hs1 hD r0 r1 hr
  obtain ⟨g, g0, g1, g2, g3⟩ := h6 (by
    rcases Nat.eq_zero_or_pos h with e | e
    · exact absurd (h5 e).1 hrs
    · exact e)
  have hne := onw_some (F := F) (w := w16 c) (r := r) (fun g g0 g1 => by rcases acr_in (r := r) hg g0 g1 with q | q <;> omega) n 0 (-1) 10 (by omega) (by omega) (Or.inl ⟨rfl, rfl⟩) (Or.inr ⟨g, g0, g1, g2, g3⟩)
  have hgd := (onw_good (F := F) (w := w16 c) (fa := fa) (fb := fb) (n := n) (r := r) n 0 (-1) 10 (by omega) (by omega) (Or.inl rfl)).resolve_left hne
  generalize onw F (w16 c) fa fb r n 0 (-1) 10 = g' at hne hgd ⊢
  obtain ⟨q1, q2, q3, q4⟩ := hgd
  have hin := (acr_in (r := r) hg q1 q2).resolve_left (fun h => q3 h.1)
  have hf := (hD.2.1 r r0 (by omega))
  have hw := hc g' q1 q2
  unfold w16 at q4
  refine ⟨⟨q1, q2, q3, q4⟩, by omega, by omega, by omega⟩
/-- the gates of the way from a room, by how many they are -/
def wayL (F w fa fb : Int → Int) (n : Nat) : Nat → Int → List Int
  | 0, _ => []
  | k + 1, r => onw F w fa fb r n 0 (-1) 10 :: wayL F w fa fb n k (acr fa fb (onw F w fa fb r n 0 (-1) 10) r)
/-- the room behind so many gates of it -/
def wayR (F w fa fb : Int → Int) (n : Nat) : Nat → Int → Int
  | 0, r => r
  | k + 1, r => wayR F w fa fb n k (acr fa fb (onw F w fa fb r n 0 (-1) 10) r)
