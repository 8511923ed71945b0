/-! ===== pure: how far rooms are, by passes over gates ===== -/
def uPd (L : Int → Int) (r v : Int) : Int → Int := fun x => if x = r then v else L x
theorem uPd_at {L : Int → Int} {r v x : Int} : uPd L r v x = if x = r then v else L x := rfl
theorem uPd_same {L : Int → Int} {r v : Int} : uPd L r v r = v := if_pos rfl
theorem uPd_ne {L : Int → Int} {r v x : Int} (h : x ≠ r) : uPd L r v x = L x := if_neg h
theorem m2_uPd {μ : Nat → Int → Int} {a : Nat} {r v : Int} : m2 μ a r v a = uPd (μ a) r v := by
  funext x; rw [m2_at]; rfl
def gSt (fa fb w L : Int → Int) (g : Int) : Int → Int :=
  if w g = -1 then L else if L (fa g) + w g < L (fb g) then uPd L (fb g) (L (fa g) + w g) else if L (fb g) + w g < L (fa g) then uPd L (fa g) (L (fb g) + w g) else L
def gCh (fa fb w L : Int → Int) (g : Int) : Prop := w g ≠ -1 ∧ (L (fa g) + w g < L (fb g) ∨ L (fb g) + w g < L (fa g))
def gPs (fa fb w : Int → Int) : Nat → Int → (Int → Int) → (Int → Int)
  | 0, _, L => L
  | k + 1, i, L => gPs fa fb w k (i + 1) (gSt fa fb w L i)
/-- a flag: does a pass change anything -/
def gFl (fa fb w : Int → Int) : Nat → Int → (Int → Int) → Int → Int
  | 0, _, _, f => f
  | k + 1, i, L, f => gFl fa fb w k (i + 1) (gSt fa fb w L i) (if w i ≠ -1 ∧ (L (fa i) + w i < L (fb i) ∨ L (fb i) + w i < L (fa i)) then 1 else f)
def gIt (fa fb w : Int → Int) (n : Nat) : Nat → (Int → Int) → (Int → Int)
  | 0, L => L
  | k + 1, L => gIt fa fb w n k (gPs fa fb w n 0 L)
def gRu (fa fb w : Int → Int) (n : Nat) : Nat → (Int → Int) → (Int → Int)
  | 0, L => L
  | k + 1, L => if gFl fa fb w n 0 L 0 = 0 then gPs fa fb w n 0 L else gRu fa fb w n k (gPs fa fb w n 0 L)
theorem gSt_no {fa fb w L : Int → Int} {g : Int} (h : ¬ (w g ≠ -1 ∧ (L (fa g) + w g < L (fb g) ∨ L (fb g) + w g < L (fa g)))) : gSt fa fb w L g = L := by
  unfold gSt
  by_cases e : w g = -1
  · rw [if_pos e]
  · rw [if_neg e, if_neg (fun h1 => h ⟨e, Or.inl h1⟩), if_neg (fun h1 => h ⟨e, Or.inr h1⟩)]
theorem gFl_one (fa fb w : Int → Int) : ∀ (k : Nat) (i : Int) (L : Int → Int), gFl fa fb w k i L 1 = 1
  | 0, _, _ => rfl
  | k + 1, i, L => by
    rw [gFl, ite_self]
    exact gFl_one fa fb w k (i + 1) _
theorem gFl_zero {fa fb w : Int → Int} : ∀ (k : Nat) (i : Int) (L : Int → Int), gFl fa fb w k i L 0 = 0 → gPs fa fb w k i L = L ∧ ∀ g, i ≤ g → g < i + k → ¬ (w g ≠ -1 ∧ (L (fa g) + w g < L (fb g) ∨ L (fb g) + w g < L (fa g)))
  | 0, i, L, _ => ⟨rfl, fun g h1 h2 => absurd h1 (by omega)⟩
  | k + 1, i, L, h => by
    rw [gFl] at h
    by_cases e : w i ≠ -1 ∧ (L (fa i) + w i < L (fb i) ∨ L (fb i) + w i < L (fa i))
    · rw [if_pos e, gFl_one] at h; exact absurd h (by decide)
    · rw [if_neg e, gSt_no e] at h
      obtain ⟨h1, h2⟩ := gFl_zero k (i + 1) L h
      refine ⟨by rw [gPs, gSt_no e, h1], fun g h3 h4 => ?_⟩
      by_cases e2 : g = i
      · rw [e2]; exact e
      · exact h2 g (by omega) (by omega)
theorem gFl_fix {fa fb w : Int → Int} : ∀ (k : Nat) (i : Int) (L : Int → Int), (∀ g, i ≤ g → g < i + k → ¬ (w g ≠ -1 ∧ (L (fa g) + w g < L (fb g) ∨ L (fb g) + w g < L (fa g)))) → gFl fa fb w k i L 0 = 0 ∧ gPs fa fb w k i L = L
  | 0, i, L, _ => ⟨rfl, rfl⟩
  | k + 1, i, L, h => by
    have e := h i (by omega) (by omega)
    obtain ⟨h1, h2⟩ := gFl_fix (fa := fa) (fb := fb) (w := w) k (i + 1) L (fun g h3 h4 => h g (by omega) (by omega))
    exact ⟨by rw [gFl, if_neg e, gSt_no e]; exact h1, by rw [gPs, gSt_no e]; exact h2⟩
theorem gIt_fix {fa fb w L : Int → Int} {n : Nat} (h : gPs fa fb w n 0 L = L) : ∀ k, gIt fa fb w n k L = L
  | 0 => rfl
  | k + 1 => by rw [gIt, h]; exact gIt_fix h k
theorem gRu_it {fa fb w : Int → Int} {n : Nat} : ∀ (k : Nat) (L : Int → Int), gRu fa fb w n k L = gIt fa fb w n k L
  | 0, _ => rfl
  | k + 1, L => by
    rw [gRu, gIt]
    by_cases e : gFl fa fb w n 0 L 0 = 0
    · rw [if_pos e, (gFl_zero n 0 L e).1, gIt_fix (gFl_zero n 0 L e).1]
    · rw [if_neg e, gRu_it k]
/-! walks -/
def Wk (fa fb w : Int → Int) (n : Nat) : Nat → Int → Int → Int → Prop
  | 0, s, v, c => v = s ∧ c = 0
  | h + 1, s, v, c => ∃ u g, 0 ≤ g ∧ g < (n : Int) ∧ w g ≠ -1 ∧ ((fa g = u ∧ fb g = v) ∨ (fb g = u ∧ fa g = v)) ∧ Wk fa fb w n h s u (c - w g)
/-- how many of the first n stand no higher than t -/
def cnt (f : Int → Int) (t : Int) : Nat → Nat
  | 0 => 0
  | n + 1 => cnt f t n + (if f n ≤ t then 1 else 0)
theorem cnt_le (f : Int → Int) (t : Int) : ∀ n, cnt f t n ≤ n
  | 0 => Nat.le_refl 0
  | n + 1 => by rw [cnt]; have := cnt_le f t n; split <;> omega
theorem cnt_mono {f f' : Int → Int} {t t' : Int} : ∀ n : Nat, (∀ x : Int, 0 ≤ x → x < n → f x ≤ t → f' x ≤ t') → cnt f t n ≤ cnt f' t' n
  | 0, _ => Nat.le_refl 0
  | n + 1, h => by
    rw [cnt, cnt]
    have h1 := cnt_mono (f := f) (f' := f') (t := t) (t' := t') n (fun x h0 h1 h2 => h x h0 (by omega) h2)
    by_cases e : f n ≤ t
    · rw [if_pos e, if_pos (h n (by omega) (by omega) e)]; omega
    · rw [if_neg e]; split <;> omega
theorem cnt_lt {f f' : Int → Int} {t t' v : Int} : ∀ n : Nat, (∀ x : Int, 0 ≤ x → x < n → f x ≤ t → f' x ≤ t') → 0 ≤ v → v < n → ¬ f v ≤ t → f' v ≤ t' → cnt f t n + 1 ≤ cnt f' t' n
  | 0, _, h0, h1, _, _ => absurd h0 (by omega)
  | n + 1, h, h0, h1, h2, h3 => by
    rw [cnt, cnt]
    by_cases e : v = n
    · subst e
      have h4 := cnt_mono (f := f) (f' := f') (t := t) (t' := t') n (fun x h0 h1 h2 => h x h0 (by omega) h2)
      rw [if_neg h2, if_pos h3]; omega
    · have h4 := cnt_lt (f := f) (f' := f') (t := t) (t' := t') n (fun x h0 h1 h2 => h x h0 (by omega) h2) h0 (by omega) h2 h3
      by_cases e2 : f n ≤ t
      · rw [if_pos e2, if_pos (h n (by omega) (by omega) e2)]; omega
      · rw [if_neg e2]; split <;> omega
theorem cnt_pos {f : Int → Int} {v : Int} {n : Nat} (h0 : 0 ≤ v) (h1 : v < n) : 1 ≤ cnt f (f v) n := by
  have := cnt_lt (f := fun _ => 1) (f' := f) (t := 0) (t' := f v) (v := v) n (fun x _ _ h => absurd h (by decide)) h0 h1 (by decide) (Int.le_refl _)
  omega
/-- gates within: ends among N rooms, weights 0 and above or shut -/
def gOk (fa fb w : Int → Int) (n N : Nat) : Prop := ∀ g, 0 ≤ g → g < (n : Int) → (0 ≤ fa g ∧ fa g < N) ∧ (0 ≤ fb g ∧ fb g < N) ∧ -1 ≤ w g
def gInv (fa fb w : Int → Int) (n N : Nat) (V s : Int) (k : Nat) (i : Int) (L : Int → Int) (H : Int → Nat) : Prop :=
  (∀ v, 0 ≤ v → v < (N : Int) → 0 ≤ L v ∧ L v ≤ V ∧ (L v = V ∨ Wk fa fb w n (H v) s v (L v)) ∧ H v + 1 ≤ cnt L (L v) N) ∧ L s = 0 ∧
  ∀ g, 0 ≤ g → g < (n : Int) → w g ≠ -1 → (L (fb g) ≤ L (fa g) + w g ∨ (if g < i then k + 1 else k) ≤ H (fa g)) ∧ (L (fa g) ≤ L (fb g) + w g ∨ (if g < i then k + 1 else k) ≤ H (fb g))
theorem gInv_upd {fa fb w : Int → Int} {n N : Nat} {V s : Int} {k : Nat} {i : Int} {L : Int → Int} {H : Int → Nat} (hg : gOk fa fb w n N) (hi : gInv fa fb w n N V s k i L H) (hi0 : 0 ≤ i) (hin : i < n) (hw : w i ≠ -1) (hs0 : 0 ≤ s) (hsN : s < N) {u v : Int} (huv : (fa i = u ∧ fb i = v) ∨ (fb i = u ∧ fa i = v)) (hlt : L u + w i < L v) : gInv fa fb w n N V s k (i + 1) (uPd L v (L u + w i)) (fun x => if x = v then H u + 1 else H x) := by
  obtain ⟨h1, h2, h3⟩ := hi
  obtain ⟨⟨ga0, ga1⟩, ⟨gb0, gb1⟩, gw⟩ := hg i hi0 hin
  have hu : 0 ≤ u ∧ u < N := by rcases huv with ⟨e, _⟩ | ⟨e, _⟩ <;> omega
  have hv : 0 ≤ v ∧ v < N := by rcases huv with ⟨_, e⟩ | ⟨_, e⟩ <;> omega
  obtain ⟨u0, u1, u2, u3⟩ := h1 u hu.1 hu.2
  obtain ⟨v0, v1, v2, v3⟩ := h1 v hv.1 hv.2
  have huv' : u ≠ v := fun e => by rw [e] at hlt; omega
  have hHu : k ≤ H u := by
    have h4 := h3 i hi0 hin hw
    rw [if_neg (by omega : ¬ i < i)] at h4
    rcases huv with ⟨e1, e2⟩ | ⟨e1, e2⟩
    · rcases h4.1 with h5 | h5
      · rw [e1, e2] at h5; omega
      · rw [e1] at h5; exact h5
    · rcases h4.2 with h5 | h5
      · rw [e1, e2] at h5; omega
      · rw [e1] at h5; exact h5
  have hle : ∀ x, uPd L v (L u + w i) x ≤ L x := fun x => by
    rw [uPd_at]; by_cases e : x = v
    · rw [if_pos e, e]; omega
    · rw [if_neg e]; omega
  refine ⟨fun x hx0 hx1 => ?_, ?_, fun g g0 g1 gw' => ?_⟩
  · by_cases e : x = v
    · subst e
      dsimp only
      rw [uPd_same, if_pos rfl]
      refine ⟨by omega, by omega, Or.inr ?_, ?_⟩
      · refine ⟨u, i, hi0, hin, hw, huv, ?_⟩
        rw [show L u + w i - w i = L u by omega]
        rcases u2 with e2 | e2
        · omega
        · exact e2
      · have h5 := cnt_lt (f := L) (f' := uPd L x (L u + w i)) (t := L u) (t' := L u + w i) (v := x) N (fun y y0 y1 y2 => by have := hle y; omega) hx0 hx1 (by omega) (by rw [uPd_same]; omega)
        omega
    · obtain ⟨x0, x1, x2, x3⟩ := h1 x hx0 hx1
      dsimp only
      rw [uPd_ne e, if_neg e]
      refine ⟨x0, x1, x2, ?_⟩
      have h5 := cnt_mono (f := L) (f' := uPd L v (L u + w i)) (t := L x) (t' := L x) N (fun y y0 y1 y2 => by have := hle y; omega)
      omega
  · rw [uPd_ne (fun e => by rw [← e, h2] at hlt; omega), h2]
  · obtain ⟨h6, h7⟩ := h3 g g0 g1 gw'
    by_cases eg : g = i
    · subst eg
      rw [if_pos (by omega : g < g + 1)]
      rcases huv with ⟨e1, e2⟩ | ⟨e1, e2⟩
      · refine ⟨Or.inl ?_, Or.inl ?_⟩
        · rw [e1, e2, uPd_same, uPd_ne huv']; omega
        · rw [e1, e2, uPd_same, uPd_ne huv']; omega
      · refine ⟨Or.inl ?_, Or.inl ?_⟩
        · rw [e1, e2, uPd_same, uPd_ne huv']; omega
        · rw [e1, e2, uPd_same, uPd_ne huv']; omega
    · have hlim : (if g < i + 1 then k + 1 else k) = (if g < i then k + 1 else k) := by
        by_cases e : g < i
        · rw [if_pos e, if_pos (by omega)]
        · rw [if_neg e, if_neg (by omega)]
      rw [hlim]
      have hk : (if g < i then k + 1 else k) ≤ k + 1 := by split <;> omega
      generalize (if g < i then k + 1 else k) = lim at h6 h7 hk ⊢
      dsimp only
      refine ⟨?_, ?_⟩
      · by_cases e : fa g = v
        · rw [if_pos e]; exact Or.inr (by omega)
        · rw [if_neg e, uPd_ne e]
          rcases h6 with h6 | h6
          · exact Or.inl (by have := hle (fb g); omega)
          · exact Or.inr h6
      · by_cases e : fb g = v
        · rw [if_pos e]; exact Or.inr (by omega)
        · rw [if_neg e, uPd_ne e]
          rcases h7 with h7 | h7
          · exact Or.inl (by have := hle (fa g); omega)
          · exact Or.inr h7
theorem gInv_st {fa fb w : Int → Int} {n N : Nat} {V s : Int} {k : Nat} {i : Int} {L : Int → Int} {H : Int → Nat} (hg : gOk fa fb w n N) (hi : gInv fa fb w n N V s k i L H) (hi0 : 0 ≤ i) (hin : i < n) (hs0 : 0 ≤ s) (hsN : s < N) : ∃ H', gInv fa fb w n N V s k (i + 1) (gSt fa fb w L i) H' := by
  unfold gSt
  have hk : ∀ (q : w i = -1 ∨ (L (fb i) ≤ L (fa i) + w i ∧ L (fa i) ≤ L (fb i) + w i)), gInv fa fb w n N V s k (i + 1) L H := fun q => by
    refine ⟨hi.1, hi.2.1, fun g g0 g1 gw => ?_⟩
    have h3 := hi.2.2 g g0 g1 gw
    by_cases eg : g = i
    · subst eg
      rcases q with q | q
      · exact absurd q gw
      · exact ⟨Or.inl q.1, Or.inl q.2⟩
    · rw [show (if g < i + 1 then k + 1 else k) = (if g < i then k + 1 else k) from by
        by_cases e : g < i
        · rw [if_pos e, if_pos (by omega)]
        · rw [if_neg e, if_neg (by omega)]]
      exact h3
  by_cases e : w i = -1
  · rw [if_pos e]; exact ⟨H, hk (Or.inl e)⟩
  · rw [if_neg e]
    by_cases e1 : L (fa i) + w i < L (fb i)
    · rw [if_pos e1]
      exact ⟨_, gInv_upd hg hi hi0 hin e hs0 hsN (Or.inl ⟨rfl, rfl⟩) e1⟩
    · rw [if_neg e1]
      by_cases e2 : L (fb i) + w i < L (fa i)
      · rw [if_pos e2]
        exact ⟨_, gInv_upd hg hi hi0 hin e hs0 hsN (Or.inr ⟨rfl, rfl⟩) e2⟩
      · rw [if_neg e2]; exact ⟨H, hk (Or.inr ⟨by omega, by omega⟩)⟩
theorem gInv_ps {fa fb w : Int → Int} {n N : Nat} {V s : Int} {k : Nat} (hg : gOk fa fb w n N) (hs0 : 0 ≤ s) (hsN : s < N) : ∀ (m : Nat) (i : Int) (L : Int → Int) (H : Int → Nat), 0 ≤ i → i + m = n → gInv fa fb w n N V s k i L H → ∃ H', gInv fa fb w n N V s k n (gPs fa fb w m i L) H'
  | 0, i, L, H, _, hm, hi => ⟨H, by rw [show (n : Int) = i by omega]; exact hi⟩
  | m + 1, i, L, H, h0, hm, hi => by
    obtain ⟨H', h'⟩ := gInv_st hg hi h0 (by omega) hs0 hsN
    exact gInv_ps hg hs0 hsN m (i + 1) _ H' (by omega) (by omega) h'
theorem gInv_it {fa fb w : Int → Int} {n N : Nat} {V s : Int} (hg : gOk fa fb w n N) (hs0 : 0 ≤ s) (hsN : s < N) : ∀ (m k : Nat) (L : Int → Int) (H : Int → Nat), gInv fa fb w n N V s k 0 L H → ∃ H', gInv fa fb w n N V s (k + m) 0 (gIt fa fb w n m L) H'
  | 0, k, L, H, hi => ⟨H, hi⟩
  | m + 1, k, L, H, hi => by
    obtain ⟨H', h1, h2, h3⟩ := gInv_ps hg hs0 hsN n 0 L H (by omega) (by omega) hi
    have h' : gInv fa fb w n N V s (k + 1) 0 (gPs fa fb w n 0 L) H' := ⟨h1, h2, fun g g0 g1 gw => by
      have h4 := h3 g g0 g1 gw
      rw [if_pos g1] at h4
      rw [if_neg (by omega)]
      exact h4⟩
    obtain ⟨H2, h5⟩ := gInv_it hg hs0 hsN m (k + 1) _ H' h'
    exact ⟨H2, by rw [show k + (m + 1) = k + 1 + m by omega]; exact h5⟩
/-- what the passes come to -/
def Dist (fa fb w : Int → Int) (n N : Nat) (V s : Int) (F : Int → Int) : Prop :=
  F s = 0 ∧ (∀ v, 0 ≤ v → v < (N : Int) → 0 ≤ F v ∧ F v ≤ V ∧ (F v = V ∨ ∃ h, h < N ∧ Wk fa fb w n h s v (F v))) ∧
  ∀ g, 0 ≤ g → g < (n : Int) → w g ≠ -1 → F (fb g) ≤ F (fa g) + w g ∧ F (fa g) ≤ F (fb g) + w g
theorem gInv_0 {fa fb w : Int → Int} {n N : Nat} {V s : Int} {L : Int → Int} (hV : 0 ≤ V) (h1 : L s = 0) (h2 : ∀ v, 0 ≤ v → v < (N : Int) → v ≠ s → L v = V) : gInv fa fb w n N V s 0 0 L (fun _ => 0) := by
  refine ⟨fun v v0 v1 => ?_, h1, fun g g0 g1 gw => ?_⟩
  · by_cases e : v = s
    · subst e; rw [h1]; exact ⟨by omega, hV, Or.inr ⟨rfl, rfl⟩, by have := cnt_pos (f := L) v0 v1; rw [h1] at this; omega⟩
    · rw [h2 v v0 v1 e]; exact ⟨hV, by omega, Or.inl rfl, by have := cnt_pos (f := L) v0 v1; rw [h2 v v0 v1 e] at this; omega⟩
  · rw [if_neg (by omega)]; exact ⟨Or.inr (Nat.zero_le _), Or.inr (Nat.zero_le _)⟩
theorem gIt_dist {fa fb w : Int → Int} {n N m : Nat} {V s : Int} {L : Int → Int} (hg : gOk fa fb w n N) (hs0 : 0 ≤ s) (hsN : s < N) (hm : N ≤ m) (hV : 0 ≤ V) (h1 : L s = 0) (h2 : ∀ v, 0 ≤ v → v < (N : Int) → v ≠ s → L v = V) : Dist fa fb w n N V s (gIt fa fb w n m L) := by
  obtain ⟨H, i1, i2, i3⟩ := gInv_it hg hs0 hsN m 0 L _ (gInv_0 (fa := fa) (fb := fb) (w := w) (n := n) hV h1 h2)
  refine ⟨i2, fun v v0 v1 => ?_, fun g g0 g1 gw => ?_⟩
  · obtain ⟨j1, j2, j3, j4⟩ := i1 v v0 v1
    refine ⟨j1, j2, j3.imp id (fun h => ⟨H v, ?_, h⟩)⟩
    have := cnt_le (gIt fa fb w n m L) (gIt fa fb w n m L v) N
    omega
  · obtain ⟨⟨a0, a1⟩, ⟨b0, b1⟩, -⟩ := hg g g0 g1
    have h3 := i3 g g0 g1 gw
    rw [if_neg (by omega)] at h3
    have ca := (i1 (fa g) a0 a1).2.2.2
    have cb := (i1 (fb g) b0 b1).2.2.2
    have la := cnt_le (gIt fa fb w n m L) (gIt fa fb w n m L (fa g)) N
    have lb := cnt_le (gIt fa fb w n m L) (gIt fa fb w n m L (fb g)) N
    exact ⟨h3.1.resolve_right (by omega), h3.2.resolve_right (by omega)⟩
