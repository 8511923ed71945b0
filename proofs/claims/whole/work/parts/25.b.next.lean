/-! ===== the next order, in the class ===== -/
theorem sX5_nextOrder {L pat : Int → Int} {n : Nat} (b : Bool) (μ : Nat → Int → Int) (hn : n ≤ 6) (hL : ∀ x y, 0 ≤ x → x < (n : Int) → 0 ≤ y → y < (n : Int) → (L x < L y ↔ x < y)) (hp : ∀ g, 0 ≤ g → g < (n : Int) → 0 ≤ pat g ∧ pat g < n) (hm : ∀ g, 0 ≤ g → g < (n : Int) → μ 49 g = L (pat g)) : ∀ d, 2 ≤ d → Cal d 188 [mP 49, mI n] b μ (fun v μ' => (nxR pat (n - 1) < 0 ∧ v = 0 ∧ μ' = μ) ∨ (¬ nxR pat (n - 1) < 0 ∧ v = 1 ∧ Fr [49] μ μ' ∧ ∀ g, 0 ≤ g → g < (n : Int) → μ' 49 g = L (nxP pat n g))) := deepC fun d hd => by
  have hs : shp 49 = (0, 12) := rfl
  have ch : ∀ x y, 0 ≤ x → x < (n : Int) → 0 ≤ y → y < (n : Int) → (μ 49 x < μ 49 y ↔ pat x < pat y) := fun x y x0 x1 y0 y1 => by
    rw [hm x x0 x1, hm y y0 y1]; exact hL _ _ (hp x x0 x1).1 (hp x x0 x1).2 (hp y y0 y1).1 (hp y y0 y1).2
  have E1 : ∀ v : Int, -100 ≤ v → v ≤ 100 → w32 (v + 1) = v + 1 := fun v h0 h1 => w32_id (by omega) (by omega)
  have E2 : ∀ v : Int, -100 ≤ v → v ≤ 100 → w32 (v + (-1)) = v - 1 := fun v h0 h1 => by rw [w32_id (by omega) (by omega)]; omega
  have E3 : ∀ v : Int, -100 ≤ v → v ≤ 100 → w32 (v - 1) = v - 1 := fun v h0 h1 => w32_id (by omega) (by omega)
  -- the turning round
  have turn : ∀ (k : Nat) (i j : Int) (pt : Int → Int) (μ' : Nat → Int → Int) (v2 v3 : Int), 0 ≤ i → j < (n : Int) → j - i ≤ k → Fr [49] μ μ' → (∀ g, 0 ≤ g → g < (n : Int) → μ' 49 g = L (pt g)) → -1 ≤ j → i ≤ n → Ev (fun q => mRun (mCallN d) kX5_nextOrder q 73 [some (mP 49), some (mI n), some (mI v2), some (mI v3), some (mI i), some (mI j)] [] (SH, μ', RHO b)) b (fun v μ2 => v = 1 ∧ Fr [49] μ μ2 ∧ ∀ g, 0 ≤ g → g < (n : Int) → μ2 49 g = L (nxV k pt i j g)) := by
    intro k
    induction k with
    | zero =>
      intro i j pt μ' v2 v3 i0 j1 hk hf hx j0 i1
      exact ev_row (fun q => tX5_nextOrder_73 _ q b μ' n v2 v3 i j 49) (ev_neg (by omega) (ev_ret ⟨rfl, hf, hx⟩))
    | succ k ih =>
      intro i j pt μ' v2 v3 i0 j1 hk hf hx j0 i1
      refine ev_row (fun q => tX5_nextOrder_73 _ q b μ' n v2 v3 i j 49) (ev_br (fun e => ?_) (fun e => ?_))
      · rw [nxV, if_pos e, E1 i (by omega) (by omega), E2 j (by omega) (by omega)]
        refine ev_call (sX9_exchangeIn 49 12 i j b μ' hs i0 (by omega) (by omega) (by omega) d (by omega)) ?_
        refine ih (i + 1) (j - 1) _ _ v2 v3 (by omega) (by omega) (by omega) (fr_m2 (fr_m2 hf (by decide)) (by decide)) (fun g g0 g1 => ?_) (by omega) (by omega)
        dsimp only
        rw [m2_at, m2_at, exch_at, hx i i0 (by omega), hx j (by omega) j1, hx g g0 g1]
        by_cases c1 : g = j
        · rw [if_pos c1, if_pos c1]
        · rw [if_neg c1, if_neg c1]
          by_cases c2 : g = i
          · rw [if_pos c2, if_pos c2]
          · rw [if_neg c2, if_neg c2]
      · rw [nxV, if_neg e]
        exact ev_ret ⟨rfl, hf, hx⟩
  -- behind the search for the one above
  have last : ∀ (r a : Int), 0 ≤ r → r < a → a < (n : Int) → Ev (fun q => mRun (mCallN d) kX5_nextOrder q 57 [some (mP 49), some (mI n), some (mI r), some (mI a), none, none] [] (SH, μ, RHO b)) b (fun v μ2 => v = 1 ∧ Fr [49] μ μ2 ∧ ∀ g, 0 ≤ g → g < (n : Int) → μ2 49 g = L (nxV n (exch pat r a) (r + 1) ((n : Int) - 1) g)) := fun r a r0 ra a1 => by
    refine ev_row (fun q => tX5_nextOrder_57 _ q b μ n r a 49) ?_
    rw [E1 r (by omega) (by omega), E3 n (by omega) (by omega)]
    refine ev_call (sX9_exchangeIn 49 12 r a b μ hs r0 (by omega) (by omega) (by omega) d (by omega)) ?_
    refine turn n (r + 1) ((n : Int) - 1) _ _ r a (by omega) (by omega) (by omega) (fr_m2 (fr_m2 fr_rfl (by decide)) (by decide)) (fun g g0 g1 => ?_) (by omega) (by omega)
    dsimp only
    rw [m2_at, m2_at, exch_at, hm r r0 (by omega), hm a (by omega) a1, hm g g0 g1]
    by_cases c1 : g = a
    · rw [if_pos c1, if_pos c1]
    · rw [if_neg c1, if_neg c1]
      by_cases c2 : g = r
      · rw [if_pos c2, if_pos c2]
      · rw [if_neg c2, if_neg c2]
  have above : ∀ (r : Int), 0 ≤ r → r + 1 < (n : Int) → ∀ (k : Nat) (a : Int), r < a → a < (n : Int) → a - r ≤ k → Ev (fun q => mRun (mCallN d) kX5_nextOrder q 35 [some (mP 49), some (mI n), some (mI r), some (mI a), none, none] [] (SH, μ, RHO b)) b (fun v μ2 => v = 1 ∧ Fr [49] μ μ2 ∧ ∀ g, 0 ≤ g → g < (n : Int) → μ2 49 g = L (nxV n (exch pat r (nxA pat r k a)) (r + 1) ((n : Int) - 1) g)) := fun r r0 r1 => by
    intro k
    induction k with
    | zero => intro a ra a1 hk; omega
    | succ k ih =>
      intro a ra a1 hk
      refine ev_row (fun q => tX5_nextOrder_35 _ q b μ n r a 49) ?_
      rw [E1 r (by omega) (by omega), E2 a (by omega) (by omega), nxA]
      refine ev_br (fun e => ?_) (fun e => ?_)
      · refine ev_bif (arr_of hs) (ev_if (by rw [shape_of hs]; omega) (ev_bif (arr_of hs) (ev_if (by rw [shape_of hs]; omega) (ev_br (fun e2 => ?_) (fun e2 => ?_)))))
        · rw [if_pos ⟨e, (ch a r (by omega) a1 r0 (by omega)).1 e2⟩]
          exact ih (a - 1) (by omega) (by omega) (by omega)
        · rw [if_neg (fun h => e2 ((ch a r (by omega) a1 r0 (by omega)).2 h.2))]
          exact last r a r0 ra a1
      · rw [if_neg (fun h => e h.1)]
        exact last r a r0 ra a1
  have mid : ∀ r : Int, -2 ≤ r → r + 1 < (n : Int) ∨ r < 0 → (r < 0 ↔ nxR pat (n - 1) < 0) → (0 ≤ r → r = nxR pat (n - 1)) → Ev (fun q => mRun (mCallN d) kX5_nextOrder q 25 [some (mP 49), some (mI n), some (mI r), none, none, none] [] (SH, μ, RHO b)) b (fun v μ' => (nxR pat (n - 1) < 0 ∧ v = 0 ∧ μ' = μ) ∨ (¬ nxR pat (n - 1) < 0 ∧ v = 1 ∧ Fr [49] μ μ' ∧ ∀ g, 0 ≤ g → g < (n : Int) → μ' 49 g = L (nxP pat n g))) := fun r r0 r1 r2 r3 => by
    refine ev_row (fun q => tX5_nextOrder_25 _ q b μ n r 49) (ev_br (fun e => ev_ret (Or.inl ⟨r2.1 e, rfl, rfl⟩)) (fun e => ?_))
    rw [E3 n (by omega) (by omega)]
    refine ev_mono (above r (by omega) (by omega) n ((n : Int) - 1) (by omega) (by omega) (by omega)) (fun v μ2 ⟨h1, h2, h3⟩ => Or.inr ⟨fun h => e (r2.2 h), h1, h2, fun g g0 g1 => ?_⟩)
    rw [h3 g g0 g1]
    unfold nxP
    rw [← r3 (by omega)]
  have rise : ∀ k : Nat, k + 1 ≤ n → nxR pat k = nxR pat (n - 1) → Ev (fun q => mRun (mCallN d) kX5_nextOrder q 4 [some (mP 49), some (mI n), some (mI ((k : Int) - 1)), none, none, none] [] (SH, μ, RHO b)) b (fun v μ' => (nxR pat (n - 1) < 0 ∧ v = 0 ∧ μ' = μ) ∨ (¬ nxR pat (n - 1) < 0 ∧ v = 1 ∧ Fr [49] μ μ' ∧ ∀ g, 0 ≤ g → g < (n : Int) → μ' 49 g = L (nxP pat n g))) := by
    intro k
    induction k with
    | zero =>
      intro hk he
      have h0 : nxR pat (n - 1) = -1 := he.symm
      refine ev_row (fun q => tX5_nextOrder_4 _ q b μ n (((0 : Nat) : Int) - 1) 49) (ev_pos (by decide) ?_)
      exact mid _ (by decide) (Or.inr (by decide)) (by rw [h0]; decide) (fun h => absurd h (by decide))
    | succ k ih =>
      intro hk he
      refine ev_row (fun q => tX5_nextOrder_4 _ q b μ n (((k + 1 : Nat) : Int) - 1) 49) ?_
      rw [show ((k + 1 : Nat) : Int) - 1 = k by omega, E1 k (by omega) (by omega), E2 k (by omega) (by omega)]
      refine ev_neg (by omega) (ev_bif (arr_of hs) (ev_if (by rw [shape_of hs]; omega) (ev_bif (arr_of hs) (ev_if (by rw [shape_of hs]; omega) (ev_br (fun e => ?_) (fun e => ?_))))))
      · refine ih (by omega) ?_
        rw [← he, nxR, if_pos ((ch _ _ (by omega) (by omega) (by omega) (by omega)).1 e)]
      · rw [nxR, if_neg (fun h => e ((ch _ _ (by omega) (by omega) (by omega) (by omega)).2 h))] at he
        exact mid k (by omega) (Or.inl (by omega)) (by rw [← he]) (fun _ => he)
  refine cal_ev (fun r => call_X5_nextOrder d b μ 49 n) (ev_row (fun q => tX5_nextOrder_0 _ q b μ 49 n) ?_)
  rw [w32_id (by omega) (by omega)]
  by_cases e : n = 0
  · subst e
    have h0 : nxR pat (0 - 1) = -1 := rfl
    refine ev_row (fun q => tX5_nextOrder_4 _ q b μ _ _ 49) (ev_pos (by decide) ?_)
    exact mid _ (by decide) (Or.inr (by decide)) (by rw [h0]; decide) (fun h => absurd h (by decide))
  · have := rise (n - 1) (by omega) rfl
    rw [show ((n - 1 : Nat) : Int) - 1 = (n : Int) - 2 by omega] at this
    exact this
theorem getD_snoc (l : List Int) (a : Int) (i : Nat) (h : i ≤ l.length) : (l ++ [a]).getD i 0 = if i = l.length then a else l.getD i 0 := by
  rw [List.getD_eq_getElem?_getD, List.getD_eq_getElem?_getD]
  by_cases e : i = l.length
  · rw [if_pos e, e, List.getElem?_concat_length]; rfl
  · rw [if_neg e, List.getElem?_append_left (by omega)]
theorem flt_le (p : Int → Bool) (i : Nat) : ((iotaI i).filter p).length ≤ i := Nat.le_trans (List.length_filter_le _ _) (by rw [iota_len]; exact Nat.le_refl _)
theorem sX5_firstOrder (b : Bool) (μ : Nat → Int → Int) {G : Nat} (hG : μ (tw b + 1) 2 = G) (hG1 : G ≤ 12) (hgm : ∀ g, 0 ≤ g → g < (G : Int) → 0 ≤ μ (tw b + 10) g ∧ μ (tw b + 10) g < 12) : ∀ d, 2 ≤ d → Cal d 185 [mP 30, mP (tw b)] b μ (fun _ μ' => Fr [49] μ μ' ∧ ∀ g, 0 ≤ g → g < ((menL (μ (tw b + 10)) G).length : Int) → μ' 49 g = ofL (menL (μ (tw b + 10)) G) g) := deepC fun d hd => by
  obtain ⟨⟨b0, b1⟩, hbit⟩ := orB_bits (f := μ (tw b + 10)) G 0 0 (fun g g0 g1 => hgm g g0 (by omega)) (by decide) (by decide)
  have hb1 : orB (μ (tw b + 10)) G 0 0 < 4096 := b1
  have hB : ∀ i : Nat, i < 12 → (bI (orB (μ (tw b + 10)) G 0 0) i = true ↔ isAt (μ (tw b + 10)) i G = true) := fun i hi => by
    rw [hbit i (by omega), isAt_iff]
    constructor
    · rintro (q | ⟨g, g0, g1, g2⟩)
      · exact absurd q (by unfold bI; simp)
      · exact ⟨g, g0, by omega, g2⟩
    · rintro ⟨g, g0, g1, g2⟩
      exact Or.inr ⟨g, g0, by omega, g2⟩
  have lp : ∀ (k i : Nat) (μ' : Nat → Int → Int), i + k = 12 → Fr [49] μ μ' → (∀ g, 0 ≤ g → g < (((iotaI i).filter (fun m => isAt (μ (tw b + 10)) m G)).length : Int) → μ' 49 g = ofL ((iotaI i).filter (fun m => isAt (μ (tw b + 10)) m G)) g) → Ev (fun q => mRun (mCallN d) kX5_firstOrder q 10 [some (mP 30), some (mP (tw b)), some (mI (orB (μ (tw b + 10)) G 0 0)), some (mI (((iotaI i).filter (fun m => isAt (μ (tw b + 10)) m G)).length : Int)), some (mI i)] [] (SH, μ', RHO b)) b (fun _ μ' => Fr [49] μ μ' ∧ ∀ g, 0 ≤ g → g < ((menL (μ (tw b + 10)) G).length : Int) → μ' 49 g = ofL (menL (μ (tw b + 10)) G) g) := by
    intro k
    induction k with
    | zero =>
      intro i μ' hk hf hx
      have hi : i = 12 := by omega
      subst hi
      exact ev_row (fun q => tX5_firstOrder_10 _ q b μ' _ _ _ b) (ev_neg (by decide) (ev_row (fun q => tX5_firstOrder_53 _ q b μ' _ _ _ b) (ev_ret ⟨hf, hx⟩)))
    | succ k ih =>
      intro i μ' hk hf hx
      have hle := flt_le (fun m => isAt (μ (tw b + 10)) m G) i
      have e1 : ∀ _ : True, w32 ((i : Int) + 1) = ((i + 1 : Nat) : Int) := fun _ => by rw [w32_id (by omega) (by omega)]; rfl
      refine ev_row (fun q => tX5_firstOrder_10 _ q b μ' _ _ _ b) (ev_pos (by omega) (ev_pos (by omega) ?_))
      rw [bit_iff b0 (by omega) (by omega) (by omega)]
      have hs := flt_snoc (fun m => isAt (μ (tw b + 10)) m G) i
      by_cases c : isAt (μ (tw b + 10)) i G = true
      · rw [if_pos ((hB i (by omega)).2 c)]
        refine ev_pos rfl (ev_if (by omega) (ev_row (fun q => tX5_firstOrder_47 _ q b _ _ _ _ b) ?_))
        rw [e1 trivial]
        rw [if_pos c] at hs
        have hlen : ((iotaI (i + 1)).filter (fun m => isAt (μ (tw b + 10)) m G)).length = ((iotaI i).filter (fun m => isAt (μ (tw b + 10)) m G)).length + 1 := by rw [hs, List.length_append]; rfl
        have e2 : w32 ((((iotaI i).filter (fun m => isAt (μ (tw b + 10)) m G)).length : Int) + 1) = (((iotaI (i + 1)).filter (fun m => isAt (μ (tw b + 10)) m G)).length : Int) := by
          rw [hlen, w32_id (by omega) (by omega)]; rfl
        rw [e2]
        refine ih (i + 1) _ (by omega) (fr_m2 hf (by decide)) (fun g g0 g1 => ?_)
        rw [hlen] at g1
        rw [m2_at]
        unfold ofL
        rw [hs, getD_snoc _ _ _ (by omega)]
        by_cases q : g = (((iotaI i).filter (fun m => isAt (μ (tw b + 10)) m G)).length : Int)
        · rw [if_pos q, if_pos (by omega)]
        · rw [if_neg q, if_neg (by omega)]; exact hx g g0 (by omega)
      · rw [if_neg (fun h => c ((hB i (by omega)).1 h))]
        refine ev_neg (by decide) (ev_row (fun q => tX5_firstOrder_47 _ q b _ _ _ _ b) ?_)
        rw [e1 trivial]
        rw [if_neg c, List.append_nil] at hs
        rw [← hs]
        exact ih (i + 1) _ (by omega) hf (by rw [hs]; exact hx)
  refine cal_ev (fun r => call_X5_firstOrder d b μ b) (ev_row (fun q => tX5_firstOrder_0 _ q b μ b) (ev_call (sX7_standingBits b b μ hG hG1 d (by omega)) ?_))
  exact lp 12 0 μ rfl fr_rfl (fun g g0 g1 => absurd g1 (by show ¬ (g < (0 : Int)); omega))
