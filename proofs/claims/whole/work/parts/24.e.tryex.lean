/-! ===== exchanges, in the class ===== -/
theorem exJ_congr {rt : (Int → Int) → Int × Int} {G : Int} (hrt : ∀ m m' : Int → Int, (∀ g, 0 ≤ g → g < G → m' g = m g) → rt m' = rt m) {men men' : Int → Int} (h : ∀ g, 0 ≤ g → g < G → men' g = men g) {i : Int} (i0 : 0 ≤ i) (i1 : i < G) : ∀ (k : Nat) (j : Int) (r : (Int × Int) × (Int × Int)), 0 ≤ j → j + k = G → exJ rt men' i k j r = exJ rt men i k j r
  | 0, _, _, _, _ => rfl
  | k + 1, j, r, j0, hk => by
    have e : rt (exch men' i j) = rt (exch men i j) := hrt _ _ (fun g g0 g1 => by rw [exch_at, exch_at, h i i0 i1, h j j0 (by omega), h g g0 g1])
    unfold exJ
    rw [e]
    exact exJ_congr hrt h i0 i1 k (j + 1) _ (by omega) (by omega)
theorem exI_congr {rt : (Int → Int) → Int × Int} {G : Int} (hrt : ∀ m m' : Int → Int, (∀ g, 0 ≤ g → g < G → m' g = m g) → rt m' = rt m) {men men' : Int → Int} (h : ∀ g, 0 ≤ g → g < G → men' g = men g) : ∀ (k : Nat) (i : Int) (r : (Int × Int) × (Int × Int)), 0 ≤ i → i + k = G → exI rt men' k i r = exI rt men k i r
  | 0, _, _, _, _ => rfl
  | k + 1, i, r, i0, hk => by
    unfold exI
    rw [exJ_congr hrt h i0 (by omega) k (i + 1) r (by omega) (by omega)]
    exact exI_congr hrt h k (i + 1) _ (by omega) (by omega)
def exE (b : Bool) (μ : Nat → Int → Int) (men : Int → Int) (r : Int × Int) : (Int × Int) × (Int × Int) := exI (rtM b μ) men (μ (tw b + 1) 2).toNat 0 (r, (-1, -1))
theorem exE_congr {b : Bool} {μ : Nat → Int → Int} {men men' : Int → Int} (r : Int × Int) (h0 : 0 ≤ μ (tw b + 1) 2) (h : ∀ g, 0 ≤ g → g < μ (tw b + 1) 2 → men' g = men g) : exE b μ men' r = exE b μ men r := exI_congr (G := μ (tw b + 1) 2) (fun _ _ hh => rtM_congr hh) h _ 0 _ (by decide) (by omega)
theorem sX5_betterExchange (b : Bool) (μ : Nat → Int → Int) (hR : R b μ) (h46 : μ 46 4 = 0) (hpr : ∀ m p, 0 ≤ m → m < μ (tw b + 1) 1 → 0 ≤ p → p < μ (tw b + 1) 3 → μ (32 + m.toNat) p = prA b μ m p) (hm : ∀ g, 0 ≤ g → g < μ (tw b + 1) 2 → 0 ≤ μ 47 g ∧ μ 47 g < μ (tw b + 1) 1) : ∀ d, 5 ≤ d → Cal d 184 [mP 30, mP (tw b), mP 74, mP 26] b μ (fun v μ' => Fr [27, 28, 46, 47, 48, 49] μ μ' ∧ (∀ j, j ≠ 1 → j ≠ 2 → μ' 46 j = μ 46 j) ∧ μ' 46 1 = (exE b μ (μ 47) (μ 46 1, μ 46 2)).1.1 ∧ μ' 46 2 = (exE b μ (μ 47) (μ 46 1, μ 46 2)).1.2 ∧ ((exE b μ (μ 47) (μ 46 1, μ 46 2) = ((μ 46 1, μ 46 2), (-1, -1)) ∧ v = 0 ∧ μ' 47 = μ 47) ∨ (((0 ≤ (exE b μ (μ 47) (μ 46 1, μ 46 2)).2.1 ∧ (exE b μ (μ 47) (μ 46 1, μ 46 2)).2.1 < μ (tw b + 1) 2) ∧ (0 ≤ (exE b μ (μ 47) (μ 46 1, μ 46 2)).2.2 ∧ (exE b μ (μ 47) (μ 46 1, μ 46 2)).2.2 < μ (tw b + 1) 2)) ∧ v = 1 ∧ ∀ x, μ' 47 x = exch (μ 47) (exE b μ (μ 47) (μ 46 1, μ 46 2)).2.1 (exE b μ (μ 47) (μ 46 1, μ 46 2)).2.2 x))) := deepC fun d hd => by
  have hCn := hR.1.1
  obtain ⟨⟨z1, z2, z3⟩, ⟨w1, w2, w3⟩, ⟨y1, y2, y3⟩, ⟨x1, x2, x3⟩⟩ := hCn
  have sub6 : ∀ a, a ∈ [27, 28, 46, 48, 49] → a ∈ [27, 28, 46, 47, 48, 49] := fun a ha => by
    simp only [List.mem_cons, List.not_mem_nil, or_false] at ha ⊢
    omega
  have lp : ∀ (k : Nat) (i : Int) (v7 : Option mV) (μ' : Nat → Int → Int) (r : (Int × Int) × (Int × Int)), 0 ≤ i → i + k = μ (tw b + 1) 2 → Bx b μ μ' r → exE b μ (μ 47) (μ 46 1, μ 46 2) = exI (rtM b μ) (μ 47) k i r → Ev (fun n => mRun (mCallN d) kX5_betterExchange n 30 [some (mP 30), some (mP (tw b)), some (mP 74), some (mP 26), some (mI r.2.1), some (mI r.2.2), some (mI i), v7] [] (SH, μ', RHO b)) b (fun v μ' => Fr [27, 28, 46, 47, 48, 49] μ μ' ∧ (∀ j, j ≠ 1 → j ≠ 2 → μ' 46 j = μ 46 j) ∧ μ' 46 1 = (exE b μ (μ 47) (μ 46 1, μ 46 2)).1.1 ∧ μ' 46 2 = (exE b μ (μ 47) (μ 46 1, μ 46 2)).1.2 ∧ ((exE b μ (μ 47) (μ 46 1, μ 46 2) = ((μ 46 1, μ 46 2), (-1, -1)) ∧ v = 0 ∧ μ' 47 = μ 47) ∨ (((0 ≤ (exE b μ (μ 47) (μ 46 1, μ 46 2)).2.1 ∧ (exE b μ (μ 47) (μ 46 1, μ 46 2)).2.1 < μ (tw b + 1) 2) ∧ (0 ≤ (exE b μ (μ 47) (μ 46 1, μ 46 2)).2.2 ∧ (exE b μ (μ 47) (μ 46 1, μ 46 2)).2.2 < μ (tw b + 1) 2)) ∧ v = 1 ∧ ∀ x, μ' 47 x = exch (μ 47) (exE b μ (μ 47) (μ 46 1, μ 46 2)).2.1 (exE b μ (μ 47) (μ 46 1, μ 46 2)).2.2 x))) := by
    intro k
    induction k with
    | zero =>
      intro i v7 μ' r i0 hk hB he
      rw [show exI (rtM b μ) (μ 47) 0 i r = r from rfl] at he
      rw [he]
      obtain ⟨hf, hj, s1, s2, hmen, hr⟩ := hB
      have k1 := fr5_tw (b := b) hf (tw b + 1) (by simp [twL])
      have k47 : μ' 47 = μ 47 := hf 47 (by decide)
      refine ev_row (fun n => tX5_betterExchange_30 _ n b μ' r.2.1 r.2.2 i v7 74 b) (ev_neg (by rw [k1]; omega) (ev_br (fun c => ?_) (fun c => ?_)))
      · rcases hr with hr | hr
        · exact ev_ret ⟨fr_sub hf sub6, hj, s1, s2, Or.inl ⟨hr, rfl, k47⟩⟩
        · omega
      · rcases hr with hr | hr
        · exact absurd (by rw [hr]) c
        · refine ev_call (sX9_exchangeIn 47 12 r.2.1 r.2.2 b μ' rfl hr.1.1 (by omega) hr.2.1 (by omega) d (by omega)) (ev_ret ⟨fr_m2 (fr_m2 (fr_sub hf sub6) (by decide)) (by decide), fun j j1 j2 => ?_, ?_, ?_, Or.inr ⟨hr, rfl, fun x => ?_⟩⟩)
          · dsimp only
            rw [m2_ne (by decide), m2_ne (by decide)]; exact hj j j1 j2
          · dsimp only
            rw [m2_ne (by decide), m2_ne (by decide)]; exact s1
          · dsimp only
            rw [m2_ne (by decide), m2_ne (by decide)]; exact s2
          · dsimp only
            rw [m2_at, m2_at, exch_at, k47]
    | succ k ih =>
      intro i v7 μ' r i0 hk hB he
      have k1 := fr5_tw (b := b) hB.1 (tw b + 1) (by simp [twL])
      have e1 : w32 (i + 1) = i + 1 := w32_id (by omega) (by omega)
      refine ev_row (fun n => tX5_betterExchange_30 _ n b μ' r.2.1 r.2.2 i v7 74 b) (ev_pos (by rw [k1]; omega) ?_)
      rw [e1]
      refine eX5_better_47 (by omega) hR h46 hpr hm i0 (by omega) k (i + 1) μ' r (by omega) (by omega) hB (fun v7' μ2 h2 => ?_)
      exact ih (i + 1) _ μ2 _ (by omega) (by omega) h2 he
  refine cal_ev (fun r => call_X5_betterExchange d b μ 74 b) (ev_row (fun n => tX5_betterExchange_0 _ n b μ 74 b) (ev_if (by decide) ?_))
  refine lp (μ (tw b + 1) 2).toNat 0 none _ ((μ 46 1, μ 46 2), (-1, -1)) (by decide) (by omega) ⟨fun a ha => ?_, fun j j1 j2 => ?_, ?_, ?_, fun x c0 c1 => ?_, Or.inl rfl⟩ rfl
  · exact mCp_ne (fun e => ha (by rw [e]; decide))
  · rw [mCp_ne (by decide)]
  · rw [mCp_ne (by decide)]
  · rw [mCp_ne (by decide)]
  · rw [mCp_at, if_pos (by omega), show 0 + (x - 0) = x by omega]
