/-! ===== the best exchange, in the class ===== -/
theorem ratP_congr {pr : Int → Int → Int} {fa fb f men men' : Int → Int} {n : Nat} (h : ∀ g, 0 ≤ g → g < (n : Int) → men' g = men g) : ∀ k : Nat, ratP pr fa fb n f men' k = ratP pr fa fb n f men k
  | 0 => rfl
  | k + 1 => by
    have e : ∀ s t, dst fa fb (fun g => pr (men' g) k) n s t = dst fa fb (fun g => pr (men g) k) n s t := fun s t => dst_congr (fun g g0 g1 => ⟨rfl, rfl, by rw [h g g0 g1]⟩) s t
    unfold ratP
    rw [e, ratP_congr h k]
theorem rtM_congr {b : Bool} {μ : Nat → Int → Int} {men men' : Int → Int} (h : ∀ g, 0 ≤ g → g < μ (tw b + 1) 2 → men' g = men g) : rtM b μ men' = rtM b μ men := ratP_congr (fun g g0 g1 => h g g0 (by omega)) _
theorem exch_at (men : Int → Int) (i j x : Int) : exch men i j x = if x = j then men i else if x = i then men j else men x := rfl
theorem sX3_isBetterThan_46 (b : Bool) (μ : Nat → Int → Int) : ∀ d, 1 ≤ d → Cal d 156 [mP 48, mP 46] b μ (fun v μ' => μ' = μ ∧ ((v = 1 ∧ (μ 46 1 < μ 48 1 ∨ (μ 48 1 = μ 46 1 ∧ μ 48 2 < μ 46 2))) ∨ (v = 0 ∧ ¬ (μ 46 1 < μ 48 1 ∨ (μ 48 1 = μ 46 1 ∧ μ 48 2 < μ 46 2))))) := deepC fun d _ => by
  have yes : (μ 46 1 < μ 48 1 ∨ (μ 48 1 = μ 46 1 ∧ μ 48 2 < μ 46 2)) → Ev (fun n => mRun (mCallN d) kX3_isBetterThan n 33 [some (mP 48), some (mP 46)] [] (SH, μ, RHO b)) b (fun v μ' => μ' = μ ∧ ((v = 1 ∧ (μ 46 1 < μ 48 1 ∨ (μ 48 1 = μ 46 1 ∧ μ 48 2 < μ 46 2))) ∨ (v = 0 ∧ ¬ (μ 46 1 < μ 48 1 ∨ (μ 48 1 = μ 46 1 ∧ μ 48 2 < μ 46 2))))) := fun h => ev_row (fun n => tX3_isBetterThan_46_33 _ n b μ) (ev_row (fun n => tX3_isBetterThan_46_38 _ n b μ 1) (ev_if (Or.inr rfl) (ev_ret ⟨rfl, Or.inl ⟨rfl, h⟩⟩)))
  have no : ¬ (μ 46 1 < μ 48 1 ∨ (μ 48 1 = μ 46 1 ∧ μ 48 2 < μ 46 2)) → Ev (fun n => mRun (mCallN d) kX3_isBetterThan n 37 [some (mP 48), some (mP 46)] [] (SH, μ, RHO b)) b (fun v μ' => μ' = μ ∧ ((v = 1 ∧ (μ 46 1 < μ 48 1 ∨ (μ 48 1 = μ 46 1 ∧ μ 48 2 < μ 46 2))) ∨ (v = 0 ∧ ¬ (μ 46 1 < μ 48 1 ∨ (μ 48 1 = μ 46 1 ∧ μ 48 2 < μ 46 2))))) := fun h => ev_row (fun n => tX3_isBetterThan_46_37 _ n b μ) (ev_row (fun n => tX3_isBetterThan_46_38 _ n b μ 0) (ev_if (Or.inl rfl) (ev_ret ⟨rfl, Or.inr ⟨rfl, h⟩⟩)))
  refine cal_ev (fun r => call_X3_isBetterThan_46 d b μ) (ev_row (fun n => tX3_isBetterThan_46_0 _ n b μ) (ev_br (fun e => yes (Or.inl e)) (fun e => ev_br (fun e1 => ev_br (fun e2 => yes (Or.inr ⟨e1, e2⟩)) (fun e2 => no (fun h => ?_))) (fun e1 => no (fun h => ?_)))))
  · rcases h with h | h
    · exact e h
    · exact e2 h.2
  · rcases h with h | h
    · exact e h
    · exact e1 h.1
/-- the search so far: best people, coins and gates r; the trial's men as they were -/
def Bx (b : Bool) (μ μ' : Nat → Int → Int) (r : (Int × Int) × (Int × Int)) : Prop := Fr [27, 28, 46, 48, 49] μ μ' ∧ (∀ j, j ≠ 1 → j ≠ 2 → μ' 46 j = μ 46 j) ∧ μ' 46 1 = r.1.1 ∧ μ' 46 2 = r.1.2 ∧ (∀ x, 0 ≤ x → x < 12 → μ' 49 x = μ 47 x) ∧ (r = ((μ 46 1, μ 46 2), (-1, -1)) ∨ ((0 ≤ r.2.1 ∧ r.2.1 < μ (tw b + 1) 2) ∧ (0 ≤ r.2.2 ∧ r.2.2 < μ (tw b + 1) 2)))
theorem fr5_R {b : Bool} {μ μ' : Nat → Int → Int} (hR : R b μ) (h46 : μ 46 4 = 0) (h : Fr [27, 28, 46, 48, 49] μ μ') (hj : ∀ j, j ≠ 1 → j ≠ 2 → μ' 46 j = μ 46 j) : R b μ' := R_ord hR (fr_sub h (fun a ha => by
  simp only [List.mem_cons, List.not_mem_nil, or_false] at ha
  rcases ha with e | e | e | e | e <;> rw [e] <;> decide)) (Or.inl ⟨h 44 (by decide), h 45 (by decide)⟩) (Or.inr (by rw [hj 4 (by decide) (by decide)]; exact h46))
theorem fr5_tw {b : Bool} {μ μ' : Nat → Int → Int} (h : Fr [27, 28, 46, 48, 49] μ μ') : ∀ a, a ∈ twL b → μ' a = μ a := fun a ha => h a (by have := twL_or ha; have := tw_or b; simp; omega)
theorem eX5_better_47 {d : Nat} (hd : 4 ≤ d) {b : Bool} {μ : Nat → Int → Int} (hR : R b μ) (h46 : μ 46 4 = 0) (hpr : ∀ m p, 0 ≤ m → m < μ (tw b + 1) 1 → 0 ≤ p → p < μ (tw b + 1) 3 → μ (32 + m.toNat) p = prA b μ m p) (hm : ∀ g, 0 ≤ g → g < μ (tw b + 1) 2 → 0 ≤ μ 47 g ∧ μ 47 g < μ (tw b + 1) 1) {i : Int} (i0 : 0 ≤ i) (i1 : i < μ (tw b + 1) 2) {Q : Int → (Nat → Int → Int) → Prop} : ∀ (k : Nat) (j : Int) (μ' : Nat → Int → Int) (r : (Int × Int) × (Int × Int)), i < j → j + k = μ (tw b + 1) 2 → Bx b μ μ' r → (∀ v7 μ2, Bx b μ μ2 (exJ (rtM b μ) (μ 47) i k j r) → Ev (fun n => mRun (mCallN d) kX5_betterExchange n 30 [some (mP 30), some (mP (tw b)), some (mP 74), some (mP 26), some (mI (exJ (rtM b μ) (μ 47) i k j r).2.1), some (mI (exJ (rtM b μ) (μ 47) i k j r).2.2), some (mI (i + 1)), some (mI v7)] [] (SH, μ2, RHO b)) b Q) → Ev (fun n => mRun (mCallN d) kX5_betterExchange n 47 [some (mP 30), some (mP (tw b)), some (mP 74), some (mP 26), some (mI r.2.1), some (mI r.2.2), some (mI i), some (mI j)] [] (SH, μ', RHO b)) b Q := by
  have hCn := hR.1.1
  obtain ⟨⟨z1, z2, z3⟩, ⟨w1, w2, w3⟩, ⟨y1, y2, y3⟩, ⟨x1, x2, x3⟩⟩ := hCn
  intro k
  induction k with
  | zero =>
    intro j μ' r hij hk hB hK
    have e1 : w32 (i + 1) = i + 1 := w32_id (by omega) (by omega)
    refine ev_row (fun n => tX5_betterExchange_47 _ n b μ' r.2.1 r.2.2 i j 74 b) (ev_neg (by rw [fr5_tw (b := b) hB.1 (tw b + 1) (by simp [twL])]; omega) ?_)
    rw [e1]
    exact hK j μ' hB
  | succ k ih =>
    intro j μ' r hij hk hB hK
    obtain ⟨hf, hj, s1, s2, hmen, hr⟩ := hB
    have kt := fr5_tw (b := b) hf
    have k1 := kt (tw b + 1) (by simp [twL])
    have e1 : w32 (j + 1) = j + 1 := w32_id (by omega) (by omega)
    have hX := sX9_exchangeIn 49 12 i j b μ' rfl i0 (by omega) (by omega) (by omega) d (by omega)
    have hfx : Fr [27, 28, 46, 48, 49] μ (m2 (m2 μ' 49 i (μ' 49 j)) 49 j (μ' 49 i)) := fr_m2 (fr_m2 hf (by decide)) (by decide)
    have k46x : (m2 (m2 μ' 49 i (μ' 49 j)) 49 j (μ' 49 i)) 46 = μ' 46 := by rw [m2_ne (by decide), m2_ne (by decide)]
    have hjx : ∀ q, q ≠ 1 → q ≠ 2 → (m2 (m2 μ' 49 i (μ' 49 j)) 49 j (μ' 49 i)) 46 q = μ 46 q := fun q q1 q2 => by rw [k46x]; exact hj q q1 q2
    have hRx := fr5_R hR h46 hfx hjx
    have ktx := fr5_tw (b := b) hfx
    have k74x := hfx 74 (by decide)
    have m49x : ∀ g, 0 ≤ g → g < 12 → (m2 (m2 μ' 49 i (μ' 49 j)) 49 j (μ' 49 i)) 49 g = exch (μ 47) i j g := fun g g0 g1 => by
      rw [m2_at, m2_at, exch_at, hmen i i0 (by omega), hmen j (by omega) (by omega), hmen g g0 g1]
    have hRt := sX3_rate_48 b _ hRx (fun m p m0 m1 p0 p1 => by
      rw [ktx (tw b + 1) (by simp [twL])] at m1 p1
      rw [prA_same ktx k74x, hfx (32 + m.toNat) (by simp; omega)]; exact hpr m p m0 m1 p0 p1) (fun g g0 g1 => by
      rw [ktx (tw b + 1) (by simp [twL])] at g1 ⊢
      rw [m49x g g0 (by omega), exch_at]
      by_cases c1 : g = j
      · rw [if_pos c1]; exact hm i i0 i1
      · rw [if_neg c1]
        by_cases c2 : g = i
        · rw [if_pos c2]; exact hm j (by omega) (by omega)
        · rw [if_neg c2]; exact hm g g0 g1) d (by omega)
    rw [rtM_same ktx k74x, rtM_congr (men := exch (μ 47) i j) (fun g g0 g1 => m49x g g0 (by omega))] at hRt
    refine ev_row (fun n => tX5_betterExchange_47 _ n b μ' r.2.1 r.2.2 i j 74 b) (ev_pos (by rw [k1]; omega) (ev_call hX (ev_callP hRt (fun _ μ2 ⟨f2, j2, a1, a2⟩ => ?_))))
    have hf2 : Fr [27, 28, 46, 48, 49] μ μ2 := fr_tr hfx f2 (fun a ha => by
      simp only [List.mem_cons, List.not_mem_nil, or_false] at ha
      rcases ha with e | e | e <;> rw [e] <;> decide)
    have k46 : μ2 46 = μ' 46 := by rw [f2 46 (by decide), k46x]
    have m49 : ∀ g, 0 ≤ g → g < 12 → μ2 49 g = exch (μ 47) i j g := fun g g0 g1 => by rw [f2 49 (by decide)]; exact m49x g g0 g1
    refine ev_callP (sX3_isBetterThan_46 b μ2 d (by omega)) (fun v3 μ3 ⟨e3, h3⟩ => ?_)
    subst e3
    rw [a1, a2, k46, s1, s2] at h3
    -- the trial's men are as before behind the second exchange
    have back : ∀ (r' : (Int × Int) × (Int × Int)) (μ4 : Nat → Int → Int), Fr [27, 28, 46, 48, 49] μ μ4 → (∀ q, q ≠ 1 → q ≠ 2 → μ4 46 q = μ 46 q) → μ4 46 1 = r'.1.1 → μ4 46 2 = r'.1.2 → (∀ g, 0 ≤ g → g < 12 → μ4 49 g = exch (μ 47) i j g) → (r' = ((μ 46 1, μ 46 2), (-1, -1)) ∨ ((0 ≤ r'.2.1 ∧ r'.2.1 < μ (tw b + 1) 2) ∧ (0 ≤ r'.2.2 ∧ r'.2.2 < μ (tw b + 1) 2))) → exJ (rtM b μ) (μ 47) i (k + 1) j r = exJ (rtM b μ) (μ 47) i k (j + 1) r' → Ev (fun n => mRun (mCallN d) kX5_betterExchange n 136 [some (mP 30), some (mP (tw b)), some (mP 74), some (mP 26), some (mI r'.2.1), some (mI r'.2.2), some (mI i), some (mI j)] [] (SH, μ4, RHO b)) b Q := fun r' μ4 f4 j4 q1 q2 n4 hr' he => by
      refine ev_row (fun n => tX5_betterExchange_136 _ n b μ4 r'.2.1 r'.2.2 i j 74 b) (ev_call (sX9_exchangeIn 49 12 i j b μ4 rfl i0 (by omega) (by omega) (by omega) d (by omega)) ?_)
      dsimp only
      rw [e1]
      refine ih (j + 1) _ r' (by omega) (by omega) ⟨fr_m2 (fr_m2 f4 (by decide)) (by decide), fun q c1 c2 => ?_, ?_, ?_, fun x c0 c1 => ?_, hr'⟩ (fun v7 μ5 h5 => ?_)
      · rw [m2_ne (by decide), m2_ne (by decide)]; exact j4 q c1 c2
      · rw [m2_ne (by decide), m2_ne (by decide)]; exact q1
      · rw [m2_ne (by decide), m2_ne (by decide)]; exact q2
      · rw [m2_at, m2_at, n4 i i0 (by omega), n4 j (by omega) (by omega), n4 x c0 c1, exch_at, exch_at, exch_at, if_neg (by omega : ¬ i = j), if_pos rfl, if_pos rfl]
        by_cases c2 : x = j
        · rw [if_pos c2, c2]
        · rw [if_neg c2, if_neg c2]
          by_cases c3 : x = i
          · rw [if_pos c3, c3]
          · rw [if_neg c3, if_neg c3]
      · have := hK v7 μ5
        rw [he] at this
        exact this h5
    rcases h3 with ⟨e, h3⟩ | ⟨e, h3⟩
    · refine ev_neg (by show ¬ v3 = 0; omega) ?_
      refine back (rtM b μ (exch (μ 47) i j), (i, j)) _ (fr_m2 (fr_m2 hf2 (by decide)) (by decide)) (fun q c1 c2 => ?_) ?_ ?_ (fun g g0 g1 => ?_) (Or.inr ⟨⟨i0, i1⟩, ⟨by show 0 ≤ j; omega, by show j < _; omega⟩⟩) (by rw [exJ, if_pos h3])
      · dsimp only
        rw [m2_at, if_neg c2, m2_at, if_neg c1, k46]; exact hj q c1 c2
      · rw [m2_at, if_neg (by decide), m2_at, if_pos rfl]; exact a1
      · rw [m2_at, if_pos rfl, m2_ne (by decide)]; exact a2
      · rw [m2_ne (by decide), m2_ne (by decide)]; exact m49 g g0 g1
    · refine ev_pos (show v3 = 0 from e) ?_
      exact back r μ3 hf2 (fun q c1 c2 => by rw [k46]; exact hj q c1 c2) (by rw [k46]; exact s1) (by rw [k46]; exact s2) m49 hr (by rw [exJ, if_neg h3])
