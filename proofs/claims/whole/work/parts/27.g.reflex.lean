/-! ===== the reference's tokens ===== -/
/-- the reference stands ahead of what stands at s -/
def RSv (T : Int → Int) (n : Int) (ν : Nat → Int → Int) (s : Int) (g : Bool) : Prop := ν 96 5 = 0 ∧ ν 96 6 = -1 ∧ ν 96 3 = n ∧ (∀ i, 0 ≤ i → i < 1600 → ν 97 i = T i) ∧ Rwrd ν ∧ (0 ≤ ν 96 2 ∧ ν 96 2 ≤ s ∧ ∀ j, ν 96 2 ≤ j → j < s → (T j = 32 ∨ T j = 10)) ∧ VC T n s ∧ (ν 96 4 ≤ s ∧ (ν 96 4 = s ↔ g = true))
def RBd (ν : Nat → Int → Int) (e : Int × Int) : Prop := ν 96 5 = e.1 ∧ e.1 ≠ 0 ∧ ν 96 6 = e.2
def lxJ : List Int := [2, 4, 5, 6, 31]
theorem Rwrd_fg {J : List Int} {L : List Nat} {ν ν' : Nat → Int → Int} (h : Fg L J ν ν') (hL : ∀ a, a ∈ L → ¬ (98 ≤ a ∧ a ≤ 119)) (hw : Rwrd ν) : Rwrd ν' := fun j hj i hi => by
  rw [h.1 (98 + j) (fun q => hL _ q ⟨by omega, by omega⟩) (by omega)]; exact hw j hj i hi
theorem RSv_at {T : Int → Int} {n s : Int} {g : Bool} {ν : Nat → Int → Int} {a : Int} (h : RSv T n ν s g) (a0 : ν 96 2 ≤ a) (a1 : a ≤ s) : RSv T n (m2 ν 96 2 a) s g := by
  obtain ⟨h1, h2, h3, h4, h5, ⟨p0, p1, p2⟩, h6, h7⟩ := h
  refine ⟨?_, ?_, ?_, fun i i0 i1 => ?_, ?_, ⟨?_, ?_, fun j j0 j1 => ?_⟩, h6, ?_⟩
  · rw [m2_at, if_neg (by decide)]; exact h1
  · rw [m2_at, if_neg (by decide)]; exact h2
  · rw [m2_at, if_neg (by decide)]; exact h3
  · rw [m2_ne (by decide)]; exact h4 i i0 i1
  · exact Rwrd_fg (L := []) (J := [2]) (fg_m96 fg_rfl (by decide)) (fun a ha => absurd ha (by simp)) h5
  · rw [m2_at, if_pos rfl]; omega
  · rw [m2_at, if_pos rfl]; exact a1
  · rw [m2_at, if_pos rfl] at j0; exact p2 j (by omega) j1
  · rw [m2_at, if_neg (by decide)]; exact h7
theorem sX10_look {T : Int → Int} {n s : Int} {g : Bool} (hT : Tp T n) (b : Bool) (ν : Nat → Int → Int) (h : RSv T n ν s g) : ∀ d, 1 ≤ d → Cal d 80 [mP 96] b ν (fun v ν' => v = byA T n s ∧ Fg [] [2] ν ν' ∧ RSv T n ν' s g ∧ ν' 96 2 = s) := deepC fun d _ => by
  have hn1 := hT.2.1
  have lp : ∀ (k : Nat) (ν' : Nat → Int → Int), ν' 96 2 + k = s → Fg [] [2] ν ν' → RSv T n ν' s g → Ev (fun m => mRun (mCallN d) kX10_look m 0 [some (mP 96)] [] (SH, ν', RHO b)) b (fun v ν' => v = byA T n s ∧ Fg [] [2] ν ν' ∧ RSv T n ν' s g ∧ ν' 96 2 = s) := by
    intro k
    induction k with
    | zero =>
      intro ν' hk hf hr
      have hr0 := hr
      obtain ⟨h1, h2, h3, h4, h5, ⟨p0, p1, p2⟩, h6, h7⟩ := hr
      have hat : ν' 96 2 = s := by omega
      have fin : Ev (fun m => mRun (mCallN d) kX10_look m 52 [some (mP 96)] [] (SH, ν', RHO b)) b (fun v ν' => v = byA T n s ∧ Fg [] [2] ν ν' ∧ RSv T n ν' s g ∧ ν' 96 2 = s) := by
        refine ev_row (fun m => tX10_look_52 _ m b ν') ?_
        rw [hat, h3]
        refine ev_br (fun c => ev_if ⟨h6.1, by omega⟩ (ev_row (fun m => tX10_look_76 _ m b ν' _) (ev_ret ⟨?_, hf, hr0, hat⟩))) (fun c => ev_row (fun m => tX10_look_76 _ m b ν' _) (ev_ret ⟨?_, hf, hr0, hat⟩))
        · rw [byA_in h6.1 c]; exact h4 s h6.1 (by omega)
        · rw [byA_out (by omega)]
      refine ev_row (fun m => tX10_look_0 _ m b ν') ?_
      rw [hat, h3]
      refine ev_br (fun c => ?_) (fun _ => fin)
      have hb := h6.2.2 c
      rw [h4 s h6.1 (by omega)]
      exact ev_if ⟨h6.1, by omega⟩ (ev_neg (fun q => hb (Or.inr q)) (ev_if ⟨h6.1, by omega⟩ (ev_neg (fun q => hb (Or.inl q)) fin)))
    | succ k ih =>
      intro ν' hk hf hr
      have hr0 := hr
      obtain ⟨h1, h2, h3, h4, h5, ⟨p0, p1, p2⟩, h6, h7⟩ := hr
      have hs1 := h6.2.1
      have hbl := p2 (ν' 96 2) (Int.le_refl _) (by omega)
      have go : Ev (fun m => mRun (mCallN d) kX10_look m 39 [some (mP 96)] [] (SH, ν', RHO b)) b (fun v ν' => v = byA T n s ∧ Fg [] [2] ν ν' ∧ RSv T n ν' s g ∧ ν' 96 2 = s) := by
        refine ev_row (fun m => tX10_look_39 _ m b ν') ?_
        rw [w32_id (by omega) (by omega)]
        exact ih _ (by rw [m2_at, if_pos rfl]; omega) (fg_m96 hf (by decide)) (RSv_at hr0 (by omega) (by omega))
      refine ev_row (fun m => tX10_look_0 _ m b ν') ?_
      rw [h3, h4 (ν' 96 2) p0 (by omega)]
      refine ev_pos (by omega) (ev_if ⟨p0, by omega⟩ (ev_br (fun _ => go) (fun c => ev_if ⟨p0, by omega⟩ (ev_pos (hbl.resolve_right c) go))))
  have hat := h.2.2.2.2.2.1
  exact cal_ev (fun r => call_X10_look d b ν) (lp (s - ν 96 2).toNat ν (by omega) fg_rfl h)
theorem sX10_isLetter (c : Int) (b : Bool) (ν : Nat → Int → Int) : ∀ d, 1 ≤ d → mCallN d 67 [mI c] (SH, ν, RHO b) = some (t01 (kdO c = 1), SH, ν, RHO b) := deep fun d _ => by
  refine cal_eq (cal_ev (fun r => call_X10_isLetter d b ν c) (ev_row (fun m => tX10_isLetter_0 _ m b ν c) ?_))
  have no : ¬ kdO c = 1 → Ev (fun m => mRun (mCallN d) kX10_isLetter m 16 [some (mI c)] [] (SH, ν, RHO b)) b (fun v' μ2 => v' = t01 (kdO c = 1) ∧ μ2 = ν) := fun h => ev_row (fun m => tX10_isLetter_16 _ m b ν c) (ev_row (fun m => tX10_isLetter_17 _ m b ν c 0) (ev_if (Or.inl rfl) (ev_ret ⟨(t01_neg h).symm, rfl⟩)))
  refine ev_br (fun e => no (fun h => by have := let_in h; omega)) (fun e => ev_br (fun e2 => no (fun h => by have := let_in h; omega)) (fun e2 => ev_row (fun m => tX10_isLetter_17 _ m b ν c 1) (ev_if (Or.inr rfl) (ev_ret ⟨(t01_pos ?_).symm, rfl⟩))))
  unfold kdO
  rw [if_neg (by omega), if_pos (by omega)]
theorem sX10_isDigit (c : Int) (b : Bool) (ν : Nat → Int → Int) : ∀ d, 1 ≤ d → mCallN d 62 [mI c] (SH, ν, RHO b) = some (t01 (kdO c = 2), SH, ν, RHO b) := deep fun d _ => by
  refine cal_eq (cal_ev (fun r => call_X10_isDigit d b ν c) (ev_row (fun m => tX10_isDigit_0 _ m b ν c) ?_))
  have no : ¬ kdO c = 2 → Ev (fun m => mRun (mCallN d) kX10_isDigit m 16 [some (mI c)] [] (SH, ν, RHO b)) b (fun v' μ2 => v' = t01 (kdO c = 2) ∧ μ2 = ν) := fun h => ev_row (fun m => tX10_isDigit_16 _ m b ν c) (ev_row (fun m => tX10_isDigit_17 _ m b ν c 0) (ev_if (Or.inl rfl) (ev_ret ⟨(t01_neg h).symm, rfl⟩)))
  refine ev_br (fun e => no (fun h => by have := dig_in h; omega)) (fun e => ev_br (fun e2 => no (fun h => by have := dig_in h; omega)) (fun e2 => ev_row (fun m => tX10_isDigit_17 _ m b ν c 1) (ev_if (Or.inr rfl) (ev_ret ⟨(t01_pos ?_).symm, rfl⟩))))
  unfold kdO
  rw [if_neg (by omega), if_neg (by omega), if_pos (by omega)]
theorem sX10_fail {T : Int → Int} {n s : Int} {g : Bool} (k p : Int) (hk : k ≠ 0) (b : Bool) (ν : Nat → Int → Int) (h : RSv T n ν s g) : ∀ d, 1 ≤ d → Cal d 36 [mP 96, mI k, mI p] b ν (fun _ ν' => Fg [] [5, 6] ν ν' ∧ RBd ν' (k, p)) := deepC fun d _ => by
  refine cal_ev (fun r => call_X10_fail d b ν k p) (ev_row (fun m => tX10_fail_0 _ m b ν k p) (ev_pos h.1 (ev_ret ⟨fg_m96 (fg_m96 fg_rfl (by decide)) (by decide), ?_, hk, ?_⟩)))
  · rw [m2_at, if_neg (by decide), m2_at, if_pos rfl]
  · rw [m2_at, if_pos rfl]
theorem shp_wd {j : Nat} (h : j < 22) : shp (98 + j) = (2, wLen.getD j 0) := by
  have H : ∀ j : Fin 22, shp (98 + j.1) = (2, wLen.getD j.1 0) := by decide
  exact H ⟨j, h⟩
theorem arr2_of {a N : Nat} {μ : Nat → Int → Int} {r : Nat → Int → Option Nat} (h : shp a = (2, N)) : mArr (SH, μ, r) a 2 = true := by
  show Nat.beq (shp a).1 2 = true
  rw [h]; rfl
theorem shape2_of {a N : Nat} {μ : Nat → Int → Int} {r : Nat → Int → Option Nat} (h : shp a = (2, N)) : mShape (SH, μ, r) a = (2, N) := h
theorem kdO_by {T : Int → Int} {n s : Int} {g : Bool} (hT : Tp T n) (hv : VC T n s) : (kdO (byA T n s) = 1 ∧ g = false) ↔ tkK T n s g = 1 := by
  have h3 : kdO (byA T n s) ≠ 4 := by rcases kdO_or (byA T n s) with ⟨q, -⟩ | ⟨q, -⟩ | ⟨q, -⟩ | ⟨q, -⟩ <;> omega
  unfold tkK
  cases g with
  | true =>
    constructor
    · rintro ⟨-, q⟩; exact absurd q (by decide)
    · intro q
      by_cases c : kdO (byA T n s) = 1 ∨ kdO (byA T n s) = 2
      · rw [if_pos ⟨rfl, c⟩] at q; omega
      · rw [if_neg (fun h => c h.2)] at q; omega
  | false => rw [if_neg (by simp)]; simp
theorem sX10_isHere {T : Int → Int} {n s : Int} {g : Bool} (hT : Tp T n) {j : Nat} (hj : j < 22) (b : Bool) (ν : Nat → Int → Int) (h : RSv T n ν s g) : ∀ d, 2 ≤ d → Cal d 65 [mP 96, mP (98 + j)] b ν (fun v ν' => v = t01 (tkW T n s g = (j : Int)) ∧ Fg [] [2] ν ν' ∧ RSv T n ν' s g ∧ ν' 96 2 = s) := deepC fun d hd => by
  have hn1 := hT.2.1
  have hsh := shp_wd hj
  obtain ⟨⟨t1, t2⟩, t3⟩ := wd_tab hj
  refine cal_ev (fun r => call_X10_isHere d b ν (98 + j)) (ev_row (fun m => tX10_isHere_0 _ m b ν (98 + j)) (ev_pos h.1 (ev_callP (sX10_look hT b ν h d (by omega)) (fun v1 ν1 ⟨e1, f1, l1, at1⟩ => ?_))))
  dsimp only
  rw [e1]
  have hl0 := l1
  obtain ⟨h1, h2, h3, h4, h5, ⟨p0, p1, p2⟩, h6, h7⟩ := l1
  have no : tkW T n s g ≠ (j : Int) → Ev (fun m => mRun (mCallN d) kX10_isHere m 28 [some (mP 96), some (mP (98 + j)), none, none] [] (SH, ν1, RHO b)) b (fun v ν' => v = t01 (tkW T n s g = (j : Int)) ∧ Fg [] [2] ν ν' ∧ RSv T n ν' s g ∧ ν' 96 2 = s) := fun q => ev_row (fun m => tX10_isHere_28 _ m b ν1 (98 + j)) (ev_ret ⟨(t01_neg q).symm, f1, hl0, at1⟩)
  have notk : tkK T n s g ≠ 1 → tkW T n s g ≠ (j : Int) := fun q => by unfold tkW; rw [if_neg q]; omega
  refine ev_call (sX10_isLetter _ b ν1 d (by omega)) ?_
  by_cases c1 : kdO (byA T n s) = 1
  · refine ev_neg (by show ¬ t01 (kdO (byA T n s) = 1) = 0; rw [t01_pos c1]; decide) ?_
    by_cases cg : g = true
    · refine ev_pos (by show ν1 96 2 = ν1 96 4; rw [at1]; exact (h7.2.2 cg).symm) (no (notk (fun q => ?_)))
      have := (kdO_by (g := g) hT h6).2 q
      rw [cg] at this
      exact absurd this.2 (by decide)
    · have hg : g = false := by cases g <;> simp_all
      refine ev_neg (by show ¬ (ν1 96 2 = ν1 96 4); rw [at1]; exact fun q => cg (h7.2.1 q.symm)) ?_
      have hk1 : tkK T n s g = 1 := (kdO_by hT h6).1 ⟨c1, hg⟩
      obtain ⟨hsn, hks, -⟩ := tkK1 hT h6 hk1
      obtain ⟨u1, u2, u3, u4⟩ := bhd_run h6.1 hsn (Or.inl hks)
      have htw : tkW T n s g = owN T n s := by unfold tkW; rw [if_pos hk1]
      have hiff : tkW T n s g = (j : Int) ↔ wdB T s (bhd T n s - s) j = true := by rw [htw]; exact owN_iff hj
      have hs0 := h6.1
      have cmp : bhd T n s - s = ((wLen.getD j 0 : Nat) : Int) → ∀ (k : Nat) (i : Nat), i + k = wLen.getD j 0 → (∀ q : Nat, q < i → T (s + (q : Int)) = xWords.getD (6 * j + q) 0) → Ev (fun m => mRun (mCallN d) kX10_isHere m 76 [some (mP 96), some (mP (98 + j)), some (mI (bhd T n s)), some (mI i)] [] (SH, ν1, RHO b)) b (fun v ν' => v = t01 (tkW T n s g = (j : Int)) ∧ Fg [] [2] ν ν' ∧ RSv T n ν' s g ∧ ν' 96 2 = s) := fun hlen => by
        intro k
        induction k with
        | zero =>
          intro i hi hq
          refine ev_row (fun m => tX10_isHere_76 _ m b ν1 _ _ (98 + j)) (ev_bif (by rw [shape2_of hsh]; rfl) ?_)
          rw [shape2_of hsh]
          refine ev_neg (by show ¬ ((i : Int) < ((wLen.getD j 0 : Nat) : Int)); omega) (ev_ret ⟨(t01_pos ?_).symm, f1, hl0, at1⟩)
          rw [hiff, wdB_iff]
          exact ⟨hlen, fun q hq' => hq q (by omega)⟩
        | succ k ih =>
          intro i hi hq
          have E1 : ∀ _ : True, w32 (s + (i : Int)) = s + (i : Int) := fun _ => w32_id (by omega) (by omega)
          have E2 : ∀ _ : True, w32 ((i : Int) + 1) = ((i + 1 : Nat) : Int) := fun _ => by rw [w32_id (by omega) (by omega)]; rfl
          refine ev_row (fun m => tX10_isHere_76 _ m b ν1 _ _ (98 + j)) (ev_bif (by rw [shape2_of hsh]; rfl) ?_)
          rw [shape2_of hsh, at1, E1 trivial, E2 trivial, h4 (s + (i : Int)) (by omega) (by omega), h5 j hj i (by omega)]
          refine ev_pos (by show (i : Int) < ((wLen.getD j 0 : Nat) : Int); omega) (ev_if (by omega) (ev_bif (arr2_of hsh) (ev_if ⟨by omega, by show (i : Int) < ((wLen.getD j 0 : Nat) : Int); omega⟩ (ev_br (fun e => ?_) (fun e => ev_ret ⟨(t01_neg ?_).symm, f1, hl0, at1⟩)))))
          · refine ih (i + 1) (by omega) (fun q hq' => ?_)
            by_cases q2 : q = i
            · rw [q2]; exact e
            · exact hq q (by omega)
          · rw [hiff, wdB_iff]
            exact fun q => e (q.2 i (by omega))
      have run : ∀ (k : Nat) (i : Int), i + k = bhd T n s → s ≤ i → Ev (fun m => mRun (mCallN d) kX10_isHere m 35 [some (mP 96), some (mP (98 + j)), some (mI i), none] [] (SH, ν1, RHO b)) b (fun v ν' => v = t01 (tkW T n s g = (j : Int)) ∧ Fg [] [2] ν ν' ∧ RSv T n ν' s g ∧ ν' 96 2 = s) := by
        intro k
        induction k with
        | zero =>
          intro i hi hsi
          have hib : i = bhd T n s := by omega
          have fin : Ev (fun m => mRun (mCallN d) kX10_isHere m 61 [some (mP 96), some (mP (98 + j)), some (mI i), none] [] (SH, ν1, RHO b)) b (fun v ν' => v = t01 (tkW T n s g = (j : Int)) ∧ Fg [] [2] ν ν' ∧ RSv T n ν' s g ∧ ν' 96 2 = s) := by
            refine ev_row (fun m => tX10_isHere_61 _ m b ν1 _ (98 + j)) (ev_bif (by rw [shape2_of hsh]; rfl) ?_)
            rw [shape2_of hsh, at1, hib, w32_id (by omega) (by omega)]
            refine ev_br (fun e => cmp e (wLen.getD j 0) 0 (by omega) (fun q hq => absurd hq (by omega))) (fun e => ev_ret ⟨(t01_neg ?_).symm, f1, hl0, at1⟩)
            rw [hiff, wdB_iff]
            exact fun q => e q.1
          refine ev_row (fun m => tX10_isHere_35 _ m b ν1 _ (98 + j)) ?_
          rw [h3]
          refine ev_br (fun c => ?_) (fun _ => fin)
          rw [h4 i (by omega) (by omega)]
          refine ev_if (by omega) (ev_call (sX10_isLetter _ b ν1 d (by omega)) (ev_pos ?_ fin))
          show t01 (kdO (T i) = 1) = 0
          exact t01_neg (fun q => u2 (by omega) (by rw [← hib, q, hks]))
        | succ k ih =>
          intro i hi hsi
          refine ev_row (fun m => tX10_isHere_35 _ m b ν1 _ (98 + j)) ?_
          rw [h3, h4 i (by omega) (by omega)]
          refine ev_pos (by omega) (ev_if (by omega) (ev_call (sX10_isLetter _ b ν1 d (by omega)) (ev_neg ?_ ?_)))
          · show ¬ t01 (kdO (T i) = 1) = 0
            rw [t01_pos (by rw [u1 i hsi (by omega)]; exact hks)]; decide
          · dsimp only
            rw [w32_id (by omega) (by omega)]
            exact ih (i + 1) (by omega) (by omega)
      dsimp only
      rw [at1]
      exact run (bhd T n s - s).toNat s (by omega) (Int.le_refl _)
  · exact ev_pos (show t01 (kdO (byA T n s) = 1) = 0 from t01_neg c1) (no (notk (fun q => c1 ((kdO_by (g := g) hT h6).2 q).1)))
/-- behind a token -/
theorem RSv_next {T : Int → Int} {n s : Int} {g : Bool} (hT : Tp T n) {ν ν' : Nat → Int → Int} (h : RSv T n ν s g) (hf : Fg [] [2, 4, 31] ν ν') (h2 : ν' 96 2 = bhd T n s) (h4 : ((tkK T n s g = 1 ∨ tkK T n s g = 2) ∧ ν' 96 4 = bhd T n s) ∨ (tkK T n s g = 3 ∧ ν' 96 4 = ν 96 4)) : RSv T n ν' (nxS T n s) (nxG T n s g) := by
  obtain ⟨a1, a2, a3, a4, a5, ⟨p0, p1, p2⟩, a6, a7⟩ := h
  have hx := nx_in hT a6
  obtain ⟨q1, q2, q3, q4, q5⟩ := bhd_in hT a6.1 a6.2.1
  have hs0 := a6.1
  refine ⟨by rw [hf.2 5 (by decide)]; exact a1, by rw [hf.2 6 (by decide)]; exact a2, by rw [hf.2 3 (by decide)]; exact a3, fun i i0 i1 => by rw [hf.1 97 (by simp) (by decide)]; exact a4 i i0 i1, Rwrd_fg hf (fun a ha => absurd ha (by simp)) a5, ⟨by omega, by omega, fun j j0 j1 => hx.2.2.2.2 j (by omega) j1⟩, hx.1, ?_, ?_⟩
  · rcases h4 with ⟨-, h4⟩ | ⟨-, h4⟩
    · omega
    · rw [h4]; omega
  · unfold nxG
    rcases h4 with ⟨k, h4⟩ | ⟨k, h4⟩
    · rw [h4, decide_eq_true k, Bool.true_and, decide_eq_true_eq]
      exact ⟨fun q => q.symm, fun q => q.symm⟩
    · have hsn : s < n := (tkK3 hT a6 k).1
      have := q3 hsn
      rw [h4, decide_eq_false (by omega), Bool.false_and]
      constructor
      · intro q; omega
      · intro q; exact absurd q (by decide)
theorem sX10_takes {T : Int → Int} {n s : Int} {g : Bool} (hT : Tp T n) {j : Nat} (hj : j < 22) (b : Bool) (ν : Nat → Int → Int) (h : RSv T n ν s g) : ∀ d, 3 ≤ d → Cal d 122 [mP 96, mP (98 + j)] b ν (fun v ν' => Fg [] [2, 4, 31] ν ν' ∧ ((tkW T n s g = (j : Int) ∧ v = 1 ∧ RSv T n ν' (nxS T n s) (nxG T n s g)) ∨ (tkW T n s g ≠ (j : Int) ∧ v = 0 ∧ RSv T n ν' s g ∧ ν' 96 2 = s))) := deepC fun d hd => by
  have hsh := shp_wd hj
  have hn1 := hT.2.1
  obtain ⟨⟨t1, t2⟩, t3⟩ := wd_tab hj
  refine cal_ev (fun r => call_X10_takes d b ν (98 + j)) (ev_row (fun m => tX10_takes_0 _ m b ν (98 + j)) (ev_callP (sX10_isHere hT hj b ν h d hd) (fun v ν1 ⟨e1, f1, l1, at1⟩ => ?_)))
  have f1' : Fg [] [2, 4, 31] ν ν1 := fg_tr fg_rfl f1 (by decide) (by decide)
  by_cases c : tkW T n s g = (j : Int)
  · rw [t01_pos c] at e1
    have hk := tkW_pos hT l1.2.2.2.2.2.2.1 (by omega : 0 ≤ tkW T n s g)
    have hb : bhd T n s - s = ((wLen.getD j 0 : Nat) : Int) := by
      have : owN T n s = (j : Int) := by rw [← hk.2.2.2]; exact c
      exact (wdB_iff.1 ((owN_iff hj).1 this)).1
    have hs0 := l1.2.2.2.2.2.2.1.1
    refine ev_neg (by show ¬ v = 0; omega) (ev_bif (by rw [shape2_of hsh]; rfl) (ev_ret ?_))
    dsimp only
    rw [shape2_of hsh, at1]
    show Fg [] [2, 4, 31] ν (m2 (m2 ν1 96 2 (w32 (s + ((wLen.getD j 0 : Nat) : Int)))) 96 4 ((m2 ν1 96 2 (w32 (s + ((wLen.getD j 0 : Nat) : Int)))) 96 2)) ∧ _
    rw [w32_id (by omega) (by omega), show s + ((wLen.getD j 0 : Nat) : Int) = bhd T n s by omega, m2_at, if_pos rfl]
    refine ⟨fg_m96 (fg_m96 f1' (by decide)) (by decide), Or.inl ⟨c, rfl, RSv_next hT l1 (fg_m96 (fg_m96 fg_rfl (by decide)) (by decide)) ?_ (Or.inl ⟨Or.inl hk.1, ?_⟩)⟩⟩
    · rw [m2_at, if_neg (by decide), m2_at, if_pos rfl]
    · rw [m2_at, if_pos rfl]
  · rw [t01_neg c] at e1
    exact ev_pos (show v = 0 from e1) (ev_ret ⟨f1', Or.inr ⟨c, rfl, l1, at1⟩⟩)
theorem sX10_asks {T : Int → Int} {n s : Int} {g : Bool} (hT : Tp T n) {j : Nat} (hj : j < 22) (b : Bool) (ν : Nat → Int → Int) (h : RSv T n ν s g) : ∀ d, 4 ≤ d → Cal d 14 [mP 96, mP (98 + j)] b ν (fun _ ν' => Fg [] lxJ ν ν' ∧ ((tkW T n s g = (j : Int) ∧ RSv T n ν' (nxS T n s) (nxG T n s g)) ∨ (tkW T n s g ≠ (j : Int) ∧ RBd ν' (1, s)))) := deepC fun d hd => by
  refine cal_ev (fun r => call_X10_asks d b ν (98 + j)) (ev_row (fun m => tX10_asks_0 _ m b ν (98 + j)) (ev_pos h.1 (ev_callP (sX10_takes hT hj b ν h d hd) (fun v ν1 ⟨f1, hc⟩ => ?_))))
  rcases hc with ⟨c1, c2, c3⟩ | ⟨c1, c2, c3, c4⟩
  · exact ev_neg (by show ¬ v = 0; omega) (ev_row (fun m => tX10_asks_24 _ m b ν1 (98 + j)) (ev_ret ⟨fg_tr fg_rfl f1 (by decide) (by decide), Or.inl ⟨c1, c3⟩⟩))
  · refine ev_pos (show v = 0 from c2) ?_
    dsimp only
    rw [c4]
    exact ev_callP (sX10_fail 1 s (by decide) b ν1 c3 d (by omega)) (fun _ ν2 ⟨f2, l2⟩ => ev_row (fun m => tX10_asks_24 _ m b ν2 (98 + j)) (ev_ret ⟨fg_tr (fg_tr fg_rfl f1 (by decide) (by decide)) f2 (by decide) (by decide), Or.inr ⟨c1, l2⟩⟩))
theorem tkS_by {T : Int → Int} {n s : Int} {g : Bool} (hT : Tp T n) (hv : VC T n s) {c : Int} (hc : kdO c = 3) : byA T n s = c ↔ tkS T n s g = c := by
  have hc1 : c ≠ -1 := by rcases kdO_or c with ⟨q, -⟩ | ⟨q, -⟩ | ⟨q, -⟩ | ⟨q, q2, -⟩ <;> omega
  unfold tkS
  rcases tkK_or (g := g) hT hv with ⟨k, e⟩ | ⟨hs, ⟨k, -, e⟩ | ⟨k, -, e⟩ | ⟨k, e⟩ | ⟨k, -, e⟩⟩
  · rw [if_neg (by omega), byA_out (by omega)]
  · rw [if_neg (by omega), byA_in hv.1 hs]
    exact ⟨fun q => by rw [q] at e; omega, fun q => absurd q.symm hc1⟩
  · rw [if_neg (by omega), byA_in hv.1 hs]
    exact ⟨fun q => by rw [q] at e; omega, fun q => absurd q.symm hc1⟩
  · rw [if_pos k, byA_in hv.1 hs]
  · rw [if_neg (by omega), byA_in hv.1 hs]
    exact ⟨fun q => by rw [q] at e; omega, fun q => absurd q.symm hc1⟩
theorem tkS_k {T : Int → Int} {n s : Int} {g : Bool} {c : Int} (h : tkS T n s g = c) (hc : c ≠ -1) : tkK T n s g = 3 := by
  unfold tkS at h
  by_cases q : tkK T n s g = 3
  · exact q
  · rw [if_neg q] at h; exact absurd h.symm hc
theorem sX10_takesSign {T : Int → Int} {n s : Int} {g : Bool} (hT : Tp T n) (c : Int) (hc : kdO c = 3) (b : Bool) (ν : Nat → Int → Int) (h : RSv T n ν s g) : ∀ d, 2 ≤ d → Cal d 124 [mP 96, mI c] b ν (fun v ν' => Fg [] [2, 4, 31] ν ν' ∧ ((tkS T n s g = c ∧ v = 1 ∧ RSv T n ν' (nxS T n s) (nxG T n s g) ∧ ν' 96 2 = s + 1) ∨ (tkS T n s g ≠ c ∧ v = 0 ∧ RSv T n ν' s g ∧ ν' 96 2 = s))) := deepC fun d hd => by
  have hc1 : c ≠ -1 := by rcases kdO_or c with ⟨q, -⟩ | ⟨q, -⟩ | ⟨q, -⟩ | ⟨q, q2, -⟩ <;> omega
  have hn1 := hT.2.1
  refine cal_ev (fun r => call_X10_takesSign d b ν c) (ev_row (fun m => tX10_takesSign_0 _ m b ν c) (ev_pos h.1 (ev_callP (sX10_look hT b ν h d hd) (fun v ν1 ⟨e1, f1, l1, at1⟩ => ?_))))
  have hv := l1.2.2.2.2.2.2.1
  have f1' : Fg [] [2, 4, 31] ν ν1 := fg_tr fg_rfl f1 (by decide) (by decide)
  refine ev_br (fun e => ?_) (fun e => ?_)
  · have e' : v = c := e
    rw [e1] at e'
    have ht := (tkS_by (g := g) hT hv hc).1 e'
    have hk := tkS_k ht hc1
    obtain ⟨hsn, hks⟩ := tkK3 hT hv hk
    have hb := bhd_sign hv.1 hsn hks
    have hs0 := hv.1
    refine ev_ret ?_
    dsimp only
    rw [at1, w32_id (by omega) (by omega)]
    exact ⟨fg_m96 f1' (by decide), Or.inl ⟨ht, rfl, RSv_next hT l1 (fg_m96 fg_rfl (by decide)) (by rw [m2_at, if_pos rfl, hb]) (Or.inr ⟨hk, by rw [m2_at, if_neg (by decide)]⟩), by rw [m2_at, if_pos rfl]⟩⟩
  · have e' : ¬ v = c := e
    rw [e1] at e'
    exact ev_row (fun m => tX10_takesSign_15 _ m b ν1 c) (ev_ret ⟨f1', Or.inr ⟨fun q => e' ((tkS_by hT hv hc).2 q), rfl, l1, at1⟩⟩)
theorem sX10_asksSign {T : Int → Int} {n s : Int} {g : Bool} (hT : Tp T n) (c : Int) (hc : kdO c = 3) (b : Bool) (ν : Nat → Int → Int) (h : RSv T n ν s g) : ∀ d, 3 ≤ d → Cal d 15 [mP 96, mI c] b ν (fun _ ν' => Fg [] lxJ ν ν' ∧ ((tkS T n s g = c ∧ RSv T n ν' (nxS T n s) (nxG T n s g)) ∨ (tkS T n s g ≠ c ∧ RBd ν' (1, s)))) := deepC fun d hd => by
  refine cal_ev (fun r => call_X10_asksSign d b ν c) (ev_row (fun m => tX10_asksSign_0 _ m b ν c) (ev_pos h.1 (ev_callP (sX10_takesSign hT c hc b ν h d hd) (fun v ν1 ⟨f1, hcc⟩ => ?_))))
  rcases hcc with ⟨c1, c2, c3, c4⟩ | ⟨c1, c2, c3, c4⟩
  · exact ev_neg (by show ¬ v = 0; omega) (ev_row (fun m => tX10_asksSign_24 _ m b ν1 c) (ev_ret ⟨fg_tr fg_rfl f1 (by decide) (by decide), Or.inl ⟨c1, c3⟩⟩))
  · refine ev_pos (show v = 0 from c2) ?_
    dsimp only
    rw [c4]
    exact ev_callP (sX10_fail 1 s (by decide) b ν1 c3 d (by omega)) (fun _ ν2 ⟨f2, l2⟩ => ev_row (fun m => tX10_asksSign_24 _ m b ν2 c) (ev_ret ⟨fg_tr (fg_tr fg_rfl f1 (by decide) (by decide)) f2 (by decide) (by decide), Or.inr ⟨c1, l2⟩⟩))
/-! with a fault found nothing is done -/
theorem bd_isHere {e : Int × Int} (a : Nat) (b : Bool) (ν : Nat → Int → Int) (h : RBd ν e) : ∀ d, 1 ≤ d → mCallN d 65 [mP 96, mP a] (SH, ν, RHO b) = some (0, SH, ν, RHO b) := deep fun d _ => cal_eq (cal_ev (fun r => call_X10_isHere d b ν a) (ev_row (fun m => tX10_isHere_0 _ m b ν a) (ev_neg (by rw [h.1]; exact h.2.1) (ev_row (fun m => tX10_isHere_28 _ m b ν a) (ev_ret ⟨rfl, rfl⟩)))))
theorem bd_takes {e : Int × Int} (a : Nat) (b : Bool) (ν : Nat → Int → Int) (h : RBd ν e) : ∀ d, 2 ≤ d → mCallN d 122 [mP 96, mP a] (SH, ν, RHO b) = some (0, SH, ν, RHO b) := deep fun d hd => cal_eq (cal_ev (fun r => call_X10_takes d b ν a) (ev_row (fun m => tX10_takes_0 _ m b ν a) (ev_call (bd_isHere a b ν h d hd) (ev_pos rfl (ev_ret ⟨rfl, rfl⟩)))))
theorem bd_asks {e : Int × Int} (a : Nat) (b : Bool) (ν : Nat → Int → Int) (h : RBd ν e) : ∀ d, 1 ≤ d → mCallN d 14 [mP 96, mP a] (SH, ν, RHO b) = some (0, SH, ν, RHO b) := deep fun d _ => cal_eq (cal_ev (fun r => call_X10_asks d b ν a) (ev_row (fun m => tX10_asks_0 _ m b ν a) (ev_neg (by rw [h.1]; exact h.2.1) (ev_row (fun m => tX10_asks_24 _ m b ν a) (ev_ret ⟨rfl, rfl⟩)))))
theorem bd_takesSign {e : Int × Int} (c : Int) (b : Bool) (ν : Nat → Int → Int) (h : RBd ν e) : ∀ d, 1 ≤ d → mCallN d 124 [mP 96, mI c] (SH, ν, RHO b) = some (0, SH, ν, RHO b) := deep fun d _ => cal_eq (cal_ev (fun r => call_X10_takesSign d b ν c) (ev_row (fun m => tX10_takesSign_0 _ m b ν c) (ev_neg (by rw [h.1]; exact h.2.1) (ev_row (fun m => tX10_takesSign_15 _ m b ν c) (ev_ret ⟨rfl, rfl⟩)))))
theorem bd_asksSign {e : Int × Int} (c : Int) (b : Bool) (ν : Nat → Int → Int) (h : RBd ν e) : ∀ d, 1 ≤ d → mCallN d 15 [mP 96, mI c] (SH, ν, RHO b) = some (0, SH, ν, RHO b) := deep fun d _ => cal_eq (cal_ev (fun r => call_X10_asksSign d b ν c) (ev_row (fun m => tX10_asksSign_0 _ m b ν c) (ev_neg (by rw [h.1]; exact h.2.1) (ev_row (fun m => tX10_asksSign_24 _ m b ν c) (ev_ret ⟨rfl, rfl⟩)))))
theorem bd_number {e : Int × Int} (lo hi : Int) (b : Bool) (ν : Nat → Int → Int) (h : RBd ν e) : ∀ d, 1 ≤ d → mCallN d 93 [mP 96, mI lo, mI hi] (SH, ν, RHO b) = some (0, SH, ν, RHO b) := deep fun d _ => cal_eq (cal_ev (fun r => call_X10_number d b ν lo hi) (ev_row (fun m => tX10_number_0 _ m b ν lo hi) (ev_neg (by rw [h.1]; exact h.2.1) (ev_ret ⟨rfl, rfl⟩))))
theorem bd_name {e : Int × Int} (b : Bool) (ν : Nat → Int → Int) (h : RBd ν e) : ∀ d, 1 ≤ d → mCallN d 87 [mP 96] (SH, ν, RHO b) = some (0, SH, ν, RHO b) := deep fun d _ => cal_eq (cal_ev (fun r => call_X10_name d b ν) (ev_row (fun m => tX10_name_0 _ m b ν) (ev_neg (by rw [h.1]; exact h.2.1) (ev_ret ⟨rfl, rfl⟩))))
theorem bd_fail {e : Int × Int} (k p : Int) (b : Bool) (ν : Nat → Int → Int) (h : RBd ν e) : ∀ d, 1 ≤ d → mCallN d 36 [mP 96, mI k, mI p] (SH, ν, RHO b) = some (0, SH, ν, RHO b) := deep fun d _ => cal_eq (cal_ev (fun r => call_X10_fail d b ν k p) (ev_row (fun m => tX10_fail_0 _ m b ν k p) (ev_neg (by rw [h.1]; exact h.2.1) (ev_ret ⟨rfl, rfl⟩))))
