theorem sX3_isBetterThan_44 (b : Bool) (μ : Nat → Int → Int) : ∀ d, 1 ≤ d → Cal d 156 [mP 48, mP 44] b μ (fun v μ' => μ' = μ ∧ ((v = 1 ∧ (μ 44 1 < μ 48 1 ∨ (μ 48 1 = μ 44 1 ∧ μ 48 2 < μ 44 2))) ∨ (v = 0 ∧ ¬ (μ 44 1 < μ 48 1 ∨ (μ 48 1 = μ 44 1 ∧ μ 48 2 < μ 44 2))))) := deepC fun d _ => by
  have yes : (μ 44 1 < μ 48 1 ∨ (μ 48 1 = μ 44 1 ∧ μ 48 2 < μ 44 2)) → Ev (fun n => mRun (mCallN d) kX3_isBetterThan n 33 [some (mP 48), some (mP 44)] [] (SH, μ, RHO b)) b (fun v μ' => μ' = μ ∧ ((v = 1 ∧ (μ 44 1 < μ 48 1 ∨ (μ 48 1 = μ 44 1 ∧ μ 48 2 < μ 44 2))) ∨ (v = 0 ∧ ¬ (μ 44 1 < μ 48 1 ∨ (μ 48 1 = μ 44 1 ∧ μ 48 2 < μ 44 2))))) := fun h => ev_row (fun n => tX3_isBetterThan_44_33 _ n b μ) (ev_row (fun n => tX3_isBetterThan_44_38 _ n b μ 1) (ev_if (Or.inr rfl) (ev_ret ⟨rfl, Or.inl ⟨rfl, h⟩⟩)))
  have no : ¬ (μ 44 1 < μ 48 1 ∨ (μ 48 1 = μ 44 1 ∧ μ 48 2 < μ 44 2)) → Ev (fun n => mRun (mCallN d) kX3_isBetterThan n 37 [some (mP 48), some (mP 44)] [] (SH, μ, RHO b)) b (fun v μ' => μ' = μ ∧ ((v = 1 ∧ (μ 44 1 < μ 48 1 ∨ (μ 48 1 = μ 44 1 ∧ μ 48 2 < μ 44 2))) ∨ (v = 0 ∧ ¬ (μ 44 1 < μ 48 1 ∨ (μ 48 1 = μ 44 1 ∧ μ 48 2 < μ 44 2))))) := fun h => ev_row (fun n => tX3_isBetterThan_44_37 _ n b μ) (ev_row (fun n => tX3_isBetterThan_44_38 _ n b μ 0) (ev_if (Or.inl rfl) (ev_ret ⟨rfl, Or.inr ⟨rfl, h⟩⟩)))
  refine cal_ev (fun r => call_X3_isBetterThan_44 d b μ) (ev_row (fun n => tX3_isBetterThan_44_0 _ n b μ) (ev_br (fun e => yes (Or.inl e)) (fun e => ev_br (fun e1 => ev_br (fun e2 => yes (Or.inr ⟨e1, e2⟩)) (fun e2 => no (fun h => ?_))) (fun e1 => no (fun h => ?_)))))
  · rcases h with h | h
    · exact e h
    · exact e2 h.2
  · rcases h with h | h
    · exact e h
    · exact e1 h.1
theorem sX3_copyFrom (b : Bool) (μ : Nat → Int → Int) : ∀ d, 1 ≤ d → Cal d 154 [mP 44, mP 48] b μ (fun _ μ' => Fr [44, 45] μ μ' ∧ μ' 44 1 = μ 48 1 ∧ μ' 44 2 = μ 48 2 ∧ (∀ j, j ≠ 1 → j ≠ 2 → μ' 44 j = μ 44 j) ∧ ∀ x, 0 ≤ x → x < 12 → μ' 45 x = μ 49 x) := deepC fun d _ => by
  refine cal_ev (fun r => call_X3_copyFrom d b μ) (ev_row (fun n => tX3_copyFrom_0 _ n b μ) (ev_if (by decide) (ev_ret ⟨fr_m2 (fr_m2 (fun a ha => mCp_ne (fun e => ha (by rw [e]; decide))) (by decide)) (by decide), ?_, ?_, fun j j1 j2 => ?_, fun x x0 x1 => ?_⟩)))
  · rw [m2_at, if_neg (by decide), m2_at, if_pos rfl, mCp_ne (by decide)]
  · rw [m2_at, if_pos rfl, m2_ne (by decide), mCp_ne (by decide)]
  · rw [m2_at, if_neg j2, m2_at, if_neg j1, mCp_ne (by decide)]
  · rw [m2_ne (by decide), m2_ne (by decide), mCp_at, if_pos (by omega), show 0 + (x - 0) = x by omega]
/-! ===== all orders, in the class ===== -/
theorem fr7_tw {b : Bool} {μ μ' : Nat → Int → Int} (h : Fr [27, 28, 44, 45, 48, 49] μ μ') : ∀ a, a ∈ twL b → μ' a = μ a := fun a ha => h a (by have := twL_or ha; have := tw_or b; simp; omega)
theorem fr7_R {b : Bool} {μ μ' : Nat → Int → Int} (hR : R b μ) (h44 : μ' 44 4 = 0) (h : Fr [27, 28, 44, 45, 48, 49] μ μ') : R b μ' := R_ord hR (fr_sub h (fun a ha => by
  simp only [List.mem_cons, List.not_mem_nil, or_false] at ha
  rcases ha with e | e | e | e | e | e <;> rw [e] <;> decide)) (Or.inr h44) (Or.inl ⟨h 46 (by decide), h 47 (by decide)⟩)
/-- the orders of a town -/
def ordM (b : Bool) (μ : Nat → Int → Int) (k : Nat) : Int → Int := ofL (pmD (μ (tw b + 1) 2).toNat (menL (μ (tw b + 10)) (μ (tw b + 1) 2).toNat) k)
def bstM (b : Bool) (μ : Nat → Int → Int) (k : Nat) : (Int × Int) × Nat := stP (rtM b μ) (menL (μ (tw b + 10)) (μ (tw b + 1) 2).toNat) (μ (tw b + 1) 2).toNat k
theorem bstM_0 (b : Bool) (μ : Nat → Int → Int) : bstM b μ 0 = (rtM b μ (ordM b μ 0), 0) := rfl
theorem bstM_succ (b : Bool) (μ : Nat → Int → Int) (k : Nat) : bstM b μ (k + 1) = if (bstM b μ k).1.1 < (rtM b μ (ordM b μ (k + 1))).1 ∨ ((rtM b μ (ordM b μ (k + 1))).1 = (bstM b μ k).1.1 ∧ (rtM b μ (ordM b μ (k + 1))).2 < (bstM b μ k).1.2) then (rtM b μ (ordM b μ (k + 1)), k + 1) else bstM b μ k := rfl
theorem bstM_end (b : Bool) (μ : Nat → Int → Int) : stdR b μ = bstM b μ (fct (μ (tw b + 1) 2).toNat - 1) := rfl
theorem men_len {b : Bool} {μ : Nat → Int → Int} (hR : R b μ) : (menL (μ (tw b + 10)) (μ (tw b + 1) 2).toNat).length = (μ (tw b + 1) 2).toNat := by
  obtain ⟨⟨z1, z2, z3⟩, ⟨w1, w2, w3⟩, ⟨y1, y2, y3⟩, ⟨x1, x2, x3⟩⟩ := hR.1.1
  refine menL_len (fun g g0 g1 => ?_) (fun g h g0 g1 h0 h1 e => hR.1.2.2.1 g h g0 (by omega) h0 (by omega) e)
  have := (hR.1.2.1 g g0 (by omega)).2.2.2.2
  omega
theorem ordM_in {b : Bool} {μ : Nat → Int → Int} (hR : R b μ) {k : Nat} (hk : k < fct (μ (tw b + 1) 2).toNat) : ∀ g, 0 ≤ g → g < μ (tw b + 1) 2 → 0 ≤ ordM b μ k g ∧ ordM b μ k g < μ (tw b + 1) 1 := fun g g0 g1 => by
  obtain ⟨⟨z1, z2, z3⟩, ⟨w1, w2, w3⟩, ⟨y1, y2, y3⟩, ⟨x1, x2, x3⟩⟩ := hR.1.1
  have h1 := pmD_mem _ _ k (men_len hR) hk (ordM b μ k g) (getD_mem _ _ (by rw [pmD_len]; omega))
  obtain ⟨-, q, q0, q1, q2⟩ := menL_mem h1
  have := (hR.1.2.1 q q0 (by omega)).2.2.2.2
  omega
/-- the orders so far -/
def OrS (b : Bool) (μ μ' : Nat → Int → Int) (k : Nat) : Prop := Fr [27, 28, 44, 45, 48, 49] μ μ' ∧ μ' 44 4 = 0 ∧ μ' 44 1 = (bstM b μ k).1.1 ∧ μ' 44 2 = (bstM b μ k).1.2 ∧ (∀ g, 0 ≤ g → g < μ (tw b + 1) 2 → μ' 45 g = ordM b μ (bstM b μ k).2 g) ∧ (∀ g, 0 ≤ g → g < μ (tw b + 1) 2 → μ' 49 g = ordM b μ k g)
def StD (b : Bool) (μ μ' : Nat → Int → Int) : Prop := Fr [27, 28, 44, 45, 48, 49] μ μ' ∧ μ' 44 4 = 1 ∧ μ' 44 1 = (stdR b μ).1.1 ∧ μ' 44 2 = (stdR b μ).1.2 ∧ ∀ g, 0 ≤ g → g < μ (tw b + 1) 2 → μ' 45 g = ordM b μ (stdR b μ).2 g
theorem rate_ord {d : Nat} (hd : 3 ≤ d) {b : Bool} {μ : Nat → Int → Int} (hR : R b μ) (hpr : ∀ m p, 0 ≤ m → m < μ (tw b + 1) 1 → 0 ≤ p → p < μ (tw b + 1) 3 → μ (32 + m.toNat) p = prA b μ m p) {k : Nat} (hk : k < fct (μ (tw b + 1) 2).toNat) {μ' : Nat → Int → Int} (hf : Fr [27, 28, 44, 45, 48, 49] μ μ') (h4 : μ' 44 4 = 0) (h49 : ∀ g, 0 ≤ g → g < μ (tw b + 1) 2 → μ' 49 g = ordM b μ k g) : Cal d 157 [mP 48, mP (tw b), mP 74, mP 31, mP 26] b μ' (fun _ μ2 => Fr [27, 28, 48] μ' μ2 ∧ μ2 48 1 = (rtM b μ (ordM b μ k)).1 ∧ μ2 48 2 = (rtM b μ (ordM b μ k)).2) := by
  have kt := fr7_tw (b := b) hf
  have k1 := kt (tw b + 1) (by simp [twL])
  have k74 : μ' 74 = μ 74 := hf 74 (by decide)
  have hRt := sX3_rate_48 b μ' (fr7_R hR h4 hf) (fun m p m0 m1 p0 p1 => by
    rw [k1] at m1 p1
    obtain ⟨⟨z1, z2, z3⟩, ⟨w1, w2, w3⟩, ⟨y1, y2, y3⟩, ⟨x1, x2, x3⟩⟩ := hR.1.1
    rw [prA_same kt k74, hf (32 + m.toNat) (by simp; omega)]; exact hpr m p m0 m1 p0 p1) (fun g g0 g1 => by
    rw [k1] at g1 ⊢
    rw [h49 g g0 g1]; exact ordM_in hR hk g g0 g1) d hd
  rw [rtM_same kt k74, rtM_congr (men := ordM b μ k) h49] at hRt
  exact cal_mono hRt (fun v μ2 ⟨q1, q2, q3, q4⟩ => ⟨q1, q3, q4⟩)
theorem eX5_tryOrders {d : Nat} (hd : 4 ≤ d) {b : Bool} {μ : Nat → Int → Int} (hR : R b μ) (h6 : μ (tw b + 1) 2 ≤ 6) (hpr : ∀ m p, 0 ≤ m → m < μ (tw b + 1) 1 → 0 ≤ p → p < μ (tw b + 1) 3 → μ (32 + m.toNat) p = prA b μ m p) : ∀ (r k : Nat) (μ' : Nat → Int → Int), k + 1 + r = fct (μ (tw b + 1) 2).toNat → OrS b μ μ' k → Ev (fun n => mRun (mCallN d) kX5_tryOrders n 41 [some (mP 30), some (mP (tw b)), some (mP 74), some (mP 26), some (mI (μ (tw b + 1) 2)), some (mI ((k + 1 : Nat) : Int))] [] (SH, μ', RHO b)) b (fun _ μ2 => StD b μ μ2) := by
  have hCn := hR.1.1
  obtain ⟨⟨z1, z2, z3⟩, ⟨w1, w2, w3⟩, ⟨y1, y2, y3⟩, ⟨x1, x2, x3⟩⟩ := hCn
  have hfc := fct_le (n := (μ (tw b + 1) 2).toNat) (by omega)
  have hnx : ∀ (k : Nat) (μ' : Nat → Int → Int), k < fct (μ (tw b + 1) 2).toNat → OrS b μ μ' k → Cal d 188 [mP 49, mI (μ (tw b + 1) 2)] b μ' (fun v μ2 => (k + 1 = fct (μ (tw b + 1) 2).toNat ∧ v = 0 ∧ μ2 = μ') ∨ (k + 1 < fct (μ (tw b + 1) 2).toNat ∧ v = 1 ∧ Fr [49] μ' μ2 ∧ ∀ g, 0 ≤ g → g < μ (tw b + 1) 2 → μ2 49 g = ordM b μ (k + 1) g)) := fun k μ' hk hS => by
    have hN : (((μ (tw b + 1) 2).toNat : Nat) : Int) = μ (tw b + 1) 2 := by omega
    have hl := men_len hR
    have hx := sX5_nextOrder (L := fun x => (menL (μ (tw b + 10)) (μ (tw b + 1) 2).toNat).getD x.toNat 0) (pat := patI (μ (tw b + 1) 2).toNat k) (n := (μ (tw b + 1) 2).toNat) b μ' (by omega) (fun x y xx0 xx1 yy0 yy1 => pw_lt (menL_pw _ _) xx0 (by rw [hl]; exact xx1) yy0 (by rw [hl]; exact yy1)) (fun g g0 g1 => pat_in hk g0 g1) (fun g g0 g1 => by
      rw [hS.2.2.2.2.2 g g0 (by omega)]; exact ord_pat hl hk g0 g1) d (by omega)
    rw [hN] at hx
    refine cal_mono hx (fun v μ2 h => ?_)
    have hok := nx_ok (n := (μ (tw b + 1) 2).toNat) (k := k) (by omega) hk
    rcases h with ⟨a1, a2, a3⟩ | ⟨a1, a2, a3, a4⟩
    · rcases hok with ⟨-, c⟩ | ⟨c, -⟩
      · exact Or.inl ⟨c, a2, a3⟩
      · exact absurd a1 c
    · rcases hok with ⟨c, -⟩ | ⟨-, c1, c2⟩
      · exact absurd c a1
      · refine Or.inr ⟨c1, a2, a3, fun g g0 g1 => ?_⟩
        rw [a4 g g0 g1, c2 g g0 (by omega)]
        exact (ord_pat hl c1 g0 (by omega)).symm
  have fin : ∀ (k : Nat) (μ' : Nat → Int → Int), k + 1 = fct (μ (tw b + 1) 2).toNat → OrS b μ μ' k → Ev (fun n => mRun (mCallN d) kX5_tryOrders n 109 [some (mP 30), some (mP (tw b)), some (mP 74), some (mP 26), some (mI (μ (tw b + 1) 2)), some (mI ((k + 1 : Nat) : Int))] [] (SH, μ', RHO b)) b (fun _ μ2 => StD b μ μ2) := fun k μ' hk hS => by
    obtain ⟨hf, h4, s1, s2, s3, s4⟩ := hS
    refine ev_row (fun n => tX5_tryOrders_109 _ n b μ' _ _ 74 b) (ev_ret ⟨fr_m2 hf (by decide), ?_, ?_, ?_, fun g g0 g1 => ?_⟩)
    · rw [m2_at, if_pos rfl]
    · rw [m2_at, if_neg (by decide), bstM_end, show fct (μ (tw b + 1) 2).toNat - 1 = k by omega]; exact s1
    · rw [m2_at, if_neg (by decide), bstM_end, show fct (μ (tw b + 1) 2).toNat - 1 = k by omega]; exact s2
    · rw [m2_ne (by decide), bstM_end, show fct (μ (tw b + 1) 2).toNat - 1 = k by omega]; exact s3 g g0 g1
  intro r
  induction r with
  | zero =>
    intro k μ' hk hS
    refine ev_row (fun n => tX5_tryOrders_41 _ n b μ' _ _ 74 b) (ev_br (fun _ => ?_) (fun _ => fin k μ' (by omega) hS))
    refine ev_callP (hnx k μ' (by omega) hS) (fun v μ2 h => ?_)
    rcases h with ⟨a1, a2, a3⟩ | ⟨a1, -⟩
    · subst a3
      exact ev_pos (show v = 0 from a2) (fin k μ2 a1 hS)
    · omega
  | succ r ih =>
    intro k μ' hk hS
    have hS0 := hS
    obtain ⟨hf, h4, s1, s2, s3, s4⟩ := hS
    have hgo : ∀ μ5 : Nat → Int → Int, OrS b μ μ5 (k + 1) → Ev (fun n => mRun (mCallN d) kX5_tryOrders n 103 [some (mP 30), some (mP (tw b)), some (mP 74), some (mP 26), some (mI (μ (tw b + 1) 2)), some (mI ((k + 1 : Nat) : Int))] [] (SH, μ5, RHO b)) b (fun _ μ2 => StD b μ μ2) := fun μ5 h5 => by
      refine ev_row (fun n => tX5_tryOrders_103 _ n b μ5 _ _ 74 b) ?_
      rw [show w32 (((k + 1 : Nat) : Int) + 1) = ((k + 1 + 1 : Nat) : Int) from by rw [w32_id (by omega) (by omega)]; rfl]
      exact ih (k + 1) μ5 (by omega) h5
    refine ev_row (fun n => tX5_tryOrders_41 _ n b μ' _ _ 74 b) (ev_pos (by omega) (ev_callP (hnx k μ' (by omega) hS0) (fun v μ2 h => ?_)))
    rcases h with ⟨a1, a2, a3⟩ | ⟨a1, a2, a3, a4⟩
    · omega
    · have hf2 : Fr [27, 28, 44, 45, 48, 49] μ μ2 := fr_tr hf a3 (fun a ha => by
        have : a = 49 := by simpa using ha
        rw [this]; decide)
      have h42 : μ2 44 4 = 0 := by rw [a3 44 (by decide)]; exact h4
      refine ev_neg (by show ¬ v = 0; omega) (ev_callP (rate_ord (by omega) hR hpr a1 hf2 h42 a4) (fun _ μ3 ⟨f3', b1, b2⟩ => ?_))
      have f3 : Fr [27, 28, 48] μ2 μ3 := f3'
      have hf3 : Fr [27, 28, 44, 45, 48, 49] μ μ3 := fr_tr hf2 f3 (fun a ha => by
        simp only [List.mem_cons, List.not_mem_nil, or_false] at ha ⊢
        omega)
      have k44 : μ3 44 = μ' 44 := by rw [f3 44 (by decide), a3 44 (by decide)]
      have k45 : μ3 45 = μ' 45 := by rw [f3 45 (by decide), a3 45 (by decide)]
      have k49 : μ3 49 = μ2 49 := f3 49 (by decide)
      refine ev_callP (sX3_isBetterThan_44 b μ3 d (by omega)) (fun v4 μ4 ⟨e4, h5⟩ => ?_)
      subst e4
      rw [b1, b2, k44, s1, s2] at h5
      rcases h5 with ⟨c1, c2⟩ | ⟨c1, c2⟩
      · refine ev_neg (by show ¬ v4 = 0; omega) (ev_callP (sX3_copyFrom b μ4 d (by omega)) (fun _ μ5 ⟨f5, d1, d2, d3, d4⟩ => hgo μ5 ⟨?_, ?_, ?_, ?_, fun g g0 g1 => ?_, fun g g0 g1 => ?_⟩))
        · exact fr_tr hf3 f5 (fun a ha => by
            simp only [List.mem_cons, List.not_mem_nil, or_false] at ha ⊢
            omega)
        · rw [d3 4 (by decide) (by decide), k44]; exact h4
        · rw [d1, b1, bstM_succ, if_pos c2]
        · rw [d2, b2, bstM_succ, if_pos c2]
        · rw [d4 g g0 (by omega), k49, a4 g g0 g1, bstM_succ, if_pos c2]
        · rw [f5 49 (by decide), k49]; exact a4 g g0 g1
      · refine ev_pos (show v4 = 0 from c1) (hgo μ4 ⟨hf3, ?_, ?_, ?_, fun g g0 g1 => ?_, fun g g0 g1 => ?_⟩)
        · rw [k44]; exact h4
        · rw [k44, bstM_succ, if_neg c2]; exact s1
        · rw [k44, bstM_succ, if_neg c2]; exact s2
        · rw [k45, bstM_succ, if_neg c2]; exact s3 g g0 g1
        · rw [k49]; exact a4 g g0 g1
theorem pmD_0 : ∀ (n : Nat) (l : List Int), l.length = n → pmD n l 0 = l
  | 0, l, h => by rw [List.eq_nil_of_length_eq_zero h]; rfl
  | n + 1, [], h => absurd h (by simp)
  | n + 1, a :: t, h => by
    rw [pmD, Nat.zero_div, Nat.zero_mod]
    show a :: pmD n t 0 = a :: t
    rw [pmD_0 n t (by rw [List.length_cons] at h; omega)]
theorem sX5_tryOrders (b : Bool) (μ : Nat → Int → Int) (hR : R b μ) (h44 : μ 44 4 = 0) (h6 : μ (tw b + 1) 2 ≤ 6) (hpr : ∀ m p, 0 ≤ m → m < μ (tw b + 1) 1 → 0 ≤ p → p < μ (tw b + 1) 3 → μ (32 + m.toNat) p = prA b μ m p) : ∀ d, 5 ≤ d → Cal d 190 [mP 30, mP (tw b), mP 74, mP 26] b μ (fun _ μ' => StD b μ μ') := deepC fun d hd => by
  have hCn := hR.1.1
  obtain ⟨⟨z1, z2, z3⟩, ⟨w1, w2, w3⟩, ⟨y1, y2, y3⟩, ⟨x1, x2, x3⟩⟩ := hCn
  have hN : (((μ (tw b + 1) 2).toNat : Nat) : Int) = μ (tw b + 1) 2 := by omega
  have hl := men_len hR
  have hfp := fct_pos (μ (tw b + 1) 2).toNat
  refine cal_ev (fun r => call_X5_tryOrders d b μ 74 b) (ev_row (fun n => tX5_tryOrders_0 _ n b μ 74 b) (ev_callP (sX5_firstOrder b μ hN.symm (by omega) (fun g g0 g1 => by have := (hR.1.2.1 g g0 (by omega)).2.2.2.2; omega) d (by omega)) (fun _ μ1 ⟨f1, h1⟩ => ?_)))
  have hf1 : Fr [27, 28, 44, 45, 48, 49] μ μ1 := fr_sub f1 (fun a ha => by
    have : a = 49 := by simpa using ha
    rw [this]; decide)
  have h41 : μ1 44 4 = 0 := by rw [f1 44 (by decide)]; exact h44
  have h49 : ∀ g, 0 ≤ g → g < μ (tw b + 1) 2 → μ1 49 g = ordM b μ 0 g := fun g g0 g1 => by
    rw [h1 g g0 (by rw [hl]; omega)]
    unfold ordM
    rw [pmD_0 _ _ hl]
  refine ev_callP (rate_ord (by omega) hR hpr hfp hf1 h41 h49) (fun _ μ2 ⟨f2', b1, b2⟩ => ev_callP (sX3_copyFrom b μ2 d (by omega)) (fun _ μ3 ⟨f3, d1, d2, d3, d4⟩ => ?_))
  have f2 : Fr [27, 28, 48] μ1 μ2 := f2'
  have hf2 : Fr [27, 28, 44, 45, 48, 49] μ μ2 := fr_tr hf1 f2 (fun a ha => by
    simp only [List.mem_cons, List.not_mem_nil, or_false] at ha ⊢
    omega)
  refine eX5_tryOrders (by omega) hR h6 hpr (fct (μ (tw b + 1) 2).toNat - 1) 0 μ3 (by omega) ⟨?_, ?_, ?_, ?_, fun g g0 g1 => ?_, fun g g0 g1 => ?_⟩
  · exact fr_tr hf2 f3 (fun a ha => by
      simp only [List.mem_cons, List.not_mem_nil, or_false] at ha ⊢
      omega)
  · rw [d3 4 (by decide) (by decide), f2 44 (by decide)]; exact h41
  · rw [d1, b1, bstM_0]
  · rw [d2, b2, bstM_0]
  · rw [d4 g g0 (by omega), f2 49 (by decide), h49 g g0 g1, bstM_0]
  · rw [f3 49 (by decide), f2 49 (by decide)]; exact h49 g g0 g1
/-- what stand answers -/
def stV (b : Bool) (μ : Nat → Int → Int) (p : Int) : Int := if 6 < μ (tw b + 1) 2 then -1 else if p = -1 then (stdR b μ).1.1 else if p = 20 then (stdR b μ).1.2 else if 0 ≤ p ∧ p < μ (tw b + 1) 2 then ordM b μ (stdR b μ).2 p else -1
theorem stdR_same {b : Bool} {μ μ' : Nat → Int → Int} (h : ∀ a, a ∈ twL b → μ' a = μ a) (h2 : μ' 74 = μ 74) : stdR b μ' = stdR b μ := by
  unfold stdR
  rw [rtM_same h h2, h (tw b + 1) (by simp [twL]), h (tw b + 10) (by simp [twL])]
theorem ordM_same {b : Bool} {μ μ' : Nat → Int → Int} (h : ∀ a, a ∈ twL b → μ' a = μ a) (k : Nat) : ordM b μ' k = ordM b μ k := by
  unfold ordM
  rw [h (tw b + 1) (by simp [twL]), h (tw b + 10) (by simp [twL])]
theorem sX9_stand (p : Int) (b : Bool) (μ : Nat → Int → Int) (hR : R b μ) : ∀ d, 7 ≤ d → Cal d 251 [mP 0, mI p] b μ (fun v μ' => R b μ' ∧ Fr (scC ++ [44, 45, 46, 47]) μ μ' ∧ v = stV b μ p) := deepC fun d hd => by
  have hCn := hR.1.1
  obtain ⟨⟨z1, z2, z3⟩, ⟨w1, w2, w3⟩, ⟨y1, y2, y3⟩, ⟨x1, x2, x3⟩⟩ := hCn
  refine cal_ev (fun r => call_X9_stand d b μ p) (ev_row (fun n => tX9_stand_0 _ n b μ p) (ev_br (fun e => ev_row (fun n => tX9_stand_20 _ n b μ p) (ev_ret ⟨hR, fr_rfl, by unfold stV; rw [if_pos e]⟩)) (fun e6 => ev_br (fun e => ev_row (fun n => tX9_stand_20 _ n b μ p) (ev_ret ⟨hR, fr_rfl, by unfold stV; rw [if_neg e6, if_neg (by omega), if_neg (by omega), if_neg (by omega)]⟩)) (fun e21 => ?_))))
  have tell : ∀ μ' : Nat → Int → Int, R b μ' → Fr (scC ++ [44, 45, 46, 47]) μ μ' → μ' (tw b + 1) = μ (tw b + 1) → μ' 44 1 = (stdR b μ).1.1 → μ' 44 2 = (stdR b μ).1.2 → (∀ g, 0 ≤ g → g < μ (tw b + 1) 2 → μ' 45 g = ordM b μ (stdR b μ).2 g) → Ev (fun n => mRun (mCallN d) kX9_stand n 76 [some (mP 0), some (mI p)] [] (SH, μ', RHO b)) b (fun v μ' => R b μ' ∧ Fr (scC ++ [44, 45, 46, 47]) μ μ' ∧ v = stV b μ p) := fun μ' hR' hf k1 s1 s2 s4 => by
    have hT : Cal d 158 [mP 44, mI p, mI (μ' (tw b + 1) 2)] b μ' (fun v μ2 => μ2 = μ' ∧ v = stV b μ p) := by
      obtain ⟨d', rfl⟩ : ∃ d', d = d' + 1 := ⟨d - 1, by omega⟩
      refine cal_ev (fun r => call_X3_tell_44 d' b μ' p (μ' (tw b + 1) 2)) (ev_row (fun n => tX3_tell_44_0 _ n b μ' p (μ' (tw b + 1) 2)) ?_)
      unfold stV
      rw [if_neg e6]
      refine ev_br (fun e => ev_ret ⟨rfl, by rw [if_pos e]; exact s1⟩) (fun n1 => ?_)
      rw [if_neg n1]
      refine ev_br (fun e => ev_ret ⟨rfl, by rw [if_pos e]; exact s2⟩) (fun n2 => ?_)
      rw [if_neg n2]
      refine ev_br (fun e => absurd e e21) (fun n3 => ?_)
      refine ev_call (sX9_within p (μ' (tw b + 1) 2) b μ' d' (by omega)) ?_
      rw [k1]
      by_cases c : 0 ≤ p ∧ p < μ (tw b + 1) 2
      · rw [if_pos c]
        refine ev_neg (by show ¬ t01 (0 ≤ p ∧ p < μ (tw b + 1) 2) = 0; rw [t01_pos c]; decide) (ev_if (by omega) ?_)
        exact ev_row (fun n => tX3_tell_44_50 _ n b μ' p _ _) (ev_ret ⟨rfl, s4 p c.1 c.2⟩)
      · rw [if_neg c]
        refine ev_pos (show t01 (0 ≤ p ∧ p < μ (tw b + 1) 2) = 0 from t01_neg c) ?_
        exact ev_row (fun n => tX3_tell_44_50 _ n b μ' p _ _) (ev_ret ⟨rfl, rfl⟩)
    exact ev_row (fun n => tX9_stand_76 _ n b μ' p) (ev_callP hT (fun v μ2 ⟨e, h⟩ => ev_ret ⟨by subst e; exact hR', by subst e; exact hf, h⟩))
  refine ev_br (fun e => ?_) (fun e => ?_)
  · refine ev_callP (sX2_priceAll b μ hR d (by omega)) (fun _ μ1 ⟨f1, h1⟩ => ?_)
    have hs1 := fr_sc f1 (sub_C (by decide))
    have kt1 := scC_tw (b := b) hs1
    have k1 := kt1 (tw b + 1) (by simp [twL])
    have k74 : μ1 74 = μ 74 := f1 74 (by decide)
    refine ev_callP (sX5_tryOrders b μ1 (R_cls hs1 hR) (by rw [f1 44 (by decide)]; exact e) (by rw [k1]; omega) (fun m q m0 m1 q0 q1 => by
      rw [k1] at m1 q1
      rw [prA_same kt1 k74]; exact h1 m q m0 m1 q0 q1) d (by omega)) (fun _ μ2 ⟨f2, a4, a1, a2, a5⟩ => ?_)
    have kt2 := fr7_tw (b := b) f2
    have ktt : ∀ a, a ∈ twL b → μ2 a = μ a := fun a ha => by rw [kt2 a ha, kt1 a ha]
    have k74' : μ2 74 = μ 74 := by rw [f2 74 (by decide), k74]
    rw [stdR_same kt1 k74] at a1 a2 a5
    rw [k1] at a5
    rw [ordM_same kt1] at a5
    have hf2 : Fr (scC ++ [44, 45, 46, 47]) μ μ2 := fr_tr (fr_sub hs1 (fun a ha => List.mem_append.2 (Or.inl ha))) f2 (fun a ha => by
      simp only [List.mem_cons, List.not_mem_nil, or_false] at ha
      rcases ha with e | e | e | e | e | e <;> rw [e] <;> decide)
    refine tell μ2 (R_sta hR hf2 ?_) hf2 (ktt _ (by simp [twL])) a1 a2 a5
    obtain ⟨s1, s2, s3, s4⟩ := hR.2.2.2.2
    have k46 : μ2 46 = μ 46 := by rw [f2 46 (by decide), f1 46 (by decide)]
    have k47 : μ2 47 = μ 47 := by rw [f2 47 (by decide), f1 47 (by decide)]
    refine ⟨Or.inr a4, by rw [k46]; exact s2, fun _ => ?_, ?_⟩
    · rw [stdR_same ktt k74', ktt (tw b + 1) (by simp [twL]), ktt (tw b + 10) (by simp [twL])]
      exact ⟨by omega, a1, a2, a5⟩
    · rw [k46, k47, exR_same ktt k74', ktt (tw b + 1) (by simp [twL])]; exact s4
  · obtain ⟨s1, s2, s3, s4⟩ := hR.2.2.2.2
    obtain ⟨-, a1, a2, a5⟩ := s3 (by omega)
    exact tell μ hR fr_rfl rfl a1 a2 a5
