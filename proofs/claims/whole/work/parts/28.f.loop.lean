/-! ===== town: all statements, both alike ===== -/
abbrev LR : Type := Sum (Int × Int) (DT × Int)
def LCl (b : Bool) (T : Int → Int) (n : Int) (μ0 : Nat → Int → Int) (v : Int) (μ : Nat → Int → Int) : LR → Prop
  | .inl e => v = 0 ∧ Dfr b μ0 μ ∧ CDd T n μ e
  | .inr (D, c) => v = 1 ∧ Dfr b μ0 μ ∧ Cl b μ D ∧ μ (tw (!b)) 0 = c ∧ μ 1 2 = 0 ∧ μ 1 3 = -1
def LRf (ν0 ν : Nat → Int → Int) : LR → Prop
  | .inl e => Rfr stK ν0 ν ∧ RBd ν e
  | .inr (D, c) => Rfr stK ν0 ν ∧ Rl ν D ∧ ν 96 39 = c ∧ ν 96 5 = 0 ∧ ν 96 6 = -1
def LOk (T : Int → Int) (n : Int) : LR → Prop
  | .inl _ => True
  | .inr (D, c) => DOk D ∧ ((cdL D).length : Int) ≤ n ∧ 0 ≤ c ∧ c ≤ 80
theorem cl_end {b : Bool} {T : Int → Int} {n : Int} {d : Nat} {i : Int} {μ0 μ : Nat → Int → Int} {e : Int × Int} (hf : Dfr b μ0 μ) (h : CDd T n μ e) : Ev (fun m => mRun (mCallN d) kX4_read m 184 [some (mP 1), some (mI i)] [] (SH, μ, RHO b)) b (fun v μ' => LCl b T n μ0 v μ' (.inl e)) :=
  ev_row (fun m => tX4_read_184 _ m b μ i) (ev_neg (by rw [h.2.2.1]; exact h.2.2.2.1) (ev_row (fun m => tX4_read_196 _ m b μ i 0) (ev_if (Or.inl rfl) (ev_ret ⟨rfl, hf, h⟩))))
theorem cl_dead6 {b : Bool} {T : Int → Int} {n : Int} {d : Nat} {i : Int} {μ0 μ : Nat → Int → Int} {e : Int × Int} (hf : Dfr b μ0 μ) (h : CDd T n μ e) : Ev (fun m => mRun (mCallN d) kX4_read m 6 [some (mP 1), some (mI i)] [] (SH, μ, RHO b)) b (fun v μ' => LCl b T n μ0 v μ' (.inl e)) := by
  have k4 : μ 1 4 = 0 := h.2.2.2.2.2.1
  have F : Ev (fun m => mRun (mCallN d) kX4_read m 168 [some (mP 1), some (mI i)] [] (SH, μ, RHO b)) b (fun v μ' => LCl b T n μ0 v μ' (.inl e)) := ev_row (fun m => tX4_read_168 _ m b μ i) (ev_pos k4 (cl_end hf h))
  exact ev_row (fun m => tX4_read_6 _ m b μ i) (ev_br (fun _ => ev_pos k4 F) (fun _ => F))
theorem J_loop (b bx : Bool) {T : Int → Int} {n : Int} (hT : Tp T n) : ∀ (k : Nat) (D : DT) (s : Int) (g : Bool) (i : Int), VC T n s → n - s ≤ k → DOk D → ((cdL D).length : Int) ≤ s → 0 ≤ i → i ≤ 80 → ∃ r : LR, (∀ d, 201 ≤ d → ∀ μ0 μ, Dfr b μ0 μ → CLv T n μ s g → Cl b μ D → μ (tw (!b)) 0 = i → Ev (fun m => mRun (mCallN d) kX4_read m 6 [some (mP 1), some (mI i)] [] (SH, μ, RHO b)) b (fun v μ' => LCl b T n μ0 v μ' r)) ∧ (∀ d, 22 ≤ d → ∀ v1 ν0 ν, Rfr stK ν0 ν → RSv T n ν s g → Rl ν D → ν 96 39 = i → ∀ Q : Int → (Nat → Int → Int) → Prop, (∀ ν', LRf ν0 ν' r → Ev (fun m => mRun (mCallN d) kX10_town m 90 [some (mP 96), some (mI v1)] [] (SH, ν', RHO bx)) bx Q) → Ev (fun m => mRun (mCallN d) kX10_town m 68 [some (mP 96), some (mI v1)] [] (SH, ν, RHO bx)) bx Q) ∧ LOk T n r := by
  have ended : ∀ (D : DT) (s : Int) (g : Bool) (i : Int), VC T n s → s = n → DOk D → ((cdL D).length : Int) ≤ s → 0 ≤ i → i ≤ 80 → ∃ r : LR, (∀ d, 201 ≤ d → ∀ μ0 μ, Dfr b μ0 μ → CLv T n μ s g → Cl b μ D → μ (tw (!b)) 0 = i → Ev (fun m => mRun (mCallN d) kX4_read m 6 [some (mP 1), some (mI i)] [] (SH, μ, RHO b)) b (fun v μ' => LCl b T n μ0 v μ' r)) ∧ (∀ d, 22 ≤ d → ∀ v1 ν0 ν, Rfr stK ν0 ν → RSv T n ν s g → Rl ν D → ν 96 39 = i → ∀ Q : Int → (Nat → Int → Int) → Prop, (∀ ν', LRf ν0 ν' r → Ev (fun m => mRun (mCallN d) kX10_town m 90 [some (mP 96), some (mI v1)] [] (SH, ν', RHO bx)) bx Q) → Ev (fun m => mRun (mCallN d) kX10_town m 68 [some (mP 96), some (mI v1)] [] (SH, ν, RHO bx)) bx Q) ∧ LOk T n r := fun D s g i hv hsn hD hs i0 i8 => by
    have hk : tkK T n s g = 0 := by
      rcases tkK_or (g := g) hT hv with ⟨c, -⟩ | ⟨c, -⟩ <;> omega
    refine ⟨.inr (D, i), fun d hd μ0 μ hf h hc h0 => ?_, fun d hd v1 ν0 ν hf h hl h39 Q K => ?_, hD, by omega, i0, i8⟩
    · have k4 : μ 1 4 = 0 := by rw [h.2.2.2.2.1.1]; exact hk
      have F : Ev (fun m => mRun (mCallN d) kX4_read m 168 [some (mP 1), some (mI i)] [] (SH, μ, RHO b)) b (fun v μ' => LCl b T n μ0 v μ' (.inr (D, i))) := ev_row (fun m => tX4_read_168 _ m b μ i) (ev_pos k4 (ev_row (fun m => tX4_read_184 _ m b μ i) (ev_pos h.2.2.1 (ev_row (fun m => tX4_read_196 _ m b μ i 1) (ev_if (Or.inr rfl) (ev_ret ⟨rfl, hf, hc, h0, h.2.2.1, h.2.2.2.1⟩))))))
      exact ev_row (fun m => tX4_read_6 _ m b μ i) (ev_br (fun _ => ev_pos k4 F) (fun _ => F))
    · refine ev_row (fun m => tX10_town_68 _ m bx ν v1) (ev_pos h.1 (ev_callP (sX10_look hT bx ν h d (by omega)) (fun v ν1 ⟨hv1, f1', h1, _⟩ => ev_pos (by show v = -1; rw [hv1]; exact byA_out (by omega)) (K ν1 ?_))))
      have f1 : Fg [] [2] ν ν1 := f1'
      have fl : Fg [] lxJ ν ν1 := ⟨f1.1, fun j hj => f1.2 j (fun q => hj (by rw [List.mem_singleton.1 q]; decide))⟩
      exact ⟨rfr_fg hf f1 (by decide), Rl_lex fl hl, by rw [f1.2 39 (by decide)]; exact h39, h1.1, h1.2.1⟩
  intro k
  induction k with
  | zero =>
    intro D s g i hv hk hD hs i0 i8
    have := hv.2.1
    exact ended D s g i hv (by omega) hD hs i0 i8
  | succ k ih =>
    intro D s g i hv hk hD hs i0 i8
    have hsn := hv.2.1
    by_cases hlt : s < n
    · have hk0 : tkK T n s g ≠ 0 := by
        rcases tkK_or (g := g) hT hv with ⟨-, c⟩ | ⟨-, c⟩ <;> omega
      have lk : ∀ d, 22 ≤ d → ∀ v1 ν0 ν, Rfr stK ν0 ν → RSv T n ν s g → Rl ν D → ν 96 39 = i → ∀ (Q : Int → (Nat → Int → Int) → Prop), (∀ ν1, Rfr stK ν0 ν1 → RSv T n ν1 s g → ν1 96 2 = s → Rl ν1 D → ν1 96 39 = i → Ev (fun m => mOptR (mCallN d 118 [mP 96] (SH, ν1, RHO bx)) (fun x2 => mRun (mCallN d) kX10_town m 68 [some (mP 96), some (mI v1)] [] (SH, x2.2.2.1, RHO bx))) bx Q) → Ev (fun m => mRun (mCallN d) kX10_town m 68 [some (mP 96), some (mI v1)] [] (SH, ν, RHO bx)) bx Q := fun d hd v1 ν0 ν hf h hl h39 Q K => by
        refine ev_row (fun m => tX10_town_68 _ m bx ν v1) (ev_pos h.1 (ev_callP (sX10_look hT bx ν h d (by omega)) (fun v ν1 ⟨hv1, f1', h1, h2⟩ => ev_neg (fun q => ?_) (K ν1 ?_ h1 h2 ?_ ?_))))
        · have q' : v = -1 := q
          have := hT.2.2 s hv.1 (by have := hT.2.1; omega)
          rw [hv1, byA_in hv.1 hlt] at q'
          omega
        · have f1 : Fg [] [2] ν ν1 := f1'
          exact rfr_fg hf f1 (by decide)
        · have f1 : Fg [] [2] ν ν1 := f1'
          exact Rl_lex ⟨f1.1, fun j hj => f1.2 j (fun q => hj (by rw [List.mem_singleton.1 q]; decide))⟩ hl
        · have f1 : Fg [] [2] ν ν1 := f1'
          show ν1 96 39 = i
          rw [f1.2 39 (by decide)]; exact h39
      have bad68 : ∀ (d : Nat) (v1 : Int) (ν' : Nat → Int → Int) (e : Int × Int) (Q : Int → (Nat → Int → Int) → Prop), RBd ν' e → Ev (fun m => mRun (mCallN d) kX10_town m 90 [some (mP 96), some (mI v1)] [] (SH, ν', RHO bx)) bx Q → Ev (fun m => mRun (mCallN d) kX10_town m 68 [some (mP 96), some (mI v1)] [] (SH, ν', RHO bx)) bx Q := fun d v1 ν' e Q hb K => ev_row (fun m => tX10_town_68 _ m bx ν' v1) (ev_neg (by rw [hb.1]; exact hb.2.1) K)
      by_cases hi : i = 80
      · refine ⟨.inl (5, s), fun d hd μ0 μ hf h hc h0 => ?_, fun d hd v1 ν0 ν hf h hl h39 Q K => ?_, trivial⟩
        · have k4 : μ 1 4 ≠ 0 := by rw [h.2.2.2.2.1.1]; exact hk0
          have k7 : μ 1 7 = s := h.2.2.2.2.1.2.2.2.1
          refine ev_row (fun m => tX4_read_6 _ m b μ i) (ev_neg (by omega) (ev_row (fun m => tX4_read_168 _ m b μ i) (ev_neg k4 ?_)))
          rw [k7]
          exact ev_callP (sX4_fail 5 s (by decide) b μ h d (by omega)) (fun v μ1 ⟨f1, h1⟩ => cl_end (dfr_tr hf (dfr_fj f1)) h1)
        · refine lk d hd v1 ν0 ν hf h hl h39 Q (fun ν1 g1 h1 h2 l1 k39 => ?_)
          obtain ⟨d', rfl⟩ : ∃ d', d = d' + 1 := ⟨d - 1, by omega⟩
          refine ev_callP (cal_ev (Q := fun _ ν' => Fg [] [5, 6] ν1 ν' ∧ RBd ν' (5, s)) (fun r => call_X10_statementTold d' bx ν1) (ev_row (fun m => tX10_statementTold_0 _ m bx ν1) (ev_pos (by omega) ?_))) (fun v ν2 ⟨f2', hb'⟩ => ?_)
          · rw [h2]
            exact ev_callP (sX10_fail0 5 s (by decide) bx ν1 h1.1 d' (by omega)) (fun v ν2 ⟨f2, hb⟩ => ev_ret ⟨f2, hb⟩)
          · have f2 : Fg [] [5, 6] ν1 ν2 := f2'
            exact bad68 _ v1 ν2 (5, s) Q hb' (K ν2 ⟨rfr_fg g1 f2 (by decide), hb'⟩)
      · obtain ⟨rs, j1, j2, j3⟩ := J_stmt b bx (g := g) hT hD hv hs hlt
        rcases rs with e | ⟨D', s', g'⟩
        · refine ⟨.inl e, fun d hd μ0 μ hf h hc h0 => j1 d hd μ0 μ i i0 (by omega) hf h hc _ (fun μ' hc' _ => cl_dead6 hc'.1 hc'.2), fun d hd v1 ν0 ν hf h hl h39 Q K => lk d hd v1 ν0 ν hf h hl h39 Q (fun ν1 g1 h1 h2 l1 k39 => ev_callP (j2 d hd ν1 i i0 (by omega) h1 h2 l1 k39) (fun v ν2 hh => ?_)), trivial⟩
          have hb : RBd ν2 e := hh.2
          exact bad68 _ v1 ν2 e Q hb (K ν2 ⟨rfr_tr g1 hh.1, hb⟩)
        · obtain ⟨u1, u2, u3, u4⟩ := j3
          obtain ⟨r, p1, p2, p3⟩ := ih D' s' g' (i + 1) u1 (by omega) u3 u4 (by omega) (by omega)
          refine ⟨r, fun d hd μ0 μ hf h hc h0 => j1 d hd μ0 μ i i0 (by omega) hf h hc _ (fun μ' hc' h0' => p1 d hd μ0 μ' hc'.1 hc'.2.1 hc'.2.2 h0'), fun d hd v1 ν0 ν hf h hl h39 Q K => lk d hd v1 ν0 ν hf h hl h39 Q (fun ν1 g1 h1 h2 l1 k39 => ev_callP (j2 d hd ν1 i i0 (by omega) h1 h2 l1 k39) (fun v ν2 hh => ?_)), p3⟩
          exact p2 d hd v1 ν0 ν2 (rfr_tr g1 hh.1) hh.2.1 hh.2.2.1 hh.2.2.2 Q K
    · exact ended D s g i hv (by omega) hD hs i0 i8
def D0 : DT := (fun _ => [], [], [], [], [], 0)
theorem D0_ok : DOk D0 := ⟨fun k _ _ => ⟨Nat.zero_le _, fun w hw => by simp at hw⟩, ⟨by decide, by decide, by decide⟩, ⟨rfl, rfl, by decide⟩, ⟨by decide, by decide⟩, fun x hx => by simp at hx, fun x hx => by simp at hx, by simp, fun x hx => by simp at hx⟩
theorem sX4_begin {T : Int → Int} {n : Int} (hT : Tp T n) (b : Bool) (μ : Nat → Int → Int) (h2 : μ 2 1 = n) (h3 : μ 3 = T) : ∀ d, 3 ≤ d → Cal d 159 [mP 1] b μ (fun _ μ' => Dfr b μ μ' ∧ CLv T n μ' (skp T n 0) false ∧ Cl b μ' D0 ∧ μ' (tw (!b)) 0 = 0) := deepC fun d hd => by
  have t1 := tw_or (!b)
  have sh1 : shp (tw (!b) + 1) = (0, 4) := by cases b <;> rfl
  have hclr : mCallN d 197 [mP (tw (!b))] (SH, μ, RHO b) = some (0, SH, mFl (m2 (m2 (m2 μ (tw (!b)) 0 0) (tw (!b)) 1 0) (tw (!b)) 13 0) (tw (!b) + 1) 4 0, RHO b) := by
    obtain ⟨d', rfl⟩ : ∃ d', d = d' + 1 := ⟨d - 1, by omega⟩
    exact cal_eq (cal_ev (fun r => call_X7_clear d' b μ (!b)) (ev_row (fun m => tX7_clear_0 _ m b μ (!b)) (ev_call (sJ7_fill (tw (!b) + 1) 4 0 b _ sh1 (by decide) d' (by omega)) (ev_ret ⟨rfl, rfl⟩))))
  refine cal_ev (fun r => call_X4_begin d b μ) (ev_row (fun m => tX4_begin_0 _ m b μ) (ev_call hclr ?_))
  have fl : ∀ a, a ≠ tw (!b) → a ≠ tw (!b) + 1 → mFl (m2 (m2 (m2 μ (tw (!b)) 0 0) (tw (!b)) 1 0) (tw (!b)) 13 0) (tw (!b) + 1) 4 0 a = μ a := fun a h1 h4 => by
    funext j
    unfold mFl
    rw [if_neg (fun q => h4 q.1), m2_ne h1, m2_ne h1, m2_ne h1]
  have flT : ∀ j, mFl (m2 (m2 (m2 μ (tw (!b)) 0 0) (tw (!b)) 1 0) (tw (!b)) 13 0) (tw (!b) + 1) 4 0 (tw (!b)) j = if j = 13 then 0 else if j = 1 then 0 else if j = 0 then 0 else μ (tw (!b)) j := fun j => by
    unfold mFl
    rw [if_neg (fun q => by have := q.1; omega), m2_at, m2_at, m2_at]
  have flC : ∀ j, 0 ≤ j → j < 4 → mFl (m2 (m2 (m2 μ (tw (!b)) 0 0) (tw (!b)) 1 0) (tw (!b)) 13 0) (tw (!b) + 1) 4 0 (tw (!b) + 1) j = 0 := fun j j0 j1 => by
    unfold mFl
    rw [if_pos ⟨rfl, j0, j1⟩]
  generalize hM : mFl (m2 (m2 (m2 μ (tw (!b)) 0 0) (tw (!b)) 1 0) (tw (!b)) 13 0) (tw (!b) + 1) 4 0 = M at fl flT flC
  have m1 : ∀ a, a ≠ 1 → m2 (m2 (m2 (m2 M 1 2 0) 1 3 (-1)) 1 4 3) 1 8 0 a = M a := fun a ha => by rw [m2_ne ha, m2_ne ha, m2_ne ha, m2_ne ha]
  have mj : ∀ j, m2 (m2 (m2 (m2 M 1 2 0) 1 3 (-1)) 1 4 3) 1 8 0 1 j = if j = 8 then 0 else if j = 4 then 3 else if j = 3 then -1 else if j = 2 then 0 else M 1 j := fun j => by rw [m2_at, m2_at, m2_at, m2_at]
  refine ev_callP (sX4_take_gen (a := 0) (g := false) hT b (m2 (m2 (m2 (m2 M 1 2 0) 1 3 (-1)) 1 4 3) 1 8 0) (by rw [m1 2 (by decide), fl 2 (by omega) (by omega)]; exact h2) (by rw [m1 3 (by decide), fl 3 (by omega) (by omega)]; exact h3) (by rw [mj]; rfl) (by rw [mj]; rfl) (by decide) hT.1 (by rw [mj, if_neg (by decide), if_pos rfl]; rfl) d (by omega)) (fun v μ1 ⟨f1', h1⟩ => ev_ret ?_)
  have f1 : Fj tkJ (m2 (m2 (m2 (m2 M 1 2 0) 1 3 (-1)) 1 4 3) 1 8 0) μ1 := f1'
  have sk := skp_in (T := T) (n := n) (i := 0) hT.1
  have ne : ∀ a, a ≠ 1 → μ1 a = M a := fun a ha => by rw [f1.1 a (by simp; exact ha), m1 a ha]
  refine ⟨⟨fun a ha h18 => ?_, fun j hj => ?_⟩, ⟨?_, ?_, ?_, ?_, h1, by omega, by omega, sk.2.2.2⟩, ?_, ?_⟩
  · show μ1 a = μ a
    rw [ne a ha, fl a (by omega) (by omega)]
  · show μ1 1 j = μ 1 j
    simp only [rdJ, List.mem_cons, List.not_mem_nil, or_false, not_or] at hj
    rw [f1.2 j (by unfold tkJ; simp only [List.mem_cons, List.not_mem_nil, or_false]; omega), mj, if_neg (by omega), if_neg (by omega), if_neg (by omega), if_neg (by omega), fl 1 (by omega) (by omega)]
  · show μ1 2 1 = n
    rw [ne 2 (by decide), fl 2 (by omega) (by omega)]; exact h2
  · show μ1 3 = T
    rw [ne 3 (by decide), fl 3 (by omega) (by omega)]; exact h3
  · show μ1 1 2 = 0
    rw [f1.2 2 (by decide), mj]; rfl
  · show μ1 1 3 = -1
    rw [f1.2 3 (by decide), mj]; rfl
  · show Cl b μ1 D0
    have eT : μ1 (tw (!b)) = M (tw (!b)) := ne _ (by omega)
    have eC : μ1 (tw (!b) + 1) = M (tw (!b) + 1) := ne _ (by omega)
    refine ⟨fun k hk k2 => ⟨?_, fun i hi => by simp at hi⟩, fun i hi => by simp at hi, ⟨?_, fun i hi => by simp at hi⟩, fun i hi => by simp at hi, ⟨?_, fun i hi => by simp at hi⟩, ?_⟩
    · rw [eC, flC _ (by omega) (by omega)]; rfl
    · rw [eC, flC _ (by omega) (by omega)]; rfl
    · rw [eT, flT]; rfl
    · rw [eT, flT]; rfl
  · show μ1 (tw (!b)) 0 = 0
    rw [ne _ (by omega), flT]; rfl
