theorem cOf_n {y : Int} (h : 1000 ≤ y) : cOf y = y - 1000 := by unfold cOf; rw [if_pos h]
theorem cOf_f {y : Int} (h : 7 ≤ y) (h2 : y ≤ 11) : cOf y = 6 - y := by unfold cOf; rw [if_neg (by omega), if_neg (by omega), if_neg (by omega), if_neg (by omega), if_neg (by omega), if_neg (by omega), if_pos h]
theorem cOf_b {y : Int} (h : (1 ≤ y ∧ y ≤ 6) ∨ (12 ≤ y ∧ y ≤ 16)) : cOf y < -10 ∧ -22 < cOf y := by
  unfold cOf
  rw [if_neg (by omega), if_neg (by omega), if_neg (by omega)]
  (repeat' split) <;> omega
theorem evS_push {ask : Int → Int} {vs : List Int} {y : Int} (h : (1000 ≤ y ∧ y ≤ 10999) ∨ (7 ≤ y ∧ y ≤ 11)) : evS ask vs y = (if 1000 ≤ y then y - 1000 else ask (y - 7)) :: vs := by
  unfold evS
  by_cases e : 1000 ≤ y
  · rw [if_pos e, if_pos e]
  · rw [if_neg e, if_neg e, if_neg (by omega), if_pos (by omega)]
theorem evS_all {ask : Int → Int} {vs : List Int} : evS ask vs 18 = 1 :: vs := by
  unfold evS; rw [if_neg (by decide), if_pos rfl]
theorem evS_not {ask : Int → Int} {v : Int} {vs : List Int} : evS ask (v :: vs) 17 = (1 - v) :: vs := by
  unfold evS; rw [if_neg (by decide), if_neg (by decide), if_neg (by decide), if_pos rfl]
theorem evS_bin {ask : Int → Int} {v u : Int} {vs : List Int} {y : Int} (h : (1 ≤ y ∧ y ≤ 6) ∨ (12 ≤ y ∧ y ≤ 16)) : evS ask (v :: u :: vs) y = opf y u v :: vs := by
  unfold evS; rw [if_neg (by omega), if_neg (by omega), if_neg (by omega), if_neg (by omega)]
theorem shp_code (c : Bool) : shp (tw c + 15) = (0, 1600) := shp_tw c 15 1600 rfl rfl
theorem eX2_reckon {d : Nat} (hd : 2 ≤ d) {b c : Bool} {ask y : Int → Int} {μ0 : Nat → Int → Int} {fr to : Int} {t : Bool} (hto : to ≤ 1600) (ha : ∀ j, 0 ≤ j → j < 5 → 0 ≤ ask j ∧ ask j ≤ 1000) (hf : ∀ j, 0 ≤ j → j < 5 → μ0 24 j = ask j) : ∀ (k : Nat) (i : Int) (ts : List Bool) (vs : List Int) (v6 : Option mV) (μ : Nat → Int → Int), 0 ≤ i → i + k = to → (∀ j, i ≤ j → j < to → μ0 (tw c + 15) j = cOf (y j)) → Fr [25] μ0 μ → Sto (μ 25) vs → vOk ts vs → ts.length ≤ 64 → TyR y k i ts [t] →
    Ev (fun n => mRun (mCallN d) kX2_reckon n 6 [some (mP 23), some (mP (tw c + 15)), some (mI fr), some (mI to), some (mI vs.length), some (mI i), v6] [] (SH, μ, RHO b)) b (fun v μ' => Fr [25] μ0 μ' ∧ evR ask y k i vs = [v] ∧ vK t v) := by
  intro k
  induction k with
  | zero =>
    intro i ts vs v6 μ h0 hk hc hfr hst hv hl ht
    have ht' : ts = [t] := ht
    subst ht'
    obtain ⟨v, r, e, hv1, hv2⟩ := vOk_cons hv
    subst e
    have hr : r = [] := by
      cases r with
      | nil => rfl
      | cons a b => exact absurd hv2 (by simp [vOk])
    subst hr
    refine ev_row (fun n => tX2_reckon_6 _ n b μ fr to _ i v6 (tw c + 15)) (ev_neg (by omega) ?_)
    refine ev_row (fun n => tX2_reckon_151 _ n b μ fr to _ i v6 (tw c + 15)) (ev_pos (by show (0 : Int) < ((1 : Nat) : Int); decide) ?_)
    refine ev_row (fun n => tX2_reckon_166 _ n b μ fr to _ i v6 (μ 25 0) (tw c + 15)) (ev_ret ⟨hfr, ?_, ?_⟩)
    · rw [evR]; rw [show μ 25 0 = v from hst.1]
    · rw [show μ 25 0 = v from hst.1]; exact hv1
  | succ k ih =>
    intro i ts vs v6 μ h0 hk hc hfr hst hv hl ht
    obtain ⟨t1, ht1, ht2⟩ := ht
    have hlen := vOk_len hv
    have hsh : mShape (SH, μ, RHO b) (tw c + 15) = (0, 1600) := shape_of (shp_code c)
    have hne : ∀ a, a ≠ 25 → μ a = μ0 a := fun a h => hfr a (by simpa using h)
    have hx : μ (tw c + 15) i = cOf (y i) := by
      rw [hne _ (by have := tw_or c; omega)]; exact hc i (by omega) (by omega)
    have e1 : w32 (i + 1) = i + 1 := w32_id (by omega) (by omega)
    refine ev_row (fun n => tX2_reckon_6 _ n b μ fr to _ i v6 (tw c + 15)) (ev_pos (by omega) (ev_bif (by rw [hsh]; rfl) (ev_pos (by rw [hsh]; show i < ((1600 : Nat) : Int); omega) (ev_bif (arr_of (shp_code c)) (ev_if (by rw [hsh]; show 0 ≤ i ∧ i < ((1600 : Nat) : Int); omega) ?_)))))
    rw [hx]
    have key : ∀ (vs' : List Int) (μ' : Nat → Int → Int), vs' = evS ask vs (y i) → Fr [25] μ0 μ' → Sto (μ' 25) vs' → t1.length ≤ 64 → Ev (fun n => mRun (mCallN d) kX2_reckon n 145 [some (mP 23), some (mP (tw c + 15)), some (mI fr), some (mI to), some (mI vs'.length), some (mI i), some (mI (cOf (y i)))] [] (SH, μ', RHO b)) b (fun v μ' => Fr [25] μ0 μ' ∧ evR ask y (k + 1) i vs = [v] ∧ vK t v) := fun vs' μ' e hfr' hst' hl' => by
      refine ev_row (fun n => tX2_reckon_145 _ n b μ' fr to _ i _ (tw c + 15)) ?_
      rw [e1, evR, ← e]
      refine ih (i + 1) t1 vs' _ μ' (by omega) (by omega) (fun j h1 h2 => hc j (by omega) h2) hfr' hst' ?_ hl' ht2
      rw [e]; exact evS_ok ha hv ht1
    rcases ht1 with ⟨h, hlt, h3⟩ | ⟨h, hlt, h3⟩ | ⟨h, h3, r, h4⟩ | ⟨h, r, h3, h4⟩ | ⟨r, h3, h4⟩
    · have hes := evS_push (ask := ask) (vs := vs) h
      have e2 : w32 ((vs.length : Int) + 1) = ((vs.length + 1 : Nat) : Int) := by rw [w32_id (by omega) (by omega)]; rfl
      by_cases e : 1000 ≤ y i
      · rw [if_pos e] at hes
        rw [cOf_n e] at key ⊢
        refine ev_neg (by omega) (ev_pos (by omega) (ev_neg (by omega) ?_))
        refine ev_row (fun n => tX2_reckon_64 _ n b μ fr to _ i _ (vs.length) (y i - 1000) (tw c + 15)) (ev_if (by omega) ?_)
        rw [e2]
        refine key ((y i - 1000) :: vs) _ hes.symm (fr_m2 hfr (by decide)) ?_ (by rw [h3, List.length_cons]; omega)
        rw [m2_uPd]; exact Sto_push hst
      · rw [if_neg e] at hes
        have hr : 7 ≤ y i ∧ y i ≤ 11 := by omega
        have hcf := cOf_f hr.1 hr.2
        rw [hcf] at key ⊢
        have e3 : w32 (-1 - (6 - y i)) = y i - 7 := by rw [w32_id (by omega) (by omega)]; omega
        refine ev_neg (by omega) (ev_pos (by omega) (ev_pos (by omega) (ev_if (by rw [e3]; omega) ?_)))
        rw [e3, hne 24 (by decide), hf (y i - 7) (by omega) (by omega)]
        refine ev_row (fun n => tX2_reckon_64 _ n b μ fr to _ i _ (vs.length) (ask (y i - 7)) (tw c + 15)) (ev_if (by omega) ?_)
        rw [e2]
        refine key (ask (y i - 7) :: vs) _ hes.symm (fr_m2 hfr (by decide)) ?_ (by rw [h3, List.length_cons]; omega)
        rw [m2_uPd]; exact Sto_push hst
    · have e2 : w32 ((vs.length : Int) + 1) = ((vs.length + 1 : Nat) : Int) := by rw [w32_id (by omega) (by omega)]; rfl
      have hcf : cOf (y i) = 1 := by rw [h]; decide
      rw [hcf] at key ⊢
      refine ev_neg (by decide) (ev_pos (by omega) (ev_neg (by decide) ?_))
      refine ev_row (fun n => tX2_reckon_64 _ n b μ fr to _ i _ (vs.length) 1 (tw c + 15)) (ev_if (by omega) ?_)
      rw [e2]
      refine key (1 :: vs) _ (by rw [h, evS_all]) (fr_m2 hfr (by decide)) ?_ (by rw [h3, List.length_cons]; omega)
      rw [m2_uPd]; exact Sto_push hst
    · subst h4
      obtain ⟨v, r', e, hv1, hv2⟩ := vOk_cons hv
      subst e
      have hcf : cOf (y i) = -10 := by rw [h]; decide
      have hv' : v = 0 ∨ v = 1 := hv1
      have hl2 : ((v :: r').length : Int) = (r'.length : Int) + 1 := by rw [List.length_cons]; omega
      simp only [List.length_cons] at hlen hl
      have e3 : w32 ((r'.length : Int) + 1 - 1) = r'.length := by rw [w32_id (by omega) (by omega)]; omega
      have hst1 : μ 25 r'.length = v := hst.1
      have e4 : w32 (1 - v) = 1 - v := w32_id (by omega) (by omega)
      rw [hcf] at key ⊢
      rw [hl2, e3, hst1, e4]
      refine ev_pos (by decide) (ev_pos rfl (ev_pos (by omega) (ev_if (by omega) (ev_if (by omega) ?_))))
      have := key ((1 - v) :: r') (m2 μ 25 r'.length (1 - v)) (by rw [h, evS_not]) (fr_m2 hfr (by decide)) (by rw [m2_uPd]; exact Sto_push hst.2) (by rw [h3, List.length_cons]; omega)
      rw [show (((1 - v) :: r').length : Int) = (r'.length : Int) + 1 by rw [List.length_cons]; omega] at this
      exact this
    · subst h3
      obtain ⟨v, r1, e, hv1, hv2⟩ := vOk_cons hv
      obtain ⟨u, r2, e2, hv3, hv4⟩ := vOk_cons hv2
      subst e2; subst e
      rw [List.length_cons, List.length_cons] at hl
      have hb := cOf_b (y := y i) (by omega)
      have hJ := sX2_join (y i) u v b μ (Or.inl ⟨h, hv3, hv1⟩) d hd
      have hl2 : ((v :: u :: r2).length : Int) = (r2.length : Int) + 2 := by rw [List.length_cons, List.length_cons]; omega
      have hlr : r2.length ≤ 62 := by
        rw [List.length_cons, List.length_cons, List.length_cons, List.length_cons] at hlen; omega
      have e3 : w32 ((r2.length : Int) + 2 + (-1)) = (r2.length : Int) + 1 := by rw [w32_id (by omega) (by omega)]; omega
      have e4 : w32 ((r2.length : Int) + 1 - 1) = (r2.length : Int) := by rw [w32_id (by omega) (by omega)]; omega
      have hst1 : μ 25 ((r2.length : Int) + 1) = v := hst.1
      have hst2 : μ 25 r2.length = u := hst.2.1
      rw [hl2, e3, e4, hst1, hst2]
      refine ev_pos (by omega) (ev_neg (by omega) (ev_pos (by omega) (ev_if (by omega) (ev_if (by omega) (ev_call hJ (ev_if (by omega) ?_))))))
      have := key (opf (y i) u v :: r2) (m2 μ 25 r2.length (opf (y i) u v)) (by rw [evS_bin (by omega)]) (fr_m2 hfr (by decide)) (by rw [m2_uPd]; exact Sto_push hst.2.2) (by rw [h4, List.length_cons]; omega)
      rw [show ((opf (y i) u v :: r2).length : Int) = (r2.length : Int) + 1 by rw [List.length_cons]; omega] at this
      exact this
    · subst h3
      obtain ⟨v, r1, e, hv1, hv2⟩ := vOk_cons hv
      obtain ⟨u, r2, e2, hv3, hv4⟩ := vOk_cons hv2
      subst e2; subst e
      rw [List.length_cons, List.length_cons] at hl
      have hyy : (1 ≤ y i ∧ y i ≤ 6) ∨ (12 ≤ y i ∧ y i ≤ 14) := by rcases h4 with h4 | h4 <;> omega
      have ht1 : t1.length ≤ 64 := by rcases h4 with h4 | h4 <;> (rw [h4.2.2, List.length_cons]; omega)
      have hb := cOf_b (y := y i) (by omega)
      have hJ := sX2_join (y i) u v b μ (Or.inr ⟨hyy, hv3, hv1⟩) d hd
      have hl2 : ((v :: u :: r2).length : Int) = (r2.length : Int) + 2 := by rw [List.length_cons, List.length_cons]; omega
      have hlr : r2.length ≤ 62 := by
        rw [List.length_cons, List.length_cons, List.length_cons, List.length_cons] at hlen; omega
      have e3 : w32 ((r2.length : Int) + 2 + (-1)) = (r2.length : Int) + 1 := by rw [w32_id (by omega) (by omega)]; omega
      have e4 : w32 ((r2.length : Int) + 1 - 1) = (r2.length : Int) := by rw [w32_id (by omega) (by omega)]; omega
      have hst1 : μ 25 ((r2.length : Int) + 1) = v := hst.1
      have hst2 : μ 25 r2.length = u := hst.2.1
      rw [hl2, e3, e4, hst1, hst2]
      refine ev_pos (by omega) (ev_neg (by omega) (ev_pos (by omega) (ev_if (by omega) (ev_if (by omega) (ev_call hJ (ev_if (by omega) ?_))))))
      have := key (opf (y i) u v :: r2) (m2 μ 25 r2.length (opf (y i) u v)) (by rw [evS_bin (by omega)]) (fr_m2 hfr (by decide)) (by rw [m2_uPd]; exact Sto_push hst.2.2) ht1
      rw [show ((opf (y i) u v :: r2).length : Int) = (r2.length : Int) + 1 by rw [List.length_cons]; omega] at this
      exact this
theorem sX2_reckon (c : Bool) (fr : Int) (k : Nat) (ask y : Int → Int) (t : Bool) (b : Bool) (μ : Nat → Int → Int) (h0 : 0 ≤ fr) (hto : fr + k ≤ 1600) (ha : ∀ j, 0 ≤ j → j < 5 → 0 ≤ ask j ∧ ask j ≤ 1000) (hf : ∀ j, 0 ≤ j → j < 5 → μ 24 j = ask j) (hc : ∀ j, fr ≤ j → j < fr + k → μ (tw c + 15) j = cOf (y j)) (ht : TyR y k fr [] [t]) : ∀ d, 3 ≤ d → Cal d 152 [mP 23, mP (tw c + 15), mI fr, mI (fr + k)] b μ (fun v μ' => Fr [25] μ μ' ∧ evR ask y k fr [] = [v] ∧ vK t v) := deepC fun d hd => by
  refine cal_ev (fun r => call_X2_reckon d b μ (tw c + 15) fr (fr + k)) ?_
  refine ev_row (fun n => tX2_reckon_0 _ n b μ (tw c + 15) fr (fr + k)) ?_
  exact eX2_reckon hd hto ha hf k fr [] [] none μ h0 rfl hc fr_rfl trivial trivial (by decide) ht
