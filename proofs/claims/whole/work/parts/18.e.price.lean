/-! ===== prices ===== -/
def valR (ask y : Int → Int) (fr to : Int) : Int := (evR ask y (to - fr).toNat fr []).headD 0
def askF (t h q w e : Int) : Int → Int := fun j => if j = 0 then t else if j = 1 then h else if j = 2 then q else if j = 3 then w else e
def plain (ask y : Int → Int) (tf te be : Int) : Int := if valR ask y tf te = 1 then 0 else if valR ask y te be < 0 then 0 else if 99 < valR ask y te be then 99 else valR ask y te be
def prc (b : Bool) (μ : Nat → Int → Int) (f : Int → Int) (m p t : Int) : Int := if μ (tw b + 7) m ≤ f (14 + m) ∨ bI (f (56 + p)) m = true then 0 else plain (askF t (f 1) (f (14 + m)) p (f 0)) (fun j => μ 126 (1600 + j)) (μ (tw b + 16) m) (μ (tw b + 17) m) (μ (tw b + 18) m)
def Rcod (b : Bool) (μ : Nat → Int → Int) : Prop := ∀ m, 0 ≤ m → m < μ (tw b + 1) 1 → (μ 128 (12 + m) = μ (tw b + 16) m ∧ μ 129 (12 + m) = μ (tw b + 17) m ∧ μ 130 (12 + m) = μ (tw b + 18) m) ∧ 0 ≤ μ (tw b + 16) m ∧ μ (tw b + 16) m ≤ μ (tw b + 17) m ∧ μ (tw b + 17) m ≤ μ (tw b + 18) m ∧ μ (tw b + 18) m ≤ 1600 ∧ (∀ j, μ (tw b + 16) m ≤ j → j < μ (tw b + 18) m → μ (tw b + 15) j = cOf (μ 126 (1600 + j))) ∧ TyR (fun j => μ 126 (1600 + j)) (μ (tw b + 17) m - μ (tw b + 16) m).toNat (μ (tw b + 16) m) [] [true] ∧ TyR (fun j => μ 126 (1600 + j)) (μ (tw b + 18) m - μ (tw b + 17) m).toNat (μ (tw b + 17) m) [] [false]
/-- a row of the things that change, by itself -/
def rowA (f : Int → Int) : Prop := (0 ≤ f 0 ∧ f 0 ≤ 999) ∧ (0 ≤ f 1 ∧ f 1 ≤ 23) ∧ (∀ m, 0 ≤ m → m < 12 → 0 ≤ f (14 + m) ∧ f (14 + m) ≤ 200) ∧ (∀ p, 0 ≤ p → p < 6 → 0 ≤ f (56 + p) ∧ f (56 + p) < 4096)
theorem askF_in {t h q w e : Int} (h1 : 0 ≤ t ∧ t ≤ 1000) (h2 : 0 ≤ h ∧ h ≤ 1000) (h3 : 0 ≤ q ∧ q ≤ 1000) (h4 : 0 ≤ w ∧ w ≤ 1000) (h5 : 0 ≤ e ∧ e ≤ 1000) : ∀ j, 0 ≤ j → j < 5 → 0 ≤ askF t h q w e j ∧ askF t h q w e j ≤ 1000 := fun j _ _ => by
  unfold askF
  (repeat' split) <;> assumption
theorem plain_in (ask y : Int → Int) (tf te be : Int) : 0 ≤ plain ask y tf te be ∧ plain ask y tf te be ≤ 99 := by
  unfold plain
  (repeat' split) <;> omega
theorem prc_in (b : Bool) (μ : Nat → Int → Int) (f : Int → Int) (m p t : Int) : 0 ≤ prc b μ f m p t ∧ prc b μ f m p t ≤ 99 := by
  unfold prc
  split
  · omega
  · exact plain_in _ _ _ _ _
theorem sX2_setFacts (t h q w e : Int) (b : Bool) (μ : Nat → Int → Int) : ∀ d, 1 ≤ d → Cal d 153 [mP 23, mI t, mI h, mI q, mI w, mI e] b μ (fun _ μ' => Fr [24] μ μ' ∧ ∀ j, 0 ≤ j → j < 5 → μ' 24 j = askF t h q w e j) := deepC fun d hd => by
  refine cal_ev (fun r => call_X2_setFacts d b μ t h q w e) ?_
  refine ev_row (fun n => tX2_setFacts_0 _ n b μ t h q w e) (ev_ret ⟨fr_m2 (fr_m2 (fr_m2 (fr_m2 (fr_m2 fr_rfl (by decide)) (by decide)) (by decide)) (by decide)) (by decide), fun j h0 h1 => ?_⟩)
  have hj : j = 0 ∨ j = 1 ∨ j = 2 ∨ j = 3 ∨ j = 4 := by omega
  unfold askF
  rcases hj with e | e | e | e | e <;> subst e <;> simp [m2_at]
theorem sX2_priceByFacts (m : Int) (ask : Int → Int) (b : Bool) (μ : Nat → Int → Int) (hm : 0 ≤ m) (hm1 : m < 12) (hm2 : m < μ (tw b + 1) 1) (hR : Rcod b μ) (ha : ∀ j, 0 ≤ j → j < 5 → 0 ≤ ask j ∧ ask j ≤ 1000) (hf : ∀ j, 0 ≤ j → j < 5 → μ 24 j = ask j) : ∀ d, 4 ≤ d → Cal d 150 [mP 23, mP (tw b), mI m] b μ (fun v μ' => Fr [25] μ μ' ∧ v = plain ask (fun j => μ 126 (1600 + j)) (μ (tw b + 16) m) (μ (tw b + 17) m) (μ (tw b + 18) m)) := deepC fun d hd => by
  obtain ⟨-, h1, h2, h3, h4, h5, h6, h7⟩ := hR m hm hm2
  refine cal_ev (fun r => call_X2_priceByFacts d b μ m b) ?_
  have cm : 0 ≤ m ∧ m < 12 := ⟨hm, hm1⟩
  have hA := sX2_reckon b (μ (tw b + 16) m) (μ (tw b + 17) m - μ (tw b + 16) m).toNat ask (fun j => μ 126 (1600 + j)) true b μ h1 (by omega) ha hf (fun j j0 j1 => h5 j j0 (by omega)) h6 d hd
  rw [show μ (tw b + 16) m + ((μ (tw b + 17) m - μ (tw b + 16) m).toNat : Int) = μ (tw b + 17) m by omega] at hA
  refine ev_row (fun n => tX2_priceByFacts_0 _ n b μ m b) (ev_if cm (ev_if cm (ev_callP hA (fun v μ1 ⟨hf1, he1, hk1⟩ => ?_))))
  have hne : ∀ a, a ≠ 25 → μ1 a = μ a := fun a h => hf1 a (by simpa using h)
  have hv1 : valR ask (fun j => μ 126 (1600 + j)) (μ (tw b + 16) m) (μ (tw b + 17) m) = v := by unfold valR; rw [he1]; rfl
  unfold plain
  refine ev_br (fun e => ?_) (fun e => ?_)
  · exact ev_ret ⟨hf1, by rw [hv1, if_pos (show v = 1 from e)]⟩
  · refine ev_if cm (ev_if cm ?_)
    dsimp only
    rw [hne (tw b + 17) (by have := tw_or b; omega), hne (tw b + 18) (by have := tw_or b; omega)]
    have hB := sX2_reckon b (μ (tw b + 17) m) (μ (tw b + 18) m - μ (tw b + 17) m).toNat ask (fun j => μ 126 (1600 + j)) false b μ1 (by omega) (by omega) ha (by rw [hne 24 (by decide)]; exact hf) (fun j j0 j1 => by rw [hne _ (by have := tw_or b; omega)]; exact h5 j (by omega) (by omega)) h7 d hd
    rw [show μ (tw b + 17) m + ((μ (tw b + 18) m - μ (tw b + 17) m).toNat : Int) = μ (tw b + 18) m by omega] at hB
    refine ev_callP hB (fun v2 μ2 ⟨hf2, he2, hk2⟩ => ?_)
    have hv2 : valR ask (fun j => μ 126 (1600 + j)) (μ (tw b + 17) m) (μ (tw b + 18) m) = v2 := by unfold valR; rw [he2]; rfl
    refine ev_call (sJ9_min 99 v2 b μ2 d (by omega)) (ev_call (sJ9_max 0 _ b μ2 d (by omega)) (ev_ret ⟨fr_tr hf1 hf2 (fun a h => h), ?_⟩))
    rw [hv1, if_neg (show ¬ v = 1 from e), hv2]
    dsimp only
    (repeat' split) <;> omega
theorem bit_t01 {s m : Int} (h1 : 0 ≤ s) (h2 : s < 4096) (h3 : 0 ≤ m) (h4 : m < 31) : t01 (iAnd (iShr s m) 1 = 1) = t01 (bI s m = true) := t01_congr (by
  rw [bit_iff h1 (by omega) h3 h4]
  cases bI s m <;> simp)
theorem sX2_price (a : Nat) (m p t : Int) (b : Bool) (μ : Nat → Int → Int) (hs : shp a = (0, 62)) (ha1 : a ≠ 24) (ha2 : a ≠ 25) (hm : 0 ≤ m) (hm1 : m < 12) (hm2 : m < μ (tw b + 1) 1) (hp0 : 0 ≤ p) (hp1 : p < 6) (ht : 0 ≤ t ∧ t ≤ 99) (hR : Rcod b μ) (hr : rowA (μ a)) : ∀ d, 5 ≤ d → Cal d 148 [mP 23, mP (tw b), mP a, mI m, mI p, mI t] b μ (fun v μ' => Fr [24, 25] μ μ' ∧ v = prc b μ (μ a) m p t) := deepC fun d hd => by
  obtain ⟨r0, r1, r2, r3⟩ := hr
  refine cal_ev (fun r => call_X2_price d b μ a m p t b) ?_
  have hF := sX7_hasFainted b a m b μ hs hm hm1 d (by omega)
  have hA := sX7_areFriends a p m b μ hs hp0 hp1 d (by omega)
  rw [bit_t01 (r3 p hp0 hp1).1 (r3 p hp0 hp1).2 hm (by omega)] at hA
  have hq := r2 m hm hm1
  unfold prc
  refine ev_row (fun n => tX2_price_0 _ n b μ a m p t b) ?_
  by_cases e1 : μ (tw b + 7) m ≤ μ a (14 + m)
  · rw [t01_pos e1] at hF
    refine ev_call hF (ev_neg (by show ¬ ((1 : Int) = 0); decide) ?_)
    exact ev_row (fun n => tX2_price_19 _ n b μ m p t a b) (ev_ret ⟨fr_rfl, by rw [if_pos (Or.inl e1)]⟩)
  · rw [t01_neg e1] at hF
    refine ev_call hF (ev_pos rfl ?_)
    by_cases e2 : bI (μ a (56 + p)) m = true
    · rw [t01_pos e2] at hA
      refine ev_call hA (ev_neg (by show ¬ ((1 : Int) = 0); decide) ?_)
      exact ev_row (fun n => tX2_price_19 _ n b μ m p t a b) (ev_ret ⟨fr_rfl, by rw [if_pos (Or.inr e2)]⟩)
    · rw [t01_neg e2] at hA
      have hsh : mShape (SH, μ, RHO b) a = (0, 62) := shape_of hs
      have e14 : w32 (14 + m) = 14 + m := w32_id (by omega) (by omega)
      refine ev_call hA (ev_pos rfl (ev_bif (arr_of hs) (ev_if ?_ (ev_bif (arr_of hs) (ev_if ?_ (ev_bif (arr_of hs) (ev_if ?_ ?_)))))))
      · dsimp only; rw [hsh]; decide
      · dsimp only; rw [hsh, e14]; show 0 ≤ 14 + m ∧ 14 + m < ((62 : Nat) : Int); omega
      · dsimp only; rw [hsh]; decide
      dsimp only
      rw [e14]
      refine ev_callP (sX2_setFacts t (μ a 1) (μ a (14 + m)) p (μ a 0) b μ d (by omega)) (fun _ μ1 ⟨hf1, hk1⟩ => ?_)
      have hne : ∀ a, a ≠ 24 → μ1 a = μ a := fun a h => hf1 a (by simpa using h)
      have hR1 : Rcod b μ1 := by
        intro m
        rw [hne (tw b + 1) (by have := tw_or b; omega), hne (tw b + 16) (by have := tw_or b; omega), hne (tw b + 17) (by have := tw_or b; omega), hne (tw b + 18) (by have := tw_or b; omega), hne (tw b + 15) (by have := tw_or b; omega), hne 128 (by decide), hne 129 (by decide), hne 130 (by decide), hne 126 (by decide)]
        exact hR m
      refine ev_callP (sX2_priceByFacts m (askF t (μ a 1) (μ a (14 + m)) p (μ a 0)) b μ1 hm hm1 (by rw [hne (tw b + 1) (by have := tw_or b; omega)]; exact hm2) hR1 (askF_in (by omega) (by omega) (by omega) (by omega) (by omega)) hk1 d hd) (fun v μ2 ⟨hf2, hv⟩ => ev_ret ⟨fr_tr (fr_sub hf1 (by simp)) hf2 (by simp), ?_⟩)
      rw [if_neg (by rintro (h | h); exact e1 h; exact e2 h)]
      rw [hne (tw b + 16) (by have := tw_or b; omega), hne (tw b + 17) (by have := tw_or b; omega), hne (tw b + 18) (by have := tw_or b; omega), hne 126 (by decide)] at hv
      exact hv
