/-! ===== standings: all prices ===== -/
theorem ev_opt {o : Option Nat} {q : Nat} {A : Nat → Nat → mRes} {b : Bool} {Q : Int → (Nat → Int → Int) → Prop} (h : o = some q) (h2 : Ev (A q) b Q) : Ev (fun n => mOpt o (fun x => A x n)) b Q := by
  subst h
  exact h2
theorem rho31 {b : Bool} {i : Int} (h0 : 0 ≤ i) (h1 : i < 12) : RHO b 31 i = some (32 + i.toNat) := by
  show rhG 31 12 i = _
  unfold rhG
  rw [if_pos ⟨h0, h1⟩]
theorem shp_pr {j : Nat} (h : j < 12) : shp (32 + j) = (0, 6) := by
  have H : ∀ j : Fin 12, shp (32 + j.1) = (0, 6) := by decide
  exact H ⟨j, h⟩
def prL : List Nat := [24, 25, 32, 33, 34, 35, 36, 37, 38, 39, 40, 41, 42, 43]
theorem prL_in {j : Nat} (h : j < 12) : 32 + j ∈ prL := by
  have H : ∀ j : Fin 12, 32 + j.1 ∈ prL := by decide
  exact H ⟨j, h⟩
def prA (b : Bool) (μ : Nat → Int → Int) (m p : Int) : Int := prc b μ (μ 74) m p (μ (tw b + 14) p)
theorem prA_same {b : Bool} {μ μ' : Nat → Int → Int} (h : ∀ a, a ∈ twL b → μ' a = μ a) (h2 : μ' 74 = μ 74) : prA b μ' = prA b μ := by
  funext m p
  unfold prA
  rw [prc_same h, h2, h (tw b + 14) (by simp [twL])]
/-- the prices so far: all of the men before i, those of i before j -/
def Prs (b : Bool) (μ0 μ : Nat → Int → Int) (i j : Int) : Prop := ∀ m p, 0 ≤ m → m < 12 → 0 ≤ p → p < μ0 (tw b + 1) 3 → (m < i ∨ (m = i ∧ p < j)) → μ (32 + m.toNat) p = prA b μ0 m p
theorem eX2_priceAll_17 {d : Nat} (hd : 5 ≤ d) {b : Bool} {μ0 : Nat → Int → Int} (hR : R b μ0) {i : Int} (i0 : 0 ≤ i) (i1 : i < μ0 (tw b + 1) 1) {Q : Int → (Nat → Int → Int) → Prop} : ∀ (k : Nat) (j : Int) (μ : Nat → Int → Int), 0 ≤ j → j + k = μ0 (tw b + 1) 3 → Fr prL μ0 μ → Prs b μ0 μ i j → (∀ v5 μ', Fr prL μ0 μ' → Prs b μ0 μ' (i + 1) 0 → Ev (fun n => mRun (mCallN d) kX2_priceAll n 3 [some (mP 23), some (mP (tw b)), some (mP 74), some (mP 31), some (mI (i + 1)), some (mI v5)] [] (SH, μ', RHO b)) b Q) → Ev (fun n => mRun (mCallN d) kX2_priceAll n 17 [some (mP 23), some (mP (tw b)), some (mP 74), some (mP 31), some (mI i), some (mI j)] [] (SH, μ, RHO b)) b Q := by
  have hCn := hR.1.1
  obtain ⟨⟨z1, z2, z3⟩, ⟨w1, w2, w3⟩, ⟨y1, y2, y3⟩, ⟨x1, x2, x3⟩⟩ := hCn
  intro k
  induction k with
  | zero =>
    intro j μ h0 hk hf hP hK
    have hs := fr_sc hf (sub_C (by decide))
    have kt := scC_tw (b := b) hs
    have e1 : w32 (i + 1) = i + 1 := w32_id (by omega) (by omega)
    refine ev_row (fun n => tX2_priceAll_17 _ n b μ i j 74 b) (ev_neg (by rw [kt (tw b + 1) (by simp [twL])]; omega) ?_)
    rw [e1]
    exact hK j μ hf (fun m p m0 m1 p0 p1 h => hP m p m0 m1 p0 p1 (by omega))
  | succ k ih =>
    intro j μ h0 hk hf hP hK
    have hs := fr_sc hf (sub_C (by decide))
    have kt := scC_tw (b := b) hs
    have hRm := R_cls hs hR
    have k74 : μ 74 = μ0 74 := hf 74 (by decide)
    have k14 := kt (tw b + 14) (by simp [twL])
    have k1 := kt (tw b + 1) (by simp [twL])
    have e1 : w32 (j + 1) = j + 1 := w32_id (by omega) (by omega)
    have ht := hR.1.2.2.2.2.1 j h0 (by omega)
    have hPr := sX2_price 74 i j (μ0 (tw b + 14) j) b μ rfl (by decide) (by decide) i0 (by omega) (by rw [k1]; omega) h0 (by omega) (by omega) (R_cod hRm) (R_rowA hRm) d hd
    have hsh := shp_pr (j := i.toNat) (by omega)
    refine ev_row (fun n => tX2_priceAll_17 _ n b μ i j 74 b) (ev_pos (by rw [k1]; omega) (ev_if (by omega) (ev_opt (rho31 i0 (by omega)) (ev_if (by omega) ?_))))
    rw [k14]
    refine ev_callP hPr (fun v μ1 ⟨f1, h1⟩ => ev_bif (arr_of hsh) (ev_if (by rw [shape_of hsh]; omega) ?_))
    dsimp only
    rw [e1]
    have hf1 : Fr prL μ0 μ1 := fr_tr hf f1 (fun a ha => by
      have : a = 24 ∨ a = 25 := by simpa using ha
      rcases this with e | e <;> rw [e] <;> decide)
    refine ih (j + 1) _ (by omega) (by omega) (fr_m2 hf1 (prL_in (by omega))) (fun m p m0 m1 p0 p1 h => ?_) hK
    by_cases e : m = i
    · rw [e, m2_at]
      by_cases q : p = j
      · rw [if_pos q, q, h1, prc_same kt, k74]; rfl
      · rw [if_neg q, f1 (32 + i.toNat) (by simp; omega)]
        exact hP i p i0 (by omega) p0 p1 (by omega)
    · rw [m2_ne (by omega), f1 (32 + m.toNat) (by simp; omega)]
      exact hP m p m0 m1 p0 p1 (by omega)
theorem sX2_priceAll (b : Bool) (μ : Nat → Int → Int) (hR : R b μ) : ∀ d, 6 ≤ d → Cal d 149 [mP 23, mP (tw b), mP 74, mP 31] b μ (fun _ μ' => Fr prL μ μ' ∧ ∀ m p, 0 ≤ m → m < μ (tw b + 1) 1 → 0 ≤ p → p < μ (tw b + 1) 3 → μ' (32 + m.toNat) p = prA b μ m p) := deepC fun d hd => by
  have hCn := hR.1.1
  obtain ⟨⟨z1, z2, z3⟩, ⟨w1, w2, w3⟩, ⟨y1, y2, y3⟩, ⟨x1, x2, x3⟩⟩ := hCn
  have lp : ∀ (k : Nat) (i : Int) (v5 : Option mV) (μ' : Nat → Int → Int), 0 ≤ i → i + k = μ (tw b + 1) 1 → Fr prL μ μ' → Prs b μ μ' i 0 → Ev (fun n => mRun (mCallN d) kX2_priceAll n 3 [some (mP 23), some (mP (tw b)), some (mP 74), some (mP 31), some (mI i), v5] [] (SH, μ', RHO b)) b (fun _ μ' => Fr prL μ μ' ∧ ∀ m p, 0 ≤ m → m < μ (tw b + 1) 1 → 0 ≤ p → p < μ (tw b + 1) 3 → μ' (32 + m.toNat) p = prA b μ m p) := by
    intro k
    induction k with
    | zero =>
      intro i v5 μ' h0 hk hf hP
      have kt := scC_tw (b := b) (fr_sc hf (sub_C (by decide)))
      exact ev_row (fun n => tX2_priceAll_3 _ n b μ' i v5 74 b) (ev_neg (by rw [kt (tw b + 1) (by simp [twL])]; omega) (ev_ret ⟨hf, fun m p m0 m1 p0 p1 => hP m p m0 (by omega) p0 p1 (by omega)⟩))
    | succ k ih =>
      intro i v5 μ' h0 hk hf hP
      have kt := scC_tw (b := b) (fr_sc hf (sub_C (by decide)))
      refine ev_row (fun n => tX2_priceAll_3 _ n b μ' i v5 74 b) (ev_pos (by rw [kt (tw b + 1) (by simp [twL])]; omega) ?_)
      exact eX2_priceAll_17 (by omega) hR h0 (by omega) (μ (tw b + 1) 3).toNat 0 μ' (by decide) (by omega) hf hP (fun v5' μ2 hf2 hP2 => ih (i + 1) _ μ2 (by omega) (by omega) hf2 hP2)
  refine cal_ev (fun r => call_X2_priceAll d b μ 74 b) (ev_row (fun n => tX2_priceAll_0 _ n b μ 74 b) ?_)
  exact lp (μ (tw b + 1) 1).toNat 0 none μ (by decide) (by omega) fr_rfl (fun m p m0 m1 p0 p1 h => absurd h (by omega))
