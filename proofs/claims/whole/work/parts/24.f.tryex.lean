theorem exE_same {b : Bool} {μ μ' : Nat → Int → Int} (h : ∀ a, a ∈ twL b → μ' a = μ a) (h2 : μ' 74 = μ 74) (men : Int → Int) (r : Int × Int) : exE b μ' men r = exE b μ men r := by
  unfold exE
  rw [rtM_same h h2, h (tw b + 1) (by simp [twL])]
theorem fr6_tw {b : Bool} {μ μ' : Nat → Int → Int} (h : Fr [27, 28, 46, 47, 48, 49] μ μ') : ∀ a, a ∈ twL b → μ' a = μ a := fun a ha => h a (by have := twL_or ha; have := tw_or b; simp; omega)
theorem fr6_R {b : Bool} {μ μ' : Nat → Int → Int} (hR : R b μ) (h46 : μ' 46 4 = 0) (h : Fr [27, 28, 46, 47, 48, 49] μ μ') : R b μ' := R_ord hR (fr_sub h (fun a ha => by
  simp only [List.mem_cons, List.not_mem_nil, or_false] at ha
  rcases ha with e | e | e | e | e | e <;> rw [e] <;> decide)) (Or.inl ⟨h 44 (by decide), h 45 (by decide)⟩) (Or.inr h46)
theorem exN_succ (b : Bool) (μ : Nat → Int → Int) (k : Nat) (r : Int × Int) (c : Int) (men : Int → Int) : exN (rtM b μ) (μ (tw b + 1) 2).toNat (k + 1) r c men = if (exE b μ men r).2.1 = -1 then (r, c, men) else exN (rtM b μ) (μ (tw b + 1) 2).toNat k (exE b μ men r).1 (c + 1) (exch men (exE b μ men r).2.1 (exE b μ men r).2.2) := rfl
/-- what is known behind the exchanges -/
def ExD (b : Bool) (μ μ' : Nat → Int → Int) (e : (Int × Int) × Int × (Int → Int)) : Prop := Fr [27, 28, 46, 47, 48, 49] μ μ' ∧ μ' 46 4 = 1 ∧ μ' 46 1 = e.1.1 ∧ μ' 46 2 = e.1.2 ∧ μ' 46 3 = e.2.1 ∧ ∀ g, 0 ≤ g → g < μ (tw b + 1) 2 → μ' 47 g = e.2.2 g
theorem eX5_tryExchanges {d : Nat} (hd : 5 ≤ d) {b : Bool} {μ : Nat → Int → Int} (hR : R b μ) (hpr : ∀ m p, 0 ≤ m → m < μ (tw b + 1) 1 → 0 ≤ p → p < μ (tw b + 1) 3 → μ (32 + m.toNat) p = prA b μ m p) : ∀ (k : Nat) (v : Int) (μ' : Nat → Int → Int) (r : Int × Int) (c : Int) (men : Int → Int), 0 ≤ v → v + k = 100000 → Fr [27, 28, 46, 47, 48, 49] μ μ' → μ' 46 4 = 0 → μ' 46 1 = r.1 → μ' 46 2 = r.2 → μ' 46 3 = c → (0 ≤ c ∧ c ≤ v) → (∀ g, 0 ≤ g → g < μ (tw b + 1) 2 → μ' 47 g = men g) → (∀ g, 0 ≤ g → g < μ (tw b + 1) 2 → 0 ≤ men g ∧ men g < μ (tw b + 1) 1) → Ev (fun n => mRun (mCallN d) kX5_tryExchanges n 40 [some (mP 30), some (mP (tw b)), some (mP 74), some (mP 26), some (mI v)] [] (SH, μ', RHO b)) b (fun _ μ2 => ExD b μ μ2 (exN (rtM b μ) (μ (tw b + 1) 2).toNat k r c men)) := by
  have hCn := hR.1.1
  obtain ⟨⟨z1, z2, z3⟩, ⟨w1, w2, w3⟩, ⟨y1, y2, y3⟩, ⟨x1, x2, x3⟩⟩ := hCn
  have fin : ∀ (v : Int) (μ' : Nat → Int → Int) (r : Int × Int) (c : Int) (men : Int → Int), Fr [27, 28, 46, 47, 48, 49] μ μ' → μ' 46 1 = r.1 → μ' 46 2 = r.2 → μ' 46 3 = c → (∀ g, 0 ≤ g → g < μ (tw b + 1) 2 → μ' 47 g = men g) → Ev (fun n => mRun (mCallN d) kX5_tryExchanges n 76 [some (mP 30), some (mP (tw b)), some (mP 74), some (mP 26), some (mI v)] [] (SH, μ', RHO b)) b (fun _ μ2 => ExD b μ μ2 (r, c, men)) := fun v μ' r c men hf s1 s2 s3 hmen => by
    refine ev_row (fun n => tX5_tryExchanges_76 _ n b μ' v 74 b) (ev_ret ⟨fr_m2 hf (by decide), ?_, ?_, ?_, ?_, fun g g0 g1 => ?_⟩)
    · rw [m2_at, if_pos rfl]
    · rw [m2_at, if_neg (by decide)]; exact s1
    · rw [m2_at, if_neg (by decide)]; exact s2
    · rw [m2_at, if_neg (by decide)]; exact s3
    · rw [m2_ne (by decide)]; exact hmen g g0 g1
  intro k
  induction k with
  | zero =>
    intro v μ' r c men v0 hk hf h4 s1 s2 s3 hc hmen hin
    exact ev_row (fun n => tX5_tryExchanges_40 _ n b μ' v 74 b) (ev_neg (by omega) (fin v μ' r c men hf s1 s2 s3 hmen))
  | succ k ih =>
    intro v μ' r c men v0 hk hf h4 s1 s2 s3 hc hmen hin
    have kt := fr6_tw (b := b) hf
    have k1 := kt (tw b + 1) (by simp [twL])
    have k74 : μ' 74 = μ 74 := hf 74 (by decide)
    have hRm := fr6_R hR h4 hf
    have e1 : w32 (v + 1) = v + 1 := w32_id (by omega) (by omega)
    have hBe := sX5_betterExchange b μ' hRm h4 (fun m p m0 m1 p0 p1 => by
      rw [k1] at m1 p1
      rw [prA_same kt k74, hf (32 + m.toNat) (by simp; omega)]; exact hpr m p m0 m1 p0 p1) (fun g g0 g1 => by
      rw [k1] at g1 ⊢
      rw [hmen g g0 g1]; exact hin g g0 g1) d hd
    have hE : exE b μ' (μ' 47) (μ' 46 1, μ' 46 2) = exE b μ men r := by
      rw [exE_same kt k74, s1, s2]; exact exE_congr _ y2 hmen
    rw [hE, k1, s1, s2] at hBe
    refine ev_row (fun n => tX5_tryExchanges_40 _ n b μ' v 74 b) (ev_pos (by omega) (ev_callP hBe (fun v1 μ1 ⟨f1, j1, q1, q2, h1⟩ => ?_)))
    have hf1 : Fr [27, 28, 46, 47, 48, 49] μ μ1 := fr_tr hf f1 (fun a ha => ha)
    rw [exN_succ]
    rcases h1 with ⟨a1, a2, a3⟩ | ⟨a1, a2, a3⟩
    · rw [if_pos (by rw [a1])]
      refine ev_pos (show v1 = 0 from a2) (fin v μ1 r c men hf1 ?_ ?_ ?_ (fun g g0 g1 => by rw [a3]; exact hmen g g0 g1))
      · rw [q1, a1]
      · rw [q2, a1]
      · rw [j1 3 (by decide) (by decide)]; exact s3
    · rw [if_neg (by omega)]
      refine ev_neg (by show ¬ v1 = 0; omega) ?_
      dsimp only
      rw [e1]
      refine ih (v + 1) _ _ (c + 1) _ (by omega) (by omega) (fr_m2 hf1 (by decide)) ?_ ?_ ?_ ?_ (by omega) (fun g g0 g1 => ?_) (fun g g0 g1 => ?_)
      · rw [m2_at, if_neg (by decide), j1 4 (by decide) (by decide)]; exact h4
      · rw [m2_at, if_neg (by decide)]; exact q1
      · rw [m2_at, if_neg (by decide)]; exact q2
      · rw [m2_at, if_pos rfl, j1 3 (by decide) (by decide), s3, w32_id (by omega) (by omega)]
      · rw [m2_ne (by decide), a3 g, exch_at, exch_at, hmen _ a1.1.1 a1.1.2, hmen _ a1.2.1 a1.2.2, hmen g g0 g1]
      · rw [exch_at]
        by_cases c1 : g = (exE b μ men r).2.2
        · rw [if_pos c1]; exact hin _ a1.1.1 a1.1.2
        · rw [if_neg c1]
          by_cases c2 : g = (exE b μ men r).2.1
          · rw [if_pos c2]; exact hin _ a1.2.1 a1.2.2
          · rw [if_neg c2]; exact hin g g0 g1
theorem sX5_tryExchanges (b : Bool) (μ : Nat → Int → Int) (hR : R b μ) (h46 : μ 46 4 = 0) (hpr : ∀ m p, 0 ≤ m → m < μ (tw b + 1) 1 → 0 ≤ p → p < μ (tw b + 1) 3 → μ (32 + m.toNat) p = prA b μ m p) : ∀ d, 6 ≤ d → Cal d 189 [mP 30, mP (tw b), mP 74, mP 26] b μ (fun _ μ' => ExD b μ μ' (exR b μ)) := deepC fun d hd => by
  have hCn := hR.1.1
  obtain ⟨⟨z1, z2, z3⟩, ⟨w1, w2, w3⟩, ⟨y1, y2, y3⟩, ⟨x1, x2, x3⟩⟩ := hCn
  have hs74 : shp 74 = (0, 62) := rfl
  have hs47 : shp 47 = (0, 12) := rfl
  have hfc : Fr [27, 28, 46, 47, 48, 49] μ (mCp μ 74 47 2 0 12) := fun a ha => mCp_ne (fun e => ha (by rw [e]; decide))
  have h4c : (mCp μ 74 47 2 0 12) 46 4 = 0 := by rw [mCp_ne (by decide)]; exact h46
  have ktc := fr6_tw (b := b) hfc
  have k1c := ktc (tw b + 1) (by simp [twL])
  have k74c : (mCp μ 74 47 2 0 12) 74 = μ 74 := mCp_ne (by decide)
  have hmc : ∀ g, 0 ≤ g → g < μ (tw b + 1) 2 → (mCp μ 74 47 2 0 12) 47 g = μ 74 (2 + g) := fun g g0 g1 => by
    rw [mCp_at, if_pos (by omega), show 2 + (g - 0) = 2 + g by omega]
  have hin : ∀ g, 0 ≤ g → g < μ (tw b + 1) 2 → 0 ≤ μ 74 (2 + g) ∧ μ 74 (2 + g) < μ (tw b + 1) 1 := hR.2.1.2.2.1
  have hRt := sX3_rate_46 b _ (fr6_R hR h4c hfc) h4c (fun m p m0 m1 p0 p1 => by
    rw [k1c] at m1 p1
    rw [prA_same ktc k74c, hfc (32 + m.toNat) (by simp; omega)]; exact hpr m p m0 m1 p0 p1) (fun g g0 g1 => by
    rw [k1c] at g1 ⊢
    rw [hmc g g0 g1]; exact hin g g0 g1) d (by omega)
  rw [rtM_same ktc k74c, rtM_congr (men := fun g => μ 74 (2 + g)) hmc] at hRt
  refine cal_ev (fun r => call_X5_tryExchanges d b μ 74 b) (ev_row (fun n => tX5_tryExchanges_0 _ n b μ 74 b) (ev_bif (by rw [arr_of hs74, arr_of hs47]; rfl) (ev_if (by rw [shape_of hs74]; decide) (ev_callP hRt (fun _ μ1 ⟨f1, j1, q1, q2⟩ => ?_)))))
  have hf1 : Fr [27, 28, 46, 47, 48, 49] μ μ1 := fr_tr hfc f1 (fun a ha => by
    simp only [List.mem_cons, List.not_mem_nil, or_false] at ha ⊢
    omega)
  refine eX5_tryExchanges (by omega) hR hpr 100000 0 _ (rtM b μ (fun g => μ 74 (2 + g))) 0 (fun g => μ 74 (2 + g)) (by decide) (by decide) (fr_m2 hf1 (by decide)) ?_ ?_ ?_ ?_ ⟨by decide, by decide⟩ (fun g g0 g1 => ?_) hin
  · dsimp only
    rw [m2_at, if_neg (by decide), j1 4 (by decide) (by decide)]; exact h4c
  · dsimp only
    rw [m2_at, if_neg (by decide)]; exact q1
  · dsimp only
    rw [m2_at, if_neg (by decide)]; exact q2
  · dsimp only
    rw [m2_at, if_pos rfl]
  · dsimp only
    rw [m2_ne (by decide), f1 47 (by decide)]; exact hmc g g0 g1
