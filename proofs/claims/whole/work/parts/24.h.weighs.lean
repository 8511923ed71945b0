/-! ===== what an order comes to, in the reference ===== -/
def ratF (b : Bool) (μ : Nat → Int → Int) (f : Int → Int) (k : Nat) : Int × Int := ratP (fun m p => prc b μ f m p (μ 134 p)) (μ (tw b + 8)) (μ (tw b + 9)) (μ (tw b + 1) 2).toNat f (fun g => f (2 + g)) k
theorem ratF_succ (b : Bool) (μ : Nat → Int → Int) (f : Int → Int) (k : Nat) : ratF b μ f (k + 1) = if dstN b μ (fun g => prc b μ f (f (2 + g)) k (μ 134 k)) (f (38 + k)) (f (44 + k)) ≤ f (50 + k) then ((ratF b μ f k).1 + 1, (ratF b μ f k).2 + dstN b μ (fun g => prc b μ f (f (2 + g)) k (μ 134 k)) (f (38 + k)) (f (44 + k))) else ratF b μ f k := rfl
theorem ratF_in {b : Bool} {μ : Nat → Int → Int} {f : Int → Int} (hO : RefOK b μ f) : ∀ k : Nat, (k : Int) ≤ μ (tw b + 1) 3 → (0 ≤ (ratF b μ f k).1 ∧ (ratF b μ f k).1 ≤ k) ∧ (0 ≤ (ratF b μ f k).2 ∧ (ratF b μ f k).2 ≤ 9999 * k)
  | 0, _ => ⟨⟨Int.le_refl _, Int.le_refl _⟩, ⟨Int.le_refl _, Int.le_refl _⟩⟩
  | k + 1, hk => by
    obtain ⟨⟨a0, a1⟩, ⟨b0, b1⟩⟩ := ratF_in hO k (by omega)
    obtain ⟨-, c1, c2, c3⟩ := hO.2.2.2.2.2.2.2 k (by omega) (by omega)
    have hD : 0 ≤ dstN b μ (fun g => prc b μ f (f (2 + g)) k (μ 134 k)) (f (38 + k)) (f (44 + k)) := dst_ge (Rgat_ok (w := fun g => prc b μ f (f (2 + g)) k (μ 134 k)) hO.1 hO.2.2.2.1 (fun g _ _ => by have := (prc_in b μ f (f (2 + g)) k (μ 134 k)).1; show -1 ≤ prc _ _ _ _ _ _; omega)) c1.1 c1.2 c2.1 c2.2
    rw [ratF_succ]
    by_cases e : dstN b μ (fun g => prc b μ f (f (2 + g)) k (μ 134 k)) (f (38 + k)) (f (44 + k)) ≤ f (50 + k)
    · rw [if_pos e]
      exact ⟨⟨by show 0 ≤ (ratF b μ f k).1 + 1; omega, by show (ratF b μ f k).1 + 1 ≤ _; omega⟩, ⟨by show 0 ≤ (ratF b μ f k).2 + _; omega, by show (ratF b μ f k).2 + _ ≤ _; omega⟩⟩
    · rw [if_neg e]; omega
def wgL : List Nat := [131, 132, 135, 136, 137]
def wgJ : List Int := [50, 61, 62]
theorem wg_tw {b : Bool} {μ μ' : Nat → Int → Int} {L : List Nat} {J : List Int} (h : Fg L J μ μ') (hL : ∀ a, a ∈ L → a ∈ wgL) : ∀ a, a ∈ twL b → μ' a = μ a := fun a ha => h.1 a (fun hm => by
  have := hL a hm
  unfold wgL at this
  simp only [List.mem_cons, List.not_mem_nil, or_false] at this
  have := twL_or ha
  have := tw_or b
  omega) (by have := twL_or ha; have := tw_or b; omega)
theorem sX10_weighs (f : Int → Int) (b : Bool) (μ : Nat → Int → Int) (hO : RefOK b μ f) : ∀ d, 7 ≤ d → Cal d 132 [mP 96] b μ (fun _ μ' => Fg wgL wgJ μ μ' ∧ μ' 96 61 = (ratF b μ f (μ (tw b + 1) 3).toNat).1 ∧ μ' 96 62 = (ratF b μ f (μ (tw b + 1) 3).toNat).2) := deepC fun d hd => by
  have hCn := hO.1
  obtain ⟨⟨z1, z2, z3⟩, ⟨w1, w2, w3⟩, ⟨y1, y2, y3⟩, ⟨x1, x2, x3⟩⟩ := hCn
  have KO : ∀ {μ' : Nat → Int → Int}, Fg wgL wgJ μ μ' → RefOK b μ' f := fun {μ'} h => by
    have ht := wg_tw (b := b) h (fun a ha => ha)
    refine RefOK_same (fun a ha _ => ht a ha) ?_ (fun p p0 p1 => ?_) hO
    · rw [h.1 133 (by decide) (by decide)]; exact hO.2.2.2.2.1
    · rw [h.1 134 (by decide) (by decide)]; exact (hO.2.2.2.2.2.2.2 p p0 p1).1
  have lp : ∀ (r k : Nat) (μ' : Nat → Int → Int), (k : Int) + r = μ (tw b + 1) 3 → Fg wgL wgJ μ μ' → μ' 96 61 = (ratF b μ f k).1 → μ' 96 62 = (ratF b μ f k).2 → Ev (fun n => mRun (mCallN d) kX10_weighs n 12 [some (mP 96), some (mI k)] [] (SH, μ', RHO b)) b (fun _ μ' => Fg wgL wgJ μ μ' ∧ μ' 96 61 = (ratF b μ f (μ (tw b + 1) 3).toNat).1 ∧ μ' 96 62 = (ratF b μ f (μ (tw b + 1) 3).toNat).2) := by
    intro r
    induction r with
    | zero =>
      intro k μ' hr hf s1 s2
      have hk : (μ (tw b + 1) 3).toNat = k := by omega
      have k120 : μ' 120 = μ 120 := hf.1 120 (by decide) (by decide)
      refine ev_row (fun n => tX10_weighs_12 _ n b μ' k) (ev_call (sX10_personMany b μ' d (by omega)) (ev_neg (by show ¬ ((k : Int) < μ' 120 6); rw [k120]; omega) (ev_ret ⟨hf, ?_, ?_⟩)))
      · rw [hk]; exact s1
      · rw [hk]; exact s2
    | succ r ih =>
      intro k μ' hr hf s1 s2
      have k120 : μ' 120 = μ 120 := hf.1 120 (by decide) (by decide)
      have k134 : μ' 134 = μ 134 := hf.1 134 (by decide) (by decide)
      have ht := wg_tw (b := b) hf (fun a ha => ha)
      have k1 := ht (tw b + 1) (by simp [twL])
      have E1 : ∀ _ : True, w32 ((k : Int) + 1) = (k : Int) + 1 := fun _ => w32_id (by omega) (by omega)
      obtain ⟨⟨n0, n1⟩, ⟨o0, o1⟩⟩ := ratF_in hO k (by omega)
      obtain ⟨-, c1, c2, c3⟩ := hO.2.2.2.2.2.2.2 k (by omega) (by omega)
      refine ev_row (fun n => tX10_weighs_12 _ n b μ' k) (ev_call (sX10_personMany b μ' d (by omega)) (ev_pos (by show (k : Int) < μ' 120 6; rw [k120]; omega) (ev_callP (sX10_costs k f b μ' (KO hf) (by omega) (by rw [k1]; omega) d (by omega)) (fun _ μ1 ⟨f1, h1⟩ => ?_))))
      rw [k1, prc_same ht, k134] at h1
      have hf1 : Fg wgL wgJ μ μ1 := fg_tr hf f1 (by decide) (by decide)
      have ht1 := wg_tw (b := b) hf1 (fun a ha => ha)
      have k11 := ht1 (tw b + 1) (by simp [twL])
      have hc : ∀ g, 0 ≤ g → g < μ (tw b + 1) 2 → 0 ≤ μ1 135 g ∧ μ1 135 g ≤ 99 := fun g g0 g1 => by rw [h1 g g0 g1]; exact prc_in _ _ _ _ _ _
      refine ev_callP (sX10_canPay k (-1) f b μ1 (KO hf1) (by omega) (by rw [k11]; omega) (by rw [k11]; exact hc) d (by omega)) (fun v3 μ2 ⟨f2, h2, F, hD, hL⟩ => ?_)
      have hf2 : Fg wgL wgJ μ μ2 := fg_tr hf1 (fg_fr f2 (by decide)) (by decide) (fun a ha => ha)
      have hdd : dstN b μ1 (wc (μ1 135) (-1)) (f (38 + k)) (f (44 + k)) = dstN b μ (fun g => prc b μ f (f (2 + g)) k (μ 134 k)) (f (38 + k)) (f (44 + k)) := by
        rw [dstN_same ht1]
        refine dstN_congr (fun g g0 g1 => ?_) _ _
        unfold wc
        rw [if_neg (by omega), h1 g g0 g1]
      have k61 : μ2 96 61 = μ' 96 61 := by rw [f2 96 (by decide), f1.2 61 (by decide)]
      have k62 : μ2 96 62 = μ' 96 62 := by rw [f2 96 (by decide), f1.2 62 (by decide)]
      rw [hdd] at h2
      by_cases e : dstN b μ (fun g => prc b μ f (f (2 + g)) k (μ 134 k)) (f (38 + k)) (f (44 + k)) ≤ f (50 + k)
      · rw [t01_pos e] at h2
        refine ev_neg (by show ¬ v3 = 0; omega) ?_
        have hP0 := sX10_personOf k 0 b (m2 μ2 96 61 (w32 (μ2 96 61 + 1))) (by omega) (by omega) (by decide) (by decide) d (by omega)
        rw [m2_ne (by decide), hf2.1 133 (by decide) (by decide), (hO.2.2.2.2.1.2 k (by omega) (by omega)).1] at hP0
        have hg := Rgat_ok (w := μ1 135) (KO hf1).1 (KO hf1).2.2.2.1 (fun g g0 g1 => by rw [k11] at g1; have := hc g g0 g1; omega)
        have hK := K_dst (s := f (38 + k)) hg (fun g g0 g1 => hc g g0 (by rw [k11] at g1; omega)) c1.1 c1.2 c2.1 c2.2 hD hL
        have hKd : μ2 136 (f (38 + k)) = dstN b μ (fun g => prc b μ f (f (2 + g)) k (μ 134 k)) (f (38 + k)) (f (44 + k)) := by
          rw [← hdd] at e ⊢
          unfold dstN at e ⊢
          rcases hK with h | h
          · omega
          · exact h.1
        have hge := ratF_in hO (k + 1) (by omega)
        rw [ratF_succ, if_pos e] at hge
        obtain ⟨⟨u0, u1⟩, ⟨v0, v1⟩⟩ := hge
        refine ev_call hP0 (ev_if c1 ?_)
        refine ev_row (fun n => tX10_weighs_67 _ n b _ k) ?_
        rw [E1 trivial]
        refine ih (k + 1) _ (by omega) (fg_m96 (fg_m96 hf2 (by decide)) (by decide)) ?_ ?_
        · dsimp only
          rw [m2_at, if_neg (by decide), m2_at, if_pos rfl, k61, s1, ratF_succ, if_pos e, w32_id (by omega) (by omega)]
        · dsimp only
          rw [m2_at, if_pos rfl, m2_at, if_neg (by decide), m2_ne (show (136 : Nat) ≠ 96 by decide), k62, s2, hKd, ratF_succ, if_pos e]
          exact w32_id (by have : 0 ≤ (ratF b μ f k).2 + _ := v0; omega) (by have : (ratF b μ f k).2 + _ ≤ _ := v1; omega)
      · rw [t01_neg e] at h2
        refine ev_pos (show v3 = 0 from h2) (ev_row (fun n => tX10_weighs_67 _ n b μ2 k) ?_)
        rw [E1 trivial]
        refine ih (k + 1) μ2 (by omega) hf2 ?_ ?_
        · rw [k61, s1, ratF_succ, if_neg e]
        · rw [k62, s2, ratF_succ, if_neg e]
  refine cal_ev (fun r => call_X10_weighs d b μ) (ev_row (fun n => tX10_weighs_0 _ n b μ) ?_)
  refine lp (μ (tw b + 1) 3).toNat 0 _ (by omega) (fg_m96 (fg_m96 fg_rfl (by decide)) (by decide)) ?_ ?_
  · rw [m2_at, if_neg (by decide), m2_at, if_pos rfl]; rfl
  · rw [m2_at, if_pos rfl]; rfl
