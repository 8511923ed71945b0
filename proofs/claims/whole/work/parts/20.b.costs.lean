/-! ===== what each gate costs one ===== -/
theorem gSt_congr {fa fb w fa' fb' w' L : Int → Int} {g : Int} (h1 : fa' g = fa g) (h2 : fb' g = fb g) (h3 : w' g = w g) : gSt fa' fb' w' L g = gSt fa fb w L g := by unfold gSt; rw [h1, h2, h3]
theorem gPs_congr {fa fb w fa' fb' w' : Int → Int} : ∀ (k : Nat) (i : Int) (L : Int → Int), (∀ g, i ≤ g → g < i + k → fa' g = fa g ∧ fb' g = fb g ∧ w' g = w g) → gPs fa' fb' w' k i L = gPs fa fb w k i L
  | 0, _, _, _ => rfl
  | k + 1, i, L, h => by
    obtain ⟨h1, h2, h3⟩ := h i (by omega) (by omega)
    rw [gPs, gPs, gSt_congr h1 h2 h3]
    exact gPs_congr k (i + 1) _ (fun g g0 g1 => h g (by omega) (by omega))
theorem gIt_congr {fa fb w fa' fb' w' : Int → Int} {n : Nat} (h : ∀ g, 0 ≤ g → g < (n : Int) → fa' g = fa g ∧ fb' g = fb g ∧ w' g = w g) : ∀ (k : Nat) (L : Int → Int), gIt fa' fb' w' n k L = gIt fa fb w n k L
  | 0, _ => rfl
  | k + 1, L => by
    rw [gIt, gIt, gPs_congr n 0 L (fun g g0 g1 => h g g0 (by omega))]
    exact gIt_congr h k _
theorem dst_congr {fa fb w fa' fb' w' : Int → Int} {n : Nat} (h : ∀ g, 0 ≤ g → g < (n : Int) → fa' g = fa g ∧ fb' g = fb g ∧ w' g = w g) (s t : Int) : dst fa' fb' w' n s t = dst fa fb w n s t := by
  unfold dst; rw [gIt_congr h]
theorem dst_dist {fa fb w : Int → Int} {n : Nat} {s : Int} (hg : gOk fa fb w n 10) (hs0 : 0 ≤ s) (hs1 : s < 10) : Dist fa fb w n 10 268435456 s (dst fa fb w n s) := by
  have := gIt_dist (V := 268435456) (L := fun x => if x = s then 0 else 268435456) hg hs0 (by omega : s < ((10 : Nat) : Int)) (Nat.le_refl 10) (by decide) (if_pos rfl) (fun v v0 v1 e => if_neg e)
  exact this
theorem Dist_uniq {fa fb w : Int → Int} {n : Nat} {s W : Int} {F F' : Int → Int} (hg : gOk fa fb w n 10) (hs0 : 0 ≤ s) (hs1 : s < 10) (hW0 : 0 ≤ W) (hW1 : W ≤ 1000000) (hW : ∀ g, 0 ≤ g → g < (n : Int) → w g ≤ W) (hD : Dist fa fb w n 10 268435456 s F) (hD' : Dist fa fb w n 10 268435456 s F') {v : Int} (v0 : 0 ≤ v) (v1 : v < 10) : F v = F' v := by
  obtain ⟨f0, f1, f2⟩ := hD.2.1 v v0 (by omega)
  obtain ⟨f0', f1', f2'⟩ := hD'.2.1 v v0 (by omega)
  by_cases e : F v = 268435456
  · rw [e]
    refine (f2'.resolve_right ?_).symm
    rintro ⟨h, h1, h2⟩
    exact Dist_lt hg hs0 (by omega) hD (by decide) hW0 hW (by omega) h v _ h2 e
  · obtain ⟨h, h1, h2⟩ := f2.resolve_left e
    have h3 := Dist_le hD' h v _ h2
    have h5 := Dist_lt hg hs0 (by omega) hD' (by decide) hW0 hW (by omega) h v _ h2
    obtain ⟨h', h1', h2'⟩ := f2'.resolve_left h5
    have h4 := Dist_le hD h' v _ h2'
    omega
theorem Dist_dst {fa fb w : Int → Int} {n : Nat} {s W : Int} {F : Int → Int} (hg : gOk fa fb w n 10) (hs0 : 0 ≤ s) (hs1 : s < 10) (hW0 : 0 ≤ W) (hW1 : W ≤ 1000000) (hW : ∀ g, 0 ≤ g → g < (n : Int) → w g ≤ W) (hD : Dist fa fb w n 10 268435456 s F) {v : Int} (v0 : 0 ≤ v) (v1 : v < 10) : F v = dst fa fb w n s v := Dist_uniq hg hs0 hs1 hW0 hW1 hW hD (dst_dist hg hs0 hs1) v0 v1
/-- costs with a gate left out -/
def wc (cost : Int → Int) (wo : Int) : Int → Int := fun g => if g = wo then -1 else cost g
theorem K_dst {fa fb cost K G F : Int → Int} {n : Nat} {s t wo : Int} (hg : gOk fa fb cost n 10) (hc : ∀ g, 0 ≤ g → g < (n : Int) → 0 ≤ cost g ∧ cost g ≤ 99) (hs0 : 0 ≤ s) (hs1 : s < 10) (ht0 : 0 ≤ t) (ht1 : t < 10) (hD : Dist fa fb (wr cost wo) n 10 268435456 t F) (hL : RL K G F) : (K s = 1000000 ∧ F s = 268435456 ∧ dst fa fb (wc cost wo) n s t = 268435456) ∨ (K s = dst fa fb (wc cost wo) n s t ∧ K s ≤ 891 ∧ F s ≠ 268435456) := by
  have hg' : gOk fa fb (wc cost wo) n 10 := fun g g0 g1 => by
    obtain ⟨h1, h2, -⟩ := hg g g0 g1
    have := hc g g0 g1
    refine ⟨h1, h2, ?_⟩
    unfold wc; split <;> omega
  have hW : ∀ g, 0 ≤ g → g < (n : Int) → wc cost wo g ≤ 99 := fun g g0 g1 => by
    have := hc g g0 g1
    unfold wc; split <;> omega
  have h := Dist_coins hg' hs0 (by omega) ht0 (by omega) (by decide : 10 ≤ 10) (by decide : (0 : Int) ≤ 99) hW (by decide) (by decide) (dst_dist hg' hs0 hs1) hD (fun g g0 g1 gw => by
    unfold wc at gw ⊢
    unfold wr
    by_cases e : g = wo
    · rw [if_pos e] at gw; exact absurd rfl gw
    · rw [if_neg e, if_neg e]) (fun g g0 g1 gw => by
    have := hc g g0 g1
    unfold wc at gw
    unfold wr
    by_cases e : g = wo
    · rw [if_pos e]
    · rw [if_neg e] at gw; omega)
  have h2 := hL s hs0 hs1
  rcases h with ⟨h3, h4⟩ | ⟨h3, h4, h', h5a, h5, h6⟩
  · left; omega
  · right; omega
/-- what the reference's finding rests on, with f its row as the class has it -/
def RefOK (b : Bool) (μ : Nat → Int → Int) (f : Int → Int) : Prop := Rcnt b μ ∧ Rcod b μ ∧ Rtir b μ ∧ Rgat b μ ∧ Rrow f (μ 133) ∧ rowA f ∧ (∀ g, 0 ≤ g → g < μ (tw b + 1) 2 → 0 ≤ f (2 + g) ∧ f (2 + g) < μ (tw b + 1) 1) ∧ (∀ p, 0 ≤ p → p < μ (tw b + 1) 3 → (0 ≤ μ 134 p ∧ μ 134 p ≤ 99) ∧ (0 ≤ f (38 + p) ∧ f (38 + p) < 10) ∧ (0 ≤ f (44 + p) ∧ f (44 + p) < 10) ∧ (0 ≤ f (50 + p) ∧ f (50 + p) ≤ 9999))
theorem sumN_le {g : Int → Int} {c : Int} : ∀ n : Nat, (∀ i, 0 ≤ i → i < (n : Int) → g i ≤ c) → sumN g n ≤ n * c
  | 0, _ => by rw [sumN]; omega
  | n + 1, h => by
    have h1 := sumN_le (g := g) (c := c) n (fun i h0 h1 => h i h0 (by omega))
    have h2 := h n (by omega) (by omega)
    rw [sumN, show ((n + 1 : Nat) : Int) * c = n * c + c by rw [Int.natCast_succ, Int.add_mul, Int.one_mul]]
    omega
theorem sumN_ge {g : Int → Int} : ∀ n : Nat, (∀ i, 0 ≤ i → i < (n : Int) → 0 ≤ g i) → 0 ≤ sumN g n ∧ ∀ i, 0 ≤ i → i < (n : Int) → g i ≤ sumN g n
  | 0, _ => ⟨by rw [sumN]; omega, fun i h0 h1 => absurd h0 (by omega)⟩
  | n + 1, h => by
    obtain ⟨h1, h2⟩ := sumN_ge (g := g) n (fun i h0 h1 => h i h0 (by omega))
    have h3 := h n (by omega) (by omega)
    rw [sumN]
    refine ⟨by omega, fun i i0 i1 => ?_⟩
    by_cases e : i = n
    · subst e; omega
    · have := h2 i i0 (by omega); omega
theorem R_coins {b : Bool} {μ : Nat → Int → Int} (hR : R b μ) : ∀ p, 0 ≤ p → p < 6 → 0 ≤ μ 74 (50 + p) ∧ μ 74 (50 + p) ≤ 5994 := fun p p0 p1 => by
  obtain ⟨-, o2, o3, o4, o5, o6, o7, o8, o9, o10, o11⟩ := hR.2.1.2
  have h1 := sumN_ge (g := fun p => μ 74 (50 + p)) 6 (fun i i0 i1 => o9 i i0 (by omega))
  have h2 := sumN_ge (g := fun m => μ 74 (26 + m)) 12 (fun i i0 i1 => o6 i i0 (by omega))
  have h3 := h1.2 p p0 (by omega)
  have hC := Rcnt_C hR.1.1
  have h4 := sumN_le (g := μ (tw b + 13)) (c := 999) (μ (tw b + 1) 3).toNat (fun i i0 i1 => (hR.1.2.2.2.2.2.1 i i0 (by omega)).2.2)
  have h5 : (((μ (tw b + 1) 3).toNat : Nat) : Int) * 999 ≤ 6 * 999 := by omega
  exact ⟨o9 p p0 p1, by omega⟩
theorem R_refOK {b : Bool} {μ : Nat → Int → Int} (hR : R b μ) : RefOK b μ (μ 74) := by
  have hC := hR.1.1
  refine ⟨hR.1.1, R_cod hR, hR.1.2.2.2.1, hR.1.2.1, hR.2.1.1, R_rowA hR, hR.2.1.2.2.1, fun p p0 p1 => ?_⟩
  obtain ⟨t1, t2, t3⟩ := hR.1.2.2.2.2.1 p p0 p1
  obtain ⟨-, o2, o3, o4, o5, o6, o7, o8, o9, o10, o11⟩ := hR.2.1.2
  obtain ⟨q1, q2, -⟩ := o8 p p0 p1
  have := Rcnt_C hC
  have q3 := R_coins hR p p0 (by omega)
  obtain ⟨⟨z1, z2, z3⟩, -⟩ := hC
  omega
theorem Rgat_ok {b : Bool} {μ : Nat → Int → Int} {w : Int → Int} (hc : Rcnt b μ) (hg : Rgat b μ) (hw : ∀ g, 0 ≤ g → g < μ (tw b + 1) 2 → -1 ≤ w g) : gOk (μ (tw b + 8)) (μ (tw b + 9)) w (μ (tw b + 1) 2).toNat 10 := fun g g0 g1 => by
  obtain ⟨⟨z1, z2, z3⟩, -, ⟨y1, y2, y3⟩, -⟩ := hc
  obtain ⟨-, q1, q2, -, -⟩ := hg g g0 (by omega)
  have := hw g g0 (by omega)
  exact ⟨⟨q1.1, by omega⟩, ⟨q2.1, by omega⟩, this⟩
theorem eX10_costs {d : Nat} (hd : 5 ≤ d) {b : Bool} {p : Int} {f : Int → Int} {μ0 : Nat → Int → Int} (hO : RefOK b μ0 f) (hp0 : 0 ≤ p) (hp1 : p < μ0 (tw b + 1) 3) : ∀ (k : Nat) (i : Int) (μ : Nat → Int → Int), 0 ≤ i → i + k = μ0 (tw b + 1) 2 → Fg [131, 132, 135] [50] μ0 μ → (∀ g, 0 ≤ g → g < i → μ 135 g = prc b μ0 f (f (2 + g)) p (μ0 134 p)) → Ev (fun n => mRun (mCallN d) kX10_costs n 2 [some (mP 96), some (mI p), some (mI i)] [] (SH, μ, RHO b)) b (fun _ μ' => Fg [131, 132, 135] [50] μ0 μ' ∧ ∀ g, 0 ≤ g → g < μ0 (tw b + 1) 2 → μ' 135 g = prc b μ0 f (f (2 + g)) p (μ0 134 p)) := by
  obtain ⟨hc, hcod, htir, hgat, hrow, hA, hmen, hppl⟩ := hO
  obtain ⟨⟨z1, z2, z3⟩, ⟨w1, w2, w3⟩, ⟨y1, y2, y3⟩, ⟨x1, x2, x3⟩⟩ := hc
  intro k
  induction k with
  | zero =>
    intro i μ h0 hk hf hx
    have k120 : μ 120 7 = μ0 120 7 := by rw [hf.1 120 (by decide) (by decide)]
    refine ev_row (fun n => tX10_costs_2 _ n b μ p i) (ev_call (sX10_gateMany b μ d (by omega)) (ev_neg (by show ¬ (i < μ 120 7); omega) (ev_ret ⟨hf, fun g g0 g1 => hx g g0 (by omega)⟩)))
  | succ k ih =>
    intro i μ h0 hk hf hx
    have k120 : μ 120 7 = μ0 120 7 := by rw [hf.1 120 (by decide) (by decide)]
    have e1 : w32 (i + 1) = i + 1 := w32_id (by omega) (by omega)
    have gi := hrow.1 (2 + i) (by omega) (by omega)
    have hm := hmen i h0 (by omega)
    have kt : ∀ a, a ∈ twL b → μ a = μ0 a := fun a ha => by
      have := twL_or ha
      have := tw_or b
      exact hf.1 a (by simp only [List.mem_cons, List.not_mem_nil, or_false]; omega) (by omega)
    have hcod' : Rcod b μ := by
      unfold Rcod at hcod ⊢
      rw [kt (tw b + 1) (by simp [twL]), kt (tw b + 16) (by simp [twL]), kt (tw b + 17) (by simp [twL]), kt (tw b + 18) (by simp [twL]), kt (tw b + 15) (by simp [twL]), kt 128 (by simp [twL]), kt 129 (by simp [twL]), kt 130 (by simp [twL]), kt 126 (by simp [twL])]
      exact hcod
    have hM := sX10_manAt i b μ h0 (by omega) d (by omega)
    rw [hf.1 133 (by decide) (by decide), gi] at hM
    have hK := sX10_costOf (f (2 + i)) p f b μ hm.1 (by omega) (by rw [kt (tw b + 1) (by simp [twL])]; exact hm.2) hp0 (by omega) hcod' (by rw [kt 122 (by simp [twL]), kt (tw b + 7) (by simp [twL])]; exact (htir _ hm.1 hm.2).1) (by rw [kt 134 (by simp [twL])]; exact (hppl p hp0 hp1).1) hA (by rw [hf.1 133 (by decide) (by decide)]; exact hrow) d hd
    rw [prc_same kt, kt 134 (by simp [twL])] at hK
    refine ev_row (fun n => tX10_costs_2 _ n b μ p i) (ev_call (sX10_gateMany b μ d (by omega)) (ev_pos (by show i < μ 120 7; omega) (ev_call hM (ev_callP hK (fun v μ1 ⟨h1, h2⟩ => ev_if (by omega) ?_)))))
    dsimp only
    rw [e1]
    refine ih (i + 1) _ (by omega) (by omega) (fg_m2 (fg_tr hf h1 (by simp) (fun a h => h)) (by decide) (by decide)) (fun g g0 g1 => ?_)
    rw [m2_at]
    by_cases e : g = i
    · rw [if_pos e, e, h2]
    · rw [if_neg e, h1.1 135 (by decide) (by decide)]; exact hx g g0 (by omega)
theorem sX10_costs (p : Int) (f : Int → Int) (b : Bool) (μ : Nat → Int → Int) (hO : RefOK b μ f) (hp0 : 0 ≤ p) (hp1 : p < μ (tw b + 1) 3) : ∀ d, 6 ≤ d → Cal d 26 [mP 96, mI p] b μ (fun _ μ' => Fg [131, 132, 135] [50] μ μ' ∧ ∀ g, 0 ≤ g → g < μ (tw b + 1) 2 → μ' 135 g = prc b μ f (f (2 + g)) p (μ 134 p)) := deepC fun d hd => by
  have hC := Rcnt_C hO.1
  refine cal_ev (fun r => call_X10_costs d b μ p) (ev_row (fun n => tX10_costs_0 _ n b μ p) ?_)
  exact eX10_costs hd hO hp0 hp1 (μ (tw b + 1) 2).toNat 0 μ (by omega) (by omega) fg_rfl (fun g g0 g1 => absurd g0 (by omega))
theorem eX9_weighPrices {d : Nat} (hd : 5 ≤ d) {b : Bool} {p t : Int} {μ0 : Nat → Int → Int} (hR : R b μ0) (hp0 : 0 ≤ p) (hp1 : p < μ0 (tw b + 1) 3) (ht : 0 ≤ t ∧ t ≤ 99) : ∀ (k : Nat) (i : Int) (μ : Nat → Int → Int), 0 ≤ i → i + k = μ0 (tw b + 1) 2 → Fr [24, 25, 27] μ0 μ → (∀ g, 0 ≤ g → g < i → μ 27 g = prc b μ0 (μ0 74) (μ0 74 (2 + g)) p t) → Ev (fun n => mRun (mCallN d) kX9_weighPrices n 2 [some (mP 0), some (mI p), some (mI t), some (mI i)] [] (SH, μ, RHO b)) b (fun _ μ' => Fr [24, 25, 27] μ0 μ' ∧ ∀ g, 0 ≤ g → g < μ0 (tw b + 1) 2 → μ' 27 g = prc b μ0 (μ0 74) (μ0 74 (2 + g)) p t) := by
  have hC := Rcnt_C hR.1.1
  have hC1 := hR.1.1
  obtain ⟨-, ⟨w1, w2, w3⟩, -, -⟩ := hC1
  intro k
  induction k with
  | zero =>
    intro i μ h0 hk hf hx
    have kt := scC_tw (b := b) (fr_sc hf (sub_C (by decide)))
    refine ev_row (fun n => tX9_weighPrices_2 _ n b μ p t i) (ev_neg (by rw [kt (tw b + 1) (by simp [twL])]; omega) (ev_ret ⟨hf, fun g g0 g1 => hx g g0 (by omega)⟩))
  | succ k ih =>
    intro i μ h0 hk hf hx
    have kt := scC_tw (b := b) (fr_sc hf (sub_C (by decide)))
    have k74 : μ 74 = μ0 74 := hf 74 (by decide)
    have hR1 := R_cls (fr_sc hf (sub_C (by decide))) hR
    have e1 : w32 (i + 1) = i + 1 := w32_id (by omega) (by omega)
    have e2 : w32 (2 + i) = 2 + i := w32_id (by omega) (by omega)
    have hm := hR.2.1.2.2.1 i h0 (by omega)
    have hK := sX2_price 74 (μ0 74 (2 + i)) p t b μ rfl (by decide) (by decide) hm.1 (by omega) (by rw [kt (tw b + 1) (by simp [twL])]; exact hm.2) hp0 (by omega) ht (R_cod hR1) (R_rowA hR1) d hd
    rw [prc_same kt, k74] at hK
    refine ev_row (fun n => tX9_weighPrices_2 _ n b μ p t i) (ev_pos (by rw [kt (tw b + 1) (by simp [twL])]; omega) ?_)
    rw [e2, k74, e1]
    refine ev_if (by omega) (ev_callP hK (fun v μ1 ⟨h1, h2⟩ => ev_if (by omega) ?_))
    dsimp only
    refine ih (i + 1) _ (by omega) (by omega) (fr_m2 (fr_tr hf h1 (by simp)) (by decide)) (fun g g0 g1 => ?_)
    rw [m2_at]
    by_cases e : g = i
    · rw [if_pos e, e, h2]
    · rw [if_neg e, h1 27 (by decide)]; exact hx g g0 (by omega)
theorem sX9_weighPrices (p t : Int) (b : Bool) (μ : Nat → Int → Int) (hR : R b μ) (hp0 : 0 ≤ p) (hp1 : p < μ (tw b + 1) 3) (ht : 0 ≤ t ∧ t ≤ 99) : ∀ d, 6 ≤ d → Cal d 258 [mP 0, mI p, mI t] b μ (fun _ μ' => Fr [24, 25, 27] μ μ' ∧ ∀ g, 0 ≤ g → g < μ (tw b + 1) 2 → μ' 27 g = prc b μ (μ 74) (μ 74 (2 + g)) p t) := deepC fun d hd => by
  have hC := Rcnt_C hR.1.1
  refine cal_ev (fun r => call_X9_weighPrices d b μ p t) (ev_row (fun n => tX9_weighPrices_0 _ n b μ p t) ?_)
  exact eX9_weighPrices hd hR hp0 hp1 ht (μ (tw b + 1) 2).toNat 0 μ (by omega) (by omega) fr_rfl (fun g g0 g1 => absurd g0 (by omega))
