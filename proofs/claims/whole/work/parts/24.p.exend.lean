/-! ===== exchanges come to an end ===== -/
theorem sumN_up {g : Int → Int} (h : ∀ i, 0 ≤ i → i < 6 → 0 ≤ g i) : ∀ k n : Nat, n + k = 6 → sumN g n ≤ sumN g 6
  | 0, n, hk => by rw [show n = 6 by omega]; exact Int.le_refl _
  | k + 1, n, hk => by
    have ih := sumN_up h k (n + 1) (by omega)
    have h0 := h n (by omega) (by omega)
    have e : sumN g (n + 1) = sumN g n + g n := rfl
    omega
theorem ratN_le {b : Bool} {μ : Nat → Int → Int} (hR : R b μ) (men : Int → Int) : ∀ k : Nat, (k : Int) ≤ μ (tw b + 1) 3 → (ratN b μ men k).2 ≤ sumN (fun p => μ 74 (50 + p)) k
  | 0, _ => Int.le_refl _
  | k + 1, hk => by
    have ih := ratN_le hR men k (by omega)
    have hC := Rcnt_C hR.1.1
    have h0 := (R_coins hR k (by omega) (by omega)).1
    have e2 : sumN (fun p => μ 74 (50 + p)) (k + 1) = sumN (fun p => μ 74 (50 + p)) k + μ 74 (50 + k) := rfl
    rw [ratN_succ, e2]
    by_cases e : dstN b μ (fun g => prA b μ (men g) k) (μ 74 (38 + k)) (μ 74 (44 + k)) ≤ μ 74 (50 + k)
    · rw [if_pos e]; show (ratN b μ men k).2 + _ ≤ _; omega
    · rw [if_neg e]; omega
theorem rtM_in {b : Bool} {μ : Nat → Int → Int} (hR : R b μ) (men : Int → Int) : (0 ≤ (rtM b μ men).1 ∧ (rtM b μ men).1 ≤ 6) ∧ (0 ≤ (rtM b μ men).2 ∧ (rtM b μ men).2 ≤ 5994) := by
  have hC := Rcnt_C hR.1.1
  have e : rtM b μ men = ratN b μ men (μ (tw b + 1) 3).toNat := rfl
  have h1 := ratN_in hR men (μ (tw b + 1) 3).toNat (by omega)
  have h2 := ratN_le hR men (μ (tw b + 1) 3).toNat (by omega)
  obtain ⟨-, o2, o3, o4, o5, o6, o7, o8, o9, o10, o11⟩ := hR.2.1.2
  have h3 := sumN_up (g := fun p => μ 74 (50 + p)) (fun i i0 i1 => o9 i i0 i1) (6 - (μ (tw b + 1) 3).toNat) (μ (tw b + 1) 3).toNat (by omega)
  have h4 := (sumN_ge (g := fun m => μ 74 (26 + m)) 12 (fun i i0 i1 => o6 i i0 (by omega))).1
  have h5 := sumN_le (g := μ (tw b + 13)) (c := 999) (μ (tw b + 1) 3).toNat (fun i i0 i1 => (hR.1.2.2.2.2.2.1 i i0 (by omega)).2.2)
  have h6 : (((μ (tw b + 1) 3).toNat : Nat) : Int) * 999 ≤ 6 * 999 := by omega
  rw [e]; omega
/-- as it was, or better -/
def nBt (rt : (Int → Int) → Int × Int) (G : Int) (r0 : Int × Int) (r : (Int × Int) × (Int × Int)) : Prop := (r.2.1 = -1 ∧ r.1 = r0) ∨ (r.2.1 ≠ -1 ∧ ((0 ≤ r.2.1 ∧ r.2.1 < G) ∧ (0 ≤ r.2.2 ∧ r.2.2 < G)) ∧ (∃ m, r.1 = rt m) ∧ (r0.1 < r.1.1 ∨ (r.1.1 = r0.1 ∧ r.1.2 < r0.2)))
theorem exJ_bt {rt : (Int → Int) → Int × Int} {G : Int} {r0 : Int × Int} {men : Int → Int} {i : Int} (i0 : 0 ≤ i) (i1 : i < G) : ∀ (k : Nat) (j : Int) (r : (Int × Int) × (Int × Int)), i < j → j + k ≤ G → nBt rt G r0 r → nBt rt G r0 (exJ rt men i k j r)
  | 0, _, _, _, _, h => h
  | k + 1, j, r, hij, hk, h => by
    unfold exJ
    refine exJ_bt i0 i1 k (j + 1) _ (by omega) (by omega) ?_
    by_cases c : r.1.1 < (rt (exch men i j)).1 ∨ ((rt (exch men i j)).1 = r.1.1 ∧ (rt (exch men i j)).2 < r.1.2)
    · rw [if_pos c]
      refine Or.inr ⟨by show i ≠ -1; omega, ⟨⟨i0, i1⟩, ⟨by show 0 ≤ j; omega, by show j < G; omega⟩⟩, ⟨_, rfl⟩, ?_⟩
      show r0.1 < (rt (exch men i j)).1 ∨ ((rt (exch men i j)).1 = r0.1 ∧ (rt (exch men i j)).2 < r0.2)
      rcases h with ⟨-, h⟩ | ⟨-, -, -, h⟩
      · rw [h] at c; exact c
      · omega
    · rw [if_neg c]; exact h
theorem exI_bt {rt : (Int → Int) → Int × Int} {G : Int} {r0 : Int × Int} {men : Int → Int} : ∀ (k : Nat) (i : Int) (r : (Int × Int) × (Int × Int)), 0 ≤ i → i + k ≤ G → nBt rt G r0 r → nBt rt G r0 (exI rt men k i r)
  | 0, _, _, _, _, h => h
  | k + 1, i, r, i0, hk, h => by
    unfold exI
    exact exI_bt k (i + 1) _ (by omega) (by omega) (exJ_bt i0 (by omega) k (i + 1) r (by omega) (by omega) h)
theorem exE_bt {b : Bool} {μ : Nat → Int → Int} {men : Int → Int} {r : Int × Int} (h0 : 0 ≤ μ (tw b + 1) 2) : nBt (rtM b μ) (μ (tw b + 1) 2) r (exE b μ men r) := exI_bt _ 0 _ (by decide) (by omega) (Or.inl ⟨rfl, rfl⟩)
/-- what exchange tells of its end -/
def exA (e : (Int × Int) × Int × (Int → Int)) (p G : Int) : Int := if p = 21 then e.2.1 else if p = -1 then e.1.1 else if p = 20 then e.1.2 else if 0 ≤ p ∧ p < G then e.2.2 p else -1
theorem eX10_exchange_41 {d : Nat} (hd : 8 ≤ d) {b : Bool} {μ : Nat → Int → Int} (hR : R b μ) (p : Int) : ∀ (q k : Nat) (c : Int) (μ' : Nat → Int → Int) (r : Int × Int) (men : Int → Int), q < k → (0 ≤ r.1 ∧ r.1 ≤ 6) → (0 ≤ r.2 ∧ r.2 ≤ 5994) → 6000 * (6 - r.1) + r.2 ≤ q → 0 ≤ c → c + q ≤ 1000000 → (∀ g, 0 ≤ g → g < μ (tw b + 1) 2 → 0 ≤ men g ∧ men g < μ (tw b + 1) 1) → By b μ μ' men (r, (-1, -1)) → Ev (fun n => mRun (mCallN d) kX10_exchange n 41 [some (mP 96), some (mI p), some (mI c)] [] (SH, μ', RHO b)) b (fun v μ2 => Fg ecL ecJ μ μ2 ∧ (∀ x, μ2 133 x = if 2 ≤ x ∧ x < 2 + μ (tw b + 1) 2 then μ 140 (x - 2) else μ 133 x) ∧ v = exA (exN (rtM b μ) (μ (tw b + 1) 2).toNat k r c men) p (μ (tw b + 1) 2)) := by
  have hCn := hR.1.1
  obtain ⟨⟨z1, z2, z3⟩, ⟨w1, w2, w3⟩, ⟨y1, y2, y3⟩, ⟨x1, x2, x3⟩⟩ := hCn
  intro q
  induction q using Nat.strongRecOn with
  | ind q ih =>
    intro k c μ' r men hq hr1 hr2 hpot c0 c1 hin hB
    obtain ⟨k, rfl⟩ : ∃ k', k = k' + 1 := ⟨k - 1, by omega⟩
    rw [exN_succ]
    have hbt := exE_bt (b := b) (μ := μ) (men := men) (r := r) y2
    refine ev_row (fun n => tX10_exchange_41 _ n b μ' p c) (ev_callP (sX10_exchanges b μ μ' hR hin hB d hd) (fun v1 μ1 h1 => ?_))
    rcases h1 with ⟨a1, a2, a3⟩ | ⟨a1, a2, a3⟩
    · rw [if_pos a1]
      have he : (exE b μ men r).1 = r := by
        rcases hbt with ⟨-, h⟩ | ⟨h, -⟩
        · exact h
        · exact absurd a1 h
      obtain ⟨hf, h3, s1, s2, hmen, h9, -⟩ := a3
      rw [he] at s1 s2
      have k7 : μ1 120 7 = μ (tw b + 1) 2 := by rw [hf.1 120 (by decide) (by decide)]; exact y1
      refine ev_pos (show v1 = 0 from a2) (ev_callP (sX10_takesBack b μ1 y2 y3 k7 d (by omega)) (fun _ μ2 ⟨f2, h2⟩ => ?_))
      have hf2 : Fg ecL ecJ μ μ2 := fg_tr hf (fg_fr f2 (by decide)) (fun a ha => by
        have : a = 133 := by simpa using ha
        rw [this]; decide) (fun a ha => ha)
      have h133 : ∀ x, μ2 133 x = if 2 ≤ x ∧ x < 2 + μ (tw b + 1) 2 then μ 140 (x - 2) else μ 133 x := fun x => by
        rw [h2 x, hf.1 140 (by decide) (by decide)]
        by_cases e : 2 ≤ x ∧ x < 2 + μ (tw b + 1) 2
        · rw [if_pos e, if_pos e]
        · rw [if_neg e, if_neg e]; exact h3 x (by omega)
      have k96 : μ2 96 = μ1 96 := f2 96 (by decide)
      have k139 : μ2 139 = μ1 139 := f2 139 (by decide)
      have k7' : μ2 120 7 = μ (tw b + 1) 2 := by rw [f2 120 (by decide)]; exact k7
      unfold exA
      refine ev_br (fun e => ev_row (fun n => tX10_exchange_73 _ n b μ2 p c c) (ev_ret ⟨hf2, h133, by rw [if_pos e]⟩)) (fun e => ?_)
      rw [if_neg e]
      refine ev_callP (sX10_standTold p b μ2 y2 y3 k7' d (by omega)) (fun v3 μ3 ⟨e3, h4⟩ => ?_)
      subst e3
      refine ev_row (fun n => tX10_exchange_73 _ n b μ3 p c v3) (ev_ret ⟨hf2, h133, ?_⟩)
      rw [h4, k96, k139, s1, s2]
      by_cases e1 : p = -1
      · rw [if_pos e1, if_pos e1]
      · rw [if_neg e1, if_neg e1]
        by_cases e2 : p = 20
        · rw [if_pos e2, if_pos e2]
        · rw [if_neg e2, if_neg e2]
          by_cases e3 : 0 ≤ p ∧ p < μ (tw b + 1) 2
          · rw [if_pos e3, if_pos e3, h9 p e3.1 e3.2]
            unfold ordB
            rw [if_pos a1]
          · rw [if_neg e3, if_neg e3]
    · rw [if_neg a1]
      obtain ⟨b1, ⟨m, hm⟩, b3⟩ : ((0 ≤ (exE b μ men r).2.1 ∧ (exE b μ men r).2.1 < μ (tw b + 1) 2) ∧ (0 ≤ (exE b μ men r).2.2 ∧ (exE b μ men r).2.2 < μ (tw b + 1) 2)) ∧ (∃ m, (exE b μ men r).1 = rtM b μ m) ∧ (r.1 < (exE b μ men r).1.1 ∨ ((exE b μ men r).1.1 = r.1 ∧ (exE b μ men r).1.2 < r.2)) := by
        rcases hbt with ⟨h, -⟩ | ⟨-, h⟩
        · exact absurd h a1
        · exact h
      have hin2 := rtM_in hR m
      rw [← hm] at hin2
      obtain ⟨i1, i2⟩ := hin2
      refine ev_neg (by show ¬ v1 = 0; omega) ?_
      have e1 : w32 (c + 1) = c + 1 := w32_id (by omega) (by omega)
      rw [e1]
      exact ih (q - 1) (by omega) k (c + 1) μ1 _ _ (by omega) i1 i2 (by omega) (by omega) (by omega) (exch_in hin b1.1.1 b1.1.2 b1.2.1 b1.2.2) a3
theorem sX10_exchange (p : Int) (b : Bool) (μ : Nat → Int → Int) (hR : R b μ) : ∀ d, 9 ≤ d → Cal d 33 [mP 96, mI p] b μ (fun v μ' => R b μ' ∧ v = exV b μ p) := deepC fun d hd => by
  have hCn := hR.1.1
  obtain ⟨⟨z1, z2, z3⟩, ⟨w1, w2, w3⟩, ⟨y1, y2, y3⟩, ⟨x1, x2, x3⟩⟩ := hCn
  have hI := sX10_isGate p b μ (by omega) (by omega) d (by omega)
  rw [y1] at hI
  have main : Ev (fun n => mRun (mCallN d) kX10_exchange n 27 [some (mP 96), some (mI p), none] [] (SH, μ, RHO b)) b (fun v μ' => R b μ' ∧ v = exA (exR b μ) p (μ (tw b + 1) 2)) := by
    refine ev_row (fun n => tX10_exchange_27 _ n b μ p) (ev_callP (sX10_putsAside b μ y2 y3 y1 d (by omega)) (fun _ μa ⟨fa, ha⟩ => ?_))
    have hsa : Fg scR scJ μ μa := fg_sc (fg_fr (J := []) fa (by decide)) (sub_R (by decide)) (sub_J (by decide))
    have hRa := R_ref hsa hR
    have kta := scR_tw (b := b) hsa
    have k1a := kta (tw b + 1) (by simp [twL])
    have k74a : μa 74 = μ 74 := fa 74 (by decide)
    have k133a : μa 133 = μ 133 := fa 133 (by decide)
    have hW := sX10_weighs _ b μa (R_refOK hRa) d (by omega)
    rw [ratF_rtM (men := fun g => μa 74 (2 + g)) hRa (fun x _ => rfl) (fun g g0 g1 => ⟨rfl, (hRa.2.1.2.2.1 g g0 g1).1⟩)] at hW
    refine ev_callP hW (fun _ μb ⟨fb, a1, a2⟩ => ?_)
    have k7b : μb 120 7 = μa (tw b + 1) 2 := by rw [fb.1 120 (by decide) (by decide), fa 120 (by decide), k1a]; exact y1
    refine ev_callP (sX10_isBest b μb (by rw [k1a]; exact y2) (by rw [k1a]; exact y3) k7b d (by omega)) (fun _ μc ⟨fc, c1, c2, c3⟩ => ?_)
    have hfc : Fg ecL ecJ μa μc := fg_tr (fg_tr fg_rfl fb (by decide) (by decide)) fc (by decide) (by decide)
    have k133c : μc 133 = μa 133 := by rw [fc.1 133 (by decide) (by decide), fb.1 133 (by decide) (by decide)]
    have hin := rtM_in hRa (fun g => μa 74 (2 + g))
    have hrow : ∀ g, 0 ≤ g → g < μa (tw b + 1) 2 → μa 133 (2 + g) = μa 74 (2 + g) := fun g g0 g1 => hRa.2.1.1.1 (2 + g) (by omega) (by rw [k1a] at g1; omega)
    have hL := eX10_exchange_41 (by omega : 8 ≤ d) hRa p 99999 100000 0 μc (rtM b μa (fun g => μa 74 (2 + g))) (fun g => μa 74 (2 + g)) (by omega) hin.1 hin.2 (by omega) (by omega) (by omega) hRa.2.1.2.2.1 ⟨hfc, fun x _ => by rw [k133c], by rw [c1]; exact a1, by rw [c2]; exact a2, fun g g0 g1 => by rw [k133c]; exact hrow g g0 g1, fun g g0 g1 => by
      rw [c3 g g0 g1, fb.1 133 (by decide) (by decide)]
      exact hrow g g0 g1, Or.inl rfl⟩
    refine ev_mono hL (fun v μ2 ⟨g1, g2, g3⟩ => ⟨R_ref (μ := μ) ⟨fun a ha' h9 => ?_, fun j hj => ?_⟩ hR, ?_⟩)
    · by_cases e : a = 133
      · subst e
        funext x
        rw [g2 x, k1a, k133a]
        by_cases c : 2 ≤ x ∧ x < 2 + μ (tw b + 1) 2
        · rw [if_pos c, ha (x - 2) (by omega) (by omega), show 2 + (x - 2) = x by omega]
        · rw [if_neg c]
      · rw [g1.1 a (fun h => ?_) h9, fa a (fun h => ha' ?_)]
        · have : a = 140 := by simpa using h
          rw [this]; decide
        · unfold ecL at h
          simp only [List.mem_cons, List.not_mem_nil, or_false] at h
          unfold scR at ha'
          simp only [List.mem_cons, List.not_mem_nil, or_false] at ha'
          omega
    · rw [g1.2 j (fun h => hj ?_), fa 96 (by decide)]
      unfold ecJ at h
      unfold scJ
      simp only [List.mem_cons, List.not_mem_nil, or_false] at h ⊢
      omega
    · rw [g3, ← exR_same kta k74a, ← k1a]
      rfl
  have all : (p = -1 ∨ p = 20 ∨ p = 21 ∨ (0 ≤ p ∧ p < μ (tw b + 1) 2)) → Ev (fun n => mRun (mCallN d) kX10_exchange n 27 [some (mP 96), some (mI p), none] [] (SH, μ, RHO b)) b (fun v μ' => R b μ' ∧ v = exV b μ p) := fun _ => ev_mono main (fun v μ' ⟨h1, h2⟩ => ⟨h1, by
    rw [h2]
    unfold exA exV
    by_cases e1 : p = 21
    · rw [if_pos e1, if_neg (by omega), if_neg (by omega), if_pos e1]
    · rw [if_neg e1]
      by_cases e2 : p = -1
      · rw [if_pos e2, if_pos e2]
      · rw [if_neg e2, if_neg e2]
        by_cases e3 : p = 20
        · rw [if_pos e3, if_pos e3]
        · rw [if_neg e3, if_neg e3, if_neg e1]⟩)
  refine cal_ev (fun r => call_X10_exchange d b μ p) (ev_row (fun n => tX10_exchange_0 _ n b μ p) (ev_br (fun e => all (Or.inl e)) (fun n1 => ev_br (fun e => all (Or.inr (Or.inl e))) (fun n2 => ev_br (fun e => all (Or.inr (Or.inr (Or.inl e)))) (fun n3 => ev_call hI ?_)))))
  by_cases c : 0 ≤ p ∧ p < μ (tw b + 1) 2
  · exact ev_neg (by show ¬ t01 (0 ≤ p ∧ p < μ (tw b + 1) 2) = 0; rw [t01_pos c]; decide) (all (Or.inr (Or.inr (Or.inr c))))
  · refine ev_pos (show t01 (0 ≤ p ∧ p < μ (tw b + 1) 2) = 0 from t01_neg c) (ev_ret ⟨hR, ?_⟩)
    unfold exV
    rw [if_neg n1, if_neg n2, if_neg n3, if_neg c]
theorem p_exchange {b : Bool} {μ : Nat → Int → Int} (p : Int) (hR : R b μ) : ∀ d, 9 ≤ d → PairA d b μ 215 33 [mI p] := fun d hd => by
  obtain ⟨v, μ1, g1, hR1, hf, hv⟩ := sX9_exchange p b μ hR d (by omega)
  obtain ⟨v', μ2, f1, hR2, hv'⟩ := sX10_exchange p b μ1 hR1 d hd
  have ne : ∀ a : Nat, ¬ ((24 ≤ a ∧ a ≤ 29) ∨ (31 ≤ a ∧ a ≤ 43) ∨ (44 ≤ a ∧ a ≤ 49) ∨ a = 75) → μ1 a = μ a := fun a ha => hf a (fun hm => by
    rcases List.mem_append.1 hm with q | q
    · unfold scC at q
      simp only [List.mem_cons, List.not_mem_nil, or_false] at q; omega
    · simp only [List.mem_cons, List.not_mem_nil, or_false] at q; omega)
  have ht : ∀ a, a ∈ twL b → μ1 a = μ a := fun a ha => ne a (by have := twL_or ha; have := tw_or b; omega)
  have e : v' = v := by
    rw [hv, hv']
    unfold exV
    rw [exR_same ht (ne 74 (by omega)), ht (tw b + 1) (by simp [twL])]
  rw [e] at f1
  exact ⟨v, μ1, μ2, g1, f1, hR2⟩
