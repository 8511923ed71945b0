/-! ===== exchange, the class's half ===== -/
theorem R_sta {b : Bool} {μ μ' : Nat → Int → Int} (hR : R b μ) (h : Fr (scC ++ [44, 45, 46, 47]) μ μ') (hs : Rsta b μ') : R b μ' := by
  have ne : ∀ a : Nat, ¬ ((24 ≤ a ∧ a ≤ 29) ∨ (31 ≤ a ∧ a ≤ 43) ∨ (44 ≤ a ∧ a ≤ 49) ∨ a = 75) → μ' a = μ a := fun a ha => h a (fun hm => by
    rcases List.mem_append.1 hm with q | q
    · unfold scC at q
      simp only [List.mem_cons, List.not_mem_nil, or_false] at q; omega
    · simp only [List.mem_cons, List.not_mem_nil, or_false] at q; omega)
  have htw := tw_or b
  have ht : ∀ a, a ∈ twL b → μ' a = μ a := fun a ha => ne a (by have := twL_or ha; omega)
  obtain ⟨r1, r2, r3, r4, r5⟩ := hR
  refine ⟨Rtw_same ht r1, ⟨?_, ?_⟩, Rhis_same ht (ne 50 (by omega)) (fun a a0 a1 => ne a (by omega)) (ne 138 (by omega)) (fun j _ => by rw [ne 96 (by omega)]) r3, Rmsc_same (by rw [ht (tw b + 1) (by simp [twL])]) (fun a ha => ne a ?_) (fun j _ => by rw [ne 96 (by omega)]) (fun a a0 a1 => ne a (by omega)) r4, hs⟩
  · rw [ne 74 (by omega), ne 133 (by omega)]; exact r2.1
  · rw [ne 74 (by omega)]; exact rowR_same ht r2.2
  · simp only [List.mem_cons, List.not_mem_nil, or_false] at ha; omega
/-- what exchange answers -/
def exV (b : Bool) (μ : Nat → Int → Int) (p : Int) : Int := if p = -1 then (exR b μ).1.1 else if p = 20 then (exR b μ).1.2 else if p = 21 then (exR b μ).2.1 else if 0 ≤ p ∧ p < μ (tw b + 1) 2 then (exR b μ).2.2 p else -1
theorem exR_same {b : Bool} {μ μ' : Nat → Int → Int} (h : ∀ a, a ∈ twL b → μ' a = μ a) (h2 : μ' 74 = μ 74) : exR b μ' = exR b μ := by
  unfold exR
  rw [rtM_same h h2, h2, h (tw b + 1) (by simp [twL])]
theorem sX9_exchange (p : Int) (b : Bool) (μ : Nat → Int → Int) (hR : R b μ) : ∀ d, 7 ≤ d → Cal d 215 [mP 0, mI p] b μ (fun v μ' => R b μ' ∧ Fr (scC ++ [44, 45, 46, 47]) μ μ' ∧ v = exV b μ p) := deepC fun d hd => by
  have hCn := hR.1.1
  obtain ⟨⟨z1, z2, z3⟩, ⟨w1, w2, w3⟩, ⟨y1, y2, y3⟩, ⟨x1, x2, x3⟩⟩ := hCn
  have tell : ∀ μ' : Nat → Int → Int, R b μ' → Fr (scC ++ [44, 45, 46, 47]) μ μ' → μ' (tw b + 1) = μ (tw b + 1) → μ' 46 1 = (exR b μ).1.1 → μ' 46 2 = (exR b μ).1.2 → μ' 46 3 = (exR b μ).2.1 → (∀ g, 0 ≤ g → g < μ (tw b + 1) 2 → μ' 47 g = (exR b μ).2.2 g) → Ev (fun n => mRun (mCallN d) kX9_exchange n 54 [some (mP 0), some (mI p)] [] (SH, μ', RHO b)) b (fun v μ' => R b μ' ∧ Fr (scC ++ [44, 45, 46, 47]) μ μ' ∧ v = exV b μ p) := fun μ' hR' hf k1 s1 s2 s3 s4 => by
    have hT : Cal d 158 [mP 46, mI p, mI (μ' (tw b + 1) 2)] b μ' (fun v μ2 => μ2 = μ' ∧ v = exV b μ p) := by
      obtain ⟨d', rfl⟩ : ∃ d', d = d' + 1 := ⟨d - 1, by omega⟩
      refine cal_ev (fun r => call_X3_tell_46 d' b μ' p (μ' (tw b + 1) 2)) (ev_row (fun n => tX3_tell_46_0 _ n b μ' p (μ' (tw b + 1) 2)) ?_)
      unfold exV
      refine ev_br (fun e => ev_ret ⟨rfl, by rw [if_pos e]; exact s1⟩) (fun n1 => ?_)
      rw [if_neg n1]
      refine ev_br (fun e => ev_ret ⟨rfl, by rw [if_pos e]; exact s2⟩) (fun n2 => ?_)
      rw [if_neg n2]
      refine ev_br (fun e => ev_ret ⟨rfl, by rw [if_pos e]; exact s3⟩) (fun n3 => ?_)
      rw [if_neg n3]
      refine ev_call (sX9_within p (μ' (tw b + 1) 2) b μ' d' (by omega)) ?_
      rw [k1]
      by_cases c : 0 ≤ p ∧ p < μ (tw b + 1) 2
      · rw [if_pos c]
        refine ev_neg (by show ¬ t01 (0 ≤ p ∧ p < μ (tw b + 1) 2) = 0; rw [t01_pos c]; decide) (ev_if (by omega) ?_)
        exact ev_row (fun n => tX3_tell_46_50 _ n b μ' p _ _) (ev_ret ⟨rfl, s4 p c.1 c.2⟩)
      · rw [if_neg c]
        refine ev_pos (show t01 (0 ≤ p ∧ p < μ (tw b + 1) 2) = 0 from t01_neg c) ?_
        exact ev_row (fun n => tX3_tell_46_50 _ n b μ' p _ _) (ev_ret ⟨rfl, rfl⟩)
    exact ev_row (fun n => tX9_exchange_54 _ n b μ' p) (ev_callP hT (fun v μ2 ⟨e, h⟩ => ev_ret ⟨by subst e; exact hR', by subst e; exact hf, h⟩))
  refine cal_ev (fun r => call_X9_exchange d b μ p) (ev_row (fun n => tX9_exchange_0 _ n b μ p) (ev_br (fun e => ?_) (fun e => ?_)))
  · refine ev_callP (sX2_priceAll b μ hR d (by omega)) (fun _ μ1 ⟨f1, h1⟩ => ?_)
    have hs1 := fr_sc f1 (sub_C (by decide))
    have kt1 := scC_tw (b := b) hs1
    have k1 := kt1 (tw b + 1) (by simp [twL])
    have k74 : μ1 74 = μ 74 := f1 74 (by decide)
    refine ev_callP (sX5_tryExchanges b μ1 (R_cls hs1 hR) (by rw [f1 46 (by decide)]; exact e) (fun m q m0 m1 q0 q1 => by
      rw [k1] at m1 q1
      rw [prA_same kt1 k74]; exact h1 m q m0 m1 q0 q1) d (by omega)) (fun _ μ2 ⟨f2, a4, a1, a2, a3, a5⟩ => ?_)
    have kt2 := fr6_tw (b := b) f2
    have ktt : ∀ a, a ∈ twL b → μ2 a = μ a := fun a ha => by rw [kt2 a ha, kt1 a ha]
    have k74' : μ2 74 = μ 74 := by rw [f2 74 (by decide), k74]
    rw [exR_same kt1 k74] at a1 a2 a3 a5
    rw [k1] at a5
    have hf2 : Fr (scC ++ [44, 45, 46, 47]) μ μ2 := fr_tr (fr_sub hs1 (fun a ha => List.mem_append.2 (Or.inl ha))) f2 (fun a ha => by
      simp only [List.mem_cons, List.not_mem_nil, or_false] at ha
      rcases ha with e | e | e | e | e | e <;> rw [e] <;> decide)
    refine tell μ2 (R_sta hR hf2 ?_) hf2 (ktt _ (by simp [twL])) a1 a2 a3 a5
    obtain ⟨s1, s2, s3, s4⟩ := hR.2.2.2.2
    have k44 : μ2 44 = μ 44 := by rw [f2 44 (by decide), f1 44 (by decide)]
    have k45 : μ2 45 = μ 45 := by rw [f2 45 (by decide), f1 45 (by decide)]
    have ks : stdR b μ2 = stdR b μ := by
      unfold stdR
      rw [rtM_same ktt k74', ktt (tw b + 1) (by simp [twL]), ktt (tw b + 10) (by simp [twL])]
    refine ⟨by rw [k44]; exact s1, Or.inr a4, ?_, fun _ => ?_⟩
    · rw [k44, k45, ks, ktt (tw b + 1) (by simp [twL]), ktt (tw b + 10) (by simp [twL])]; exact s3
    · rw [exR_same ktt k74', ktt (tw b + 1) (by simp [twL])]; exact ⟨a1, a2, a3, a5⟩
  · obtain ⟨s1, s2, s3, s4⟩ := hR.2.2.2.2
    obtain ⟨a1, a2, a3, a5⟩ := s4 (by omega)
    exact tell μ hR fr_rfl rfl a1 a2 a3 a5
