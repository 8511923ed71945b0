/-- the class goes gate by gate -/
theorem eX9_go {d : Nat} (hd : 2 ≤ d) {b : Bool} {p v2 : Int} {c f0 C : Int → Int} {μ0 : Nat → Int → Int} {Q : Int → (Nat → Int → Int) → Prop} {N : Int} {L0 : List Int} (p0 : 0 ≤ p) (p1 : p < 6) (hC : C 1 ≤ 12) (hN : μ0 26 3 = N) (hN9 : N ≤ 9) (hb : ∀ m, 0 ≤ m → m < 12 → f0 (26 + m) ≤ 100000) (hcoin : 0 ≤ f0 (50 + p) ∧ f0 (50 + p) ≤ 100000)
    (hK : ∀ μ' f', Fr [74] μ0 μ' → gInvR C f0 f' → (∀ x, μ' 74 x = if x = 50 + p then f0 (50 + p) - sumL c L0 else f' x) → f' = psL c L0 f0 → Ev (fun n => if (0 : Int) ≤ w32 (38 + p) ∧ w32 (38 + p) < (62 : Int) then (if (0 : Int) ≤ w32 (44 + p) ∧ w32 (44 + p) < (62 : Int) then (if (0 : Int) ≤ w32 (38 + p) ∧ w32 (38 + p) < (62 : Int) then (if (0 : Int) ≤ w32 (44 + p) ∧ w32 (44 + p) < (62 : Int) then some (v2, SH, (m2 (m2 μ' 74 (w32 (38 + p)) (μ' 74 (w32 (44 + p)))) 74 (w32 (44 + p)) (μ' 74 (w32 (38 + p)))), RHO b) else none) else none) else none) else none) b Q) :
    ∀ (l : List Int) (i s : Int) (f : Int → Int) (μ : Nat → Int → Int), 0 ≤ i → i + l.length = N → (∀ j : Nat, j < l.length → μ0 29 (i + j) = l.getD j 0) → (∀ g ∈ l, (0 ≤ f0 (2 + g) ∧ f0 (2 + g) < C 1) ∧ (0 ≤ g ∧ g < 12) ∧ (0 ≤ c g ∧ c g ≤ 99) ∧ μ0 27 g = 16 * c g + 1) → Fr [74] μ0 μ → gInvR C f0 f → (∀ m, 0 ≤ m → m < 12 → f (26 + m) ≤ f0 (26 + m) + 99 * i) → (0 ≤ s ∧ s ≤ 99 * i) → (∀ x, μ 74 x = if x = 50 + p then f0 (50 + p) - s else f x) → psL c l f = psL c L0 f0 → s + sumL c l = sumL c L0 →
    Ev (fun n => mRun (mCallN d) kX9_go n 42 [some (mP 0), some (mI p), some (mI v2), some (mI i)] [] (SH, μ, RHO b)) b Q := by
  intro l
  induction l with
  | nil =>
    intro i s f μ h0 hk hr hl hf hi hm hs hx hp hsum
    have hl0 : i = N := by rw [List.length_nil] at hk; omega
    refine ev_row (fun n => tX9_go_42 _ n b μ p v2 i) (ev_neg (by rw [hf 26 (by decide)]; omega) ?_)
    rw [sumL] at hsum
    exact hK μ f hf hi (fun x => by rw [hx x, ← hsum, Int.add_zero]) hp
  | cons g l ih =>
    intro i s f μ h0 hk hr hl hf hi hm hs hx hp hsum
    obtain ⟨a1, a2, a3, a4⟩ := hl g List.mem_cons_self
    have hr0 := hr 0 (by rw [List.length_cons]; omega)
    rw [List.getD_cons_zero, show i + ((0 : Nat) : Int) = i by omega] at hr0
    rw [List.length_cons] at hk
    have hne : ∀ x, x ≠ 50 + p → μ 74 x = f x := fun x hx' => by rw [hx x, if_neg hx']
    have e2 : μ 74 (2 + g) = f0 (2 + g) := by rw [hne _ (by omega)]; exact hi.1 _ (by omega)
    have h50 : μ 74 (50 + p) = f0 (50 + p) - s := by rw [hx, if_pos rfl]
    have hP := sX9_passGate p g c b μ p0 p1 a2.1 a2.2 (by rw [e2]; omega) (by rw [hf 27 (by decide)]; exact a4) a3 (by rw [e2, hne _ (by omega)]; exact (hi.2.2.1 _ a1.1 (by omega)).1) (by rw [e2, hne _ (by omega)]; have := hi.2.2.1 _ a1.1 (by omega); have := hb _ a1.1 (by omega); omega) (by rw [h50]; omega) d hd
    refine ev_row (fun n => tX9_go_42 _ n b μ p v2 i) (ev_pos (by rw [hf 26 (by decide)]; omega) (ev_if (by omega) ?_))
    rw [hf 29 (by decide), hr0, w32_id (x := i + 1) (by omega) (by omega)]
    refine ev_callP hP (fun _ μ1 ⟨hf1, hx1⟩ => ?_)
    have hpe : ∀ x, x ≠ 50 + p → pss c (μ 74) g x = pss c f g x := fun x hx' => by
      unfold pss
      rw [e2, hi.1 (2 + g) (by omega)]
      by_cases q : x = 26 + f0 (2 + g)
      · rw [if_pos q, if_pos q, hne _ hx']
      · rw [if_neg q, if_neg q]
        by_cases q2 : x = 14 + f0 (2 + g)
        · rw [if_pos q2, if_pos q2, hne _ hx']
        · rw [if_neg q2, if_neg q2, hne _ hx']
    obtain ⟨b1, b2⟩ := pss_inv (C := C) (c := c) (f0 := f0) (f := f) (g := g) (k := 99 * i) a1 hC a2 a3 hm (by omega) hi
    refine ih (i + 1) (s + c g) (pss c f g) μ1 (by omega) (by omega) (fun j hj => ?_) (fun x hx' => hl x (List.mem_cons_of_mem g hx')) (fr_tr hf hf1 (fun a h => h)) b1 (fun m m0 m1 => by have := b2 m m0 m1; omega) (by omega) (fun x => ?_) ?_ ?_
    · have := hr (j + 1) (by rw [List.length_cons]; omega)
      rw [List.getD_cons_succ] at this
      rw [← this]; congr 1; omega
    · rw [hx1 x]
      by_cases q : x = 50 + p
      · rw [if_pos q, if_pos q, h50]; omega
      · rw [if_neg q, if_neg q]; exact hpe x q
    · rw [psL] at hp; exact hp
    · rw [sumL] at hsum; omega
theorem range_getD {f : Nat → Int} {N : Nat} {l : List Int} (h : l.length = N) (h2 : ∀ j : Nat, j < N → f j = l.getD j 0) : (List.range N).map f = l := by
  apply List.ext_getElem
  · rw [List.length_map, List.length_range, h]
  · intro i h3 h4
    rw [List.getElem_map, List.getElem_range, h2 i (by omega), List.getD_eq_getElem?_getD, List.getElem?_eq_getElem h4]; rfl
/-- the reference goes -/
theorem eX10_go {d : Nat} (hd : 3 ≤ d) {b : Bool} {p from' all goal : Int} {n : Nat} {fa fb cc F f0 C : Int → Int} {μ0 : Nat → Int → Int} (p0 : 0 ≤ p) (p1 : p < 6) (hg : gOk fa fb cc n 10) (hn : n ≤ 12) (hc : ∀ g, 0 ≤ g → g < (n : Int) → 0 ≤ cc g ∧ cc g ≤ 99) (hG : ∀ g, 0 ≤ g → g < (n : Int) → μ0 124 (36 + 3 * g) = fa g ∧ μ0 124 (36 + 3 * g + 1) = fb g ∧ μ0 135 g = cc g) (h7 : μ0 120 7 = n) (hL : RL (μ0 136) (μ0 137) F) (s0 : 0 ≤ goal) (s1 : goal < 10) (hD : Dist fa fb (w16 cc) n 10 268435456 goal F) (hmen : ∀ g, 0 ≤ g → g < (n : Int) → 0 ≤ f0 (2 + g) ∧ f0 (2 + g) < C 1) (hC : C 1 ≤ 12) (hb : ∀ m, 0 ≤ m → m < 12 → f0 (26 + m) ≤ 100000) (hgoal : f0 (38 + 4 * p + 1) = goal) (hcoin : 0 ≤ f0 (38 + 4 * p + 2) ∧ f0 (38 + 4 * p + 2) ≤ 100000) (hall : 0 ≤ all ∧ all ≤ 100000) : ∀ (h : Nat) (r : Int) (v5 v6 : Option mV) (f : Int → Int) (μ : Nat → Int → Int), h ≤ 9 → 0 ≤ r → r < 10 → F r ≠ 268435456 → F r % 16 = h → Fr [133] μ0 μ → μ 133 = f → gInvR C f0 f → (∀ m, 0 ≤ m → m < 12 → f (26 + m) ≤ f0 (26 + m) + 99 * (9 - h)) →
    Ev (fun m => mRun (mCallN d) kX10_go m 47 [some (mP 96), some (mI p), some (mI from'), some (mI all), some (mI r), v5, v6] [] (SH, μ, RHO b)) b (fun v μ' => v = all ∧ Fr [133] μ0 μ' ∧ gInvR C f0 (psL cc (wayL F (w16 cc) fa fb n h r) f) ∧ ∀ x, μ' 133 x = if x = 38 + 4 * p + 2 then f0 (38 + 4 * p + 2) - all else if x = 38 + 4 * p + 1 then from' else if x = 38 + 4 * p then goal else psL cc (wayL F (w16 cc) fa fb n h r) f x) := by
  have hFF : ∀ x, 0 ≤ x → x < 10 → F x ≤ 268435456 := fun x x0 x1 => (hD.2.1 x x0 (by omega)).2.1
  have w1 : w32 (4 * p) = 4 * p := w32_id (by omega) (by omega)
  have w2 : w32 (38 + 4 * p) = 38 + 4 * p := w32_id (by omega) (by omega)
  have w3 : w32 (38 + 4 * p + 1) = 38 + 4 * p + 1 := w32_id (by omega) (by omega)
  have w4 : w32 (38 + 4 * p + 2) = 38 + 4 * p + 2 := w32_id (by omega) (by omega)
  intro h
  induction h with
  | zero =>
    intro r v5 v6 f μ h9 r0 r1 hr hh hf hμ hi hm
    obtain ⟨K, h', q1, q2, q3, q4, q5, q6⟩ := D_room hg hc s0 s1 hD r0 r1 hr
    have e : r = goal := (q5 (by omega)).1
    have hP := sX10_personOf p 1 b μ p0 p1 (by decide) (by decide) d (by omega)
    rw [hμ, hi.2.1 _ (by omega), hgoal] at hP
    refine ev_row (fun m => tX10_go_47 _ m b μ p from' all r v5 v6) (ev_call hP (ev_pos e ?_))
    dsimp only
    rw [w1, w2, w3, w4]
    have hc2 : m2 (m2 μ 133 (38 + 4 * p) r) 133 (38 + 4 * p + 1) from' 133 (38 + 4 * p + 2) = f0 (38 + 4 * p + 2) := by rw [m2_at, if_neg (by omega), m2_at, if_neg (by omega), hμ]; exact hi.2.1 _ (by omega)
    rw [hc2, w32_id (x := f0 (38 + 4 * p + 2) - all) (by omega) (by omega)]
    refine ev_if (by omega) (ev_if (by omega) (ev_if (by omega) (ev_if (by omega) (ev_ret ⟨rfl, fr_m2 (fr_m2 (fr_m2 hf (by decide)) (by decide)) (by decide), hi, fun x => ?_⟩))))
    rw [m2_at, m2_at, m2_at, wayL, psL, hμ, e]
  | succ h ih =>
    intro r v5 v6 f μ h9 r0 r1 hr hh hf hμ hi hm
    obtain ⟨K, h', q1, q2, q3, q4, q5, q6⟩ := D_room hg hc s0 s1 hD r0 r1 hr
    have hrg : r ≠ goal := fun e => by rw [e, hD.1] at hh; omega
    obtain ⟨⟨g0, g1, g2, g3⟩, ⟨t0, t1⟩, tV, tF⟩ := D_step hg hc s0 s1 hD r0 r1 hr hrg
    have hne : ∀ a, a ≠ 133 → μ a = μ0 a := fun a ha => hf a (by simpa using ha)
    have hGμ : ∀ g, 0 ≤ g → g < (n : Int) → μ 124 (36 + 3 * g) = fa g ∧ μ 124 (36 + 3 * g + 1) = fb g ∧ μ 135 g = cc g := by rw [hne 124 (by decide), hne 135 (by decide)]; exact hG
    have hN := sX10_nextGate r b μ hg hn hc hGμ (by rw [hne 120 (by decide)]; exact h7) (by rw [hne 136 (by decide), hne 137 (by decide)]; exact hL) r0 r1 hr hFF d hd
    have hP := sX10_personOf p 1 b μ p0 p1 (by decide) (by decide) d (by omega)
    rw [hμ, hi.2.1 _ (by omega), hgoal] at hP
    rw [wayL, psL]
    generalize onw F (w16 cc) fa fb r n 0 (-1) 10 = gt at *
    have hmg := hmen gt g0 g1
    have hcg := hc gt g0 g1
    have e2 : f (2 + gt) = f0 (2 + gt) := hi.1 _ (by omega)
    have hM := sX10_manAt gt b μ g0 (by omega) d (by omega)
    rw [hμ, e2] at hM
    have h14 := (hi.2.2.1 _ hmg.1 (by omega)).1
    have h26 := hi.2.2.1 _ hmg.1 (by omega)
    have hb26 := hb _ hmg.1 (by omega)
    have hm26 := hm _ hmg.1 (by omega)
    have x1 : w32 (26 + f0 (2 + gt)) = 26 + f0 (2 + gt) := w32_id (by omega) (by omega)
    have x2 : w32 (14 + f0 (2 + gt)) = 14 + f0 (2 + gt) := w32_id (by omega) (by omega)
    obtain ⟨k1, k2, k3⟩ := hGμ gt g0 g1
    have x3 : w32 (f (26 + f0 (2 + gt)) + cc gt) = f (26 + f0 (2 + gt)) + cc gt := w32_id (by omega) (by omega)
    have x4 : m2 μ 133 (26 + f0 (2 + gt)) (f (26 + f0 (2 + gt)) + cc gt) 133 (14 + f0 (2 + gt)) = f (14 + f0 (2 + gt)) := by rw [m2_at, if_neg (by omega), hμ]
    have x5 : w32 (f (14 + f0 (2 + gt)) + 1) = f (14 + f0 (2 + gt)) + 1 := w32_id (by omega) (by omega)
    obtain ⟨b1, b2⟩ := pss_inv (C := C) (c := cc) (f0 := f0) (f := f) (g := gt) (k := 99 * (9 - ((h + 1 : Nat) : Int))) hmg hC ⟨g0, by omega⟩ hcg hm (by omega) hi
    have nx : ∀ μ', Fr [133] μ0 μ' → μ' 133 = pss cc f gt → Ev (fun m => mRun (mCallN d) kX10_go m 124 [some (mP 96), some (mI p), some (mI from'), some (mI all), some (mI r), some (mI gt), some (mI (f0 (2 + gt)))] [] (SH, μ', RHO b)) b (fun v μ' => v = all ∧ Fr [133] μ0 μ' ∧ gInvR C f0 (psL cc (wayL F (w16 cc) fa fb n h (acr fa fb gt r)) (pss cc f gt)) ∧ ∀ x, μ' 133 x = if x = 38 + 4 * p + 2 then f0 (38 + 4 * p + 2) - all else if x = 38 + 4 * p + 1 then from' else if x = 38 + 4 * p then goal else psL cc (wayL F (w16 cc) fa fb n h (acr fa fb gt r)) (pss cc f gt) x) := fun μ' hf' hμ' => by
      have hB := sX10_behind gt r b μ' g0 (by omega) d (by omega)
      rw [hf' 124 (by decide), (hG gt g0 g1).1, (hG gt g0 g1).2.1] at hB
      refine ev_row (fun m => tX10_go_124 _ m b μ' p from' all r gt (f0 (2 + gt))) (ev_call hB ?_)
      exact ih (acr fa fb gt r) _ _ (pss cc f gt) μ' (by omega) t0 t1 tV (by omega) hf' hμ' b1 (fun m m0 m1 => by have := b2 m m0 m1; omega)
    refine ev_row (fun m => tX10_go_47 _ m b μ p from' all r v5 v6) (ev_call hP (ev_neg hrg (ev_call hN (ev_call hM ?_))))
    have hME : m2 μ 133 (w32 (26 + f0 (2 + gt))) (w32 (μ 133 (w32 (26 + f0 (2 + gt))) + μ 135 gt)) = m2 μ 133 (26 + f0 (2 + gt)) (f (26 + f0 (2 + gt)) + cc gt) := by rw [x1, hμ, k3, x3]
    refine ev_if (by show 0 ≤ w32 (26 + f0 (2 + gt)) ∧ w32 (26 + f0 (2 + gt)) < 62; rw [x1]; omega) (ev_if (by show 0 ≤ gt ∧ gt < 12; omega) (ev_if (by show 0 ≤ w32 (26 + f0 (2 + gt)) ∧ w32 (26 + f0 (2 + gt)) < 62; rw [x1]; omega) (ev_if (by show 0 ≤ w32 (14 + f0 (2 + gt)) ∧ w32 (14 + f0 (2 + gt)) < 62; rw [x2]; omega) (ev_br (fun q => ?_) (fun q => ?_)))))
    · have q' : m2 μ 133 (w32 (26 + f0 (2 + gt))) (w32 (μ 133 (w32 (26 + f0 (2 + gt))) + μ 135 gt)) 133 (w32 (14 + f0 (2 + gt))) < 200 := q
      rw [hME, x2, x4] at q'
      refine ev_if (by show 0 ≤ w32 (14 + f0 (2 + gt)) ∧ w32 (14 + f0 (2 + gt)) < 62; rw [x2]; omega) (ev_if (by show 0 ≤ w32 (14 + f0 (2 + gt)) ∧ w32 (14 + f0 (2 + gt)) < 62; rw [x2]; omega) (nx (m2 (m2 μ 133 (w32 (26 + f0 (2 + gt))) (w32 (μ 133 (w32 (26 + f0 (2 + gt))) + μ 135 gt))) 133 (w32 (14 + f0 (2 + gt))) (w32 (m2 μ 133 (w32 (26 + f0 (2 + gt))) (w32 (μ 133 (w32 (26 + f0 (2 + gt))) + μ 135 gt)) 133 (w32 (14 + f0 (2 + gt))) + 1))) (fr_m2 (fr_m2 hf (by decide)) (by decide)) ?_))
      funext x
      rw [hME, x2, x4, x5, m2_at, m2_at, hμ]
      unfold pss
      rw [e2]
      by_cases y1 : x = 14 + f0 (2 + gt)
      · rw [if_pos y1, if_neg (show ¬ x = 26 + f0 (2 + gt) by omega), if_pos y1, y1, if_pos q']
      · rw [if_neg y1]
        by_cases y2 : x = 26 + f0 (2 + gt)
        · rw [if_pos y2, if_pos y2, y2]
        · rw [if_neg y2, if_neg y2, if_neg y1]
    · have q' : ¬ m2 μ 133 (w32 (26 + f0 (2 + gt))) (w32 (μ 133 (w32 (26 + f0 (2 + gt))) + μ 135 gt)) 133 (w32 (14 + f0 (2 + gt))) < 200 := q
      rw [hME, x2, x4] at q'
      refine nx (m2 μ 133 (w32 (26 + f0 (2 + gt))) (w32 (μ 133 (w32 (26 + f0 (2 + gt))) + μ 135 gt))) (fr_m2 hf (by decide)) ?_
      funext x
      rw [hME, m2_at, hμ]
      unfold pss
      rw [e2]
      by_cases y2 : x = 26 + f0 (2 + gt)
      · rw [if_pos y2, if_pos y2, y2]
      · rw [if_neg y2, if_neg y2]
        by_cases y1 : x = 14 + f0 (2 + gt)
        · rw [if_pos y1, y1, if_neg q']; omega
        · rw [if_neg y1]
