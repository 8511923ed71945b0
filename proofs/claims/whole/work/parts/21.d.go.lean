/-! ===== go ===== -/
/-- a gate is passed: its man's purse, his count -/
def pss (c f : Int → Int) (g : Int) : Int → Int := fun x => if x = 26 + f (2 + g) then f x + c g else if x = 14 + f (2 + g) then (if f x < 200 then f x + 1 else 200) else f x
def psL (c : Int → Int) : List Int → (Int → Int) → (Int → Int)
  | [], f => f
  | g :: l, f => psL c l (pss c f g)
def sumL (c : Int → Int) : List Int → Int
  | [] => 0
  | g :: l => c g + sumL c l
/-- what stays through a way -/
def gInvR (C : Int → Int) (f0 f : Int → Int) : Prop := (∀ x, x < 14 → f x = f0 x) ∧ (∀ x, 38 ≤ x → f x = f0 x) ∧ (∀ m, 0 ≤ m → m < 12 → (0 ≤ f (14 + m) ∧ f (14 + m) ≤ 200) ∧ 0 ≤ f (26 + m) ∧ f (26 + m) ≤ f0 (26 + m) + 100000) ∧ (∀ m, C 1 ≤ m → m < 12 → f (14 + m) = 0 ∧ f (26 + m) = 0)
theorem sumN_upd {f : Int → Int} {o j v : Int} : ∀ n : Nat, 0 ≤ j → j < (n : Int) → sumN (fun i => uPd f (o + j) v (o + i)) n = sumN (fun i => f (o + i)) n + (v - f (o + j))
  | 0, h0, h1 => absurd h0 (by omega)
  | n + 1, h0, h1 => by
    rw [sumN, sumN]
    by_cases e : j = n
    · have h2 : sumN (fun i => uPd f (o + j) v (o + i)) n = sumN (fun i => f (o + i)) n := sumN_congr n (fun i i0 i1 => uPd_ne (by omega))
      rw [h2, e, uPd_same]; omega
    · rw [sumN_upd n h0 (by omega), uPd_ne (by omega)]; omega
theorem pss_sum {c f : Int → Int} {g : Int} (h0 : 0 ≤ f (2 + g)) (h1 : f (2 + g) < 12) : sumN (fun i => pss c f g (26 + i)) 12 = sumN (fun i => f (26 + i)) 12 + c g := by
  have e : sumN (fun i => pss c f g (26 + i)) 12 = sumN (fun i => uPd f (26 + f (2 + g)) (f (26 + f (2 + g)) + c g) (26 + i)) 12 := sumN_congr 12 (fun i i0 i1 => by
    unfold pss
    rw [uPd_at]
    by_cases q : 26 + i = 26 + f (2 + g)
    · rw [if_pos q, if_pos q, q]
    · rw [if_neg q, if_neg q, if_neg (by omega)])
  rw [e, sumN_upd 12 h0 (by omega)]; omega
theorem pss_inv {C c f0 f : Int → Int} {g : Int} {k : Int} (hm : 0 ≤ f0 (2 + g) ∧ f0 (2 + g) < C 1) (hC : C 1 ≤ 12) (hg : 0 ≤ g ∧ g < 12) (hc : 0 ≤ c g ∧ c g ≤ 99) (hk : ∀ m, 0 ≤ m → m < 12 → f (26 + m) ≤ f0 (26 + m) + k) (hk2 : k + 99 ≤ 100000) (h : gInvR C f0 f) : gInvR C f0 (pss c f g) ∧ (∀ m, 0 ≤ m → m < 12 → pss c f g (26 + m) ≤ f0 (26 + m) + (k + 99)) := by
  obtain ⟨h1, h2, h3, h4⟩ := h
  have e2 := h1 (2 + g) (by omega)
  have h26 : ∀ m, 0 ≤ m → m < 12 → pss c f g (26 + m) = if m = f0 (2 + g) then f (26 + m) + c g else f (26 + m) := fun m m0 m1 => by
    unfold pss
    rw [e2]
    by_cases q : m = f0 (2 + g)
    · rw [if_pos (by omega), if_pos q]
    · rw [if_neg (by omega), if_neg q, if_neg (by omega)]
  have h14 : ∀ m, 0 ≤ m → m < 12 → pss c f g (14 + m) = if m = f0 (2 + g) then (if f (14 + m) < 200 then f (14 + m) + 1 else 200) else f (14 + m) := fun m m0 m1 => by
    unfold pss
    rw [e2]
    rw [if_neg (by omega)]
    by_cases q : m = f0 (2 + g)
    · rw [if_pos (by omega), if_pos q]
    · rw [if_neg (by omega), if_neg q]
  refine ⟨⟨fun x hx => ?_, fun x hx => ?_, fun m m0 m1 => ?_, fun m m0 m1 => ?_⟩, fun m m0 m1 => ?_⟩
  · unfold pss; rw [e2, if_neg (by omega), if_neg (by omega)]; exact h1 x hx
  · unfold pss; rw [e2, if_neg (by omega), if_neg (by omega)]; exact h2 x hx
  · have := h3 m m0 m1
    have := hk m m0 m1
    rw [h26 m m0 m1, h14 m m0 m1]
    (repeat' split) <;> omega
  · have := h4 m m0 m1
    rw [h26 m (by omega) m1, h14 m (by omega) m1, if_neg (by omega), if_neg (by omega)]; exact this
  · have := hk m m0 m1
    rw [h26 m m0 m1]
    split <;> omega
theorem psL_inv {C c f0 : Int → Int} (hC : C 1 ≤ 12) : ∀ (l : List Int) (f : Int → Int) (k : Int), (∀ g ∈ l, (0 ≤ f0 (2 + g) ∧ f0 (2 + g) < C 1) ∧ (0 ≤ g ∧ g < 12) ∧ (0 ≤ c g ∧ c g ≤ 99)) → (∀ m, 0 ≤ m → m < 12 → f (26 + m) ≤ f0 (26 + m) + k) → k + 99 * l.length ≤ 100000 → gInvR C f0 f → gInvR C f0 (psL c l f) ∧ sumN (fun i => psL c l f (26 + i)) 12 = sumN (fun i => f (26 + i)) 12 + sumL c l
  | [], f, k, _, _, _, h => ⟨h, by rw [psL, sumL]; omega⟩
  | g :: l, f, k, hl, hk, hk2, h => by
    obtain ⟨a1, a2, a3⟩ := hl g List.mem_cons_self
    rw [List.length_cons] at hk2
    obtain ⟨b1, b2⟩ := pss_inv a1 hC a2 a3 hk (by omega) h
    obtain ⟨c1, c2⟩ := psL_inv hC l (pss c f g) (k + 99) (fun x hx => hl x (List.mem_cons_of_mem g hx)) b2 (by omega) b1
    rw [psL, sumL]
    refine ⟨c1, ?_⟩
    have e := h.1 (2 + g) (by omega)
    rw [c2, pss_sum (by rw [e]; omega) (by rw [e]; omega)]; omega
/-- the way's gates: all among the town's, their costs together -/
theorem wayL_ok {fa fb c F : Int → Int} {n : Nat} {s : Int} (hg : gOk fa fb c n 10) (hc : ∀ g, 0 ≤ g → g < (n : Int) → 0 ≤ c g ∧ c g ≤ 99) (hs0 : 0 ≤ s) (hs1 : s < 10) (hD : Dist fa fb (w16 c) n 10 268435456 s F) : ∀ (h : Nat) (r : Int), 0 ≤ r → r < 10 → F r ≠ 268435456 → F r % 16 = h → (∀ g ∈ wayL F (w16 c) fa fb n h r, 0 ≤ g ∧ g < (n : Int)) ∧ F r = 16 * sumL c (wayL F (w16 c) fa fb n h r) + h
  | 0, r, r0, r1, hr, hh => by
    obtain ⟨K, h', q1, q2, q3, q4, q5, q6⟩ := D_room hg hc hs0 hs1 hD r0 r1 hr
    have := q5 (by omega)
    rw [wayL, sumL]
    exact ⟨fun g hg => absurd hg List.not_mem_nil, by omega⟩
  | h + 1, r, r0, r1, hr, hh => by
    obtain ⟨K, h', q1, q2, q3, q4, q5, q6⟩ := D_room hg hc hs0 hs1 hD r0 r1 hr
    have hrg : r ≠ s := fun e => by rw [e, hD.1] at hh; omega
    obtain ⟨⟨g0, g1, g2, g3⟩, ⟨t0, t1⟩, tV, tF⟩ := D_step hg hc hs0 hs1 hD r0 r1 hr hrg
    obtain ⟨i1, i2⟩ := wayL_ok hg hc hs0 hs1 hD h _ t0 t1 tV (by omega)
    rw [wayL, sumL]
    refine ⟨fun g hg => ?_, by omega⟩
    rcases List.mem_cons.1 hg with e | e
    · rw [e]; exact ⟨g0, g1⟩
    · exact i1 g e
theorem sX9_passGate (p g : Int) (c : Int → Int) (b : Bool) (μ : Nat → Int → Int) (p0 : 0 ≤ p) (p1 : p < 6) (g0 : 0 ≤ g) (g1 : g < 12) (hm : 0 ≤ μ 74 (2 + g) ∧ μ 74 (2 + g) < 12) (hw : μ 27 g = 16 * c g + 1) (hc : 0 ≤ c g ∧ c g ≤ 99) (h1 : 0 ≤ μ 74 (14 + μ 74 (2 + g)) ∧ μ 74 (14 + μ 74 (2 + g)) ≤ 200) (h2 : 0 ≤ μ 74 (26 + μ 74 (2 + g)) ∧ μ 74 (26 + μ 74 (2 + g)) ≤ 1000000) (h3 : -1000000 ≤ μ 74 (50 + p) ∧ μ 74 (50 + p) ≤ 1000000) : ∀ d, 2 ≤ d → Cal d 245 [mP 0, mI p, mI g] b μ (fun _ μ' => Fr [74] μ μ' ∧ ∀ x, μ' 74 x = if x = 50 + p then μ 74 (50 + p) - c g else pss c (μ 74) g x) := deepC fun d hd => by
  have e1 : w32 (2 + g) = 2 + g := w32_id (by omega) (by omega)
  have e2 : w32 (50 + p) = 50 + p := w32_id (by omega) (by omega)
  have e3 : w32 (26 + μ 74 (2 + g)) = 26 + μ 74 (2 + g) := w32_id (by omega) (by omega)
  have e4 : w32 (14 + μ 74 (2 + g)) = 14 + μ 74 (2 + g) := w32_id (by omega) (by omega)
  have e5 : iDiv (16 * c g + 1) 16 = c g := by rw [iDiv_p (by omega) (by omega) (by decide) (by decide)]; omega
  have e6 : w32 (μ 74 (50 + p) - c g) = μ 74 (50 + p) - c g := w32_id (by omega) (by omega)
  have r1 : m2 μ 74 (50 + p) (μ 74 (50 + p) - c g) 74 (26 + μ 74 (2 + g)) = μ 74 (26 + μ 74 (2 + g)) := by rw [m2_at, if_neg (by omega)]
  have e7 : w32 (μ 74 (26 + μ 74 (2 + g)) + c g) = μ 74 (26 + μ 74 (2 + g)) + c g := w32_id (by omega) (by omega)
  have r2 : m2 (m2 μ 74 (50 + p) (μ 74 (50 + p) - c g)) 74 (26 + μ 74 (2 + g)) (μ 74 (26 + μ 74 (2 + g)) + c g) 74 (14 + μ 74 (2 + g)) = μ 74 (14 + μ 74 (2 + g)) := by rw [m2_at, if_neg (by omega), m2_at, if_neg (by omega)]
  have e8 : w32 (μ 74 (14 + μ 74 (2 + g)) + 1) = μ 74 (14 + μ 74 (2 + g)) + 1 := w32_id (by omega) (by omega)
  refine cal_ev (fun r => call_X9_passGate d b μ p g) (ev_row (fun n => tX9_passGate_0 _ n b μ p g) ?_)
  rw [hw, e5, e1, e2, e3, e4, e6, r1, e7, r2, e8]
  refine ev_if (by omega) (ev_if (by omega) (ev_if (by omega) (ev_if (by omega) (ev_if (by omega) (ev_if (by omega) (ev_if (by omega) (ev_call (sJ9_min _ 200 b _ d hd) (ev_if (by omega) (ev_ret ⟨fr_m2 (fr_m2 (fr_m2 fr_rfl (by decide)) (by decide)) (by decide), fun x => ?_⟩)))))))))
  show m2 (m2 (m2 μ 74 (50 + p) (μ 74 (50 + p) - c g)) 74 (26 + μ 74 (2 + g)) (μ 74 (26 + μ 74 (2 + g)) + c g)) 74 (14 + μ 74 (2 + g)) (if 200 < μ 74 (14 + μ 74 (2 + g)) + 1 then 200 else μ 74 (14 + μ 74 (2 + g)) + 1) 74 x = _
  rw [m2_at, m2_at, m2_at]
  unfold pss
  by_cases q1 : x = 50 + p
  · rw [if_neg (by omega), if_neg (by omega), if_pos q1, if_pos q1]
  · rw [if_neg q1, if_neg q1]
    by_cases q2 : x = 14 + μ 74 (2 + g)
    · rw [if_pos q2, if_neg (show ¬ x = 26 + μ 74 (2 + g) by omega), if_pos q2, q2]
      (repeat' split) <;> omega
    · rw [if_neg q2]
      by_cases q3 : x = 26 + μ 74 (2 + g)
      · rw [if_pos q3, if_pos q3, q3]
      · rw [if_neg q3, if_neg q3, if_neg q2]
