theorem muBegin_congr {μ μ' : Nat → Int → Int} (h : ∀ a, a < 96 → μ' a = μ a) {a : Nat} (ha : a < 96) : muBegin μ' a = muBegin μ a := by
  funext i
  unfold muBegin
  simp only [m2, mCp, m1, mCpy, h 50 (by decide), h 74 (by decide), h a ha]
  by_cases e : a = 52 + (μ 50 1).toNat
  · simp only [if_pos e, h _ (show 52 + (μ 50 1).toNat < 96 by omega)]
  · simp only [if_neg e]
theorem psL_rel {c C f0 : Int → Int} (hC : C 1 ≤ 12) : ∀ (l : List Int) (f g : Int → Int), (∀ x ∈ l, (0 ≤ f0 (2 + x) ∧ f0 (2 + x) < C 1) ∧ (0 ≤ x ∧ x < 12)) → (∀ x, 0 ≤ x → x < 14 → f x = f0 x) → (∀ x, 0 ≤ x → x < 38 → g x = f x) → ∀ x, 0 ≤ x → x < 38 → psL c l g x = psL c l f x
  | [], f, g, _, _, h => h
  | y :: l, f, g, hl, hf, h => by
    obtain ⟨a1, a2⟩ := hl y List.mem_cons_self
    have e1 := hf (2 + y) (by omega) (by omega)
    have e2 := h (2 + y) (by omega) (by omega)
    rw [psL, psL]
    refine psL_rel hC l (pss c f y) (pss c g y) (fun x hx => hl x (List.mem_cons_of_mem y hx)) (fun x x0 x1 => ?_) (fun x x0 x1 => ?_)
    · unfold pss; rw [e1, if_neg (by omega), if_neg (by omega)]; exact hf x x0 x1
    · unfold pss; rw [e2, e1, h x x0 x1]
theorem psL_hi {c C f0 : Int → Int} (hC : C 1 ≤ 12) : ∀ (l : List Int) (f : Int → Int), (∀ x ∈ l, (0 ≤ f0 (2 + x) ∧ f0 (2 + x) < C 1) ∧ (0 ≤ x ∧ x < 12)) → (∀ x, 0 ≤ x → x < 14 → f x = f0 x) → ∀ x, 38 ≤ x → psL c l f x = f x
  | [], f, _, _ => fun _ _ => rfl
  | y :: l, f, hl, hf => fun x hx => by
    obtain ⟨a1, a2⟩ := hl y List.mem_cons_self
    have e1 := hf (2 + y) (by omega) (by omega)
    rw [psL, psL_hi hC l (pss c f y) (fun x hx => hl x (List.mem_cons_of_mem y hx)) (fun x x0 x1 => by unfold pss; rw [e1, if_neg (by omega), if_neg (by omega)]; exact hf x x0 x1) x hx]
    unfold pss; rw [e1, if_neg (by omega), if_neg (by omega)]
/-- the row behind a way -/
def rowG (b : Bool) (μ : Nat → Int → Int) (p : Int) : Int → Int := fun x => if x = 44 + p then μ 74 (38 + p) else if x = 38 + p then μ 74 (44 + p) else if x = 50 + p then μ 74 (50 + p) - farW b μ p (μ 74 (38 + p)) / 16 else psL (wP b μ p) (wayP b μ p (farW b μ p (μ 74 (38 + p)) % 16).toNat) (μ 74) x
theorem R_wayok {b : Bool} {μ : Nat → Int → Int} (p : Int) (hR : R b μ) (p0 : 0 ≤ p) (p1 : p < μ (tw b + 1) 3) (hF : farW b μ p (μ 74 (38 + p)) ≠ 268435456) : (∀ g ∈ wayP b μ p (farW b μ p (μ 74 (38 + p)) % 16).toNat, 0 ≤ g ∧ g < μ (tw b + 1) 2) ∧ farW b μ p (μ 74 (38 + p)) / 16 = sumL (wP b μ p) (wayP b μ p (farW b μ p (μ 74 (38 + p)) % 16).toNat) ∧ 0 ≤ farW b μ p (μ 74 (38 + p)) % 16 ∧ farW b μ p (μ 74 (38 + p)) % 16 ≤ 9 ∧ 0 ≤ farW b μ p (μ 74 (38 + p)) / 16 ∧ farW b μ p (μ 74 (38 + p)) / 16 ≤ 891 := by
  obtain ⟨h1, h2, h3, h4⟩ := R_place hR p0 p1
  have hC := Rcnt_C hR.1.1
  have hD := R_farW hR p0 p1
  obtain ⟨K, h, a1, a2, a3, a4, a5, a6⟩ := D_room (R_gok hR p) (fun g _ _ => wP_in b μ p g) h2.1 (by omega) hD h1.1 (by omega) hF
  obtain ⟨b1, b2⟩ := wayL_ok (R_gok hR p) (fun g _ _ => wP_in b μ p g) h2.1 (by omega) hD h (μ 74 (38 + p)) h1.1 (by omega) hF (by omega)
  have e : (farW b μ p (μ 74 (38 + p)) % 16).toNat = h := by omega
  have b2' : farW b μ p (μ 74 (38 + p)) = 16 * sumL (wP b μ p) (wayP b μ p h) + h := b2
  rw [e]
  exact ⟨fun g hg => by have := b1 g hg; omega, by omega, by omega, by omega, by omega, by omega⟩
theorem R_purse {b : Bool} {μ : Nat → Int → Int} (hR : R b μ) : ∀ m, 0 ≤ m → m < 12 → 0 ≤ μ 74 (26 + m) ∧ μ 74 (26 + m) ≤ 5994 := fun m m0 m1 => by
  obtain ⟨-, o2, o3, o4, o5, o6, o7, o8, o9, o10, o11⟩ := hR.2.1.2
  have h1 := sumN_ge (g := fun p => μ 74 (50 + p)) 6 (fun i i0 i1 => o9 i i0 (by omega))
  have h2 := sumN_ge (g := fun m => μ 74 (26 + m)) 12 (fun i i0 i1 => o6 i i0 (by omega))
  have h3 := h2.2 m m0 (by omega)
  have hC := Rcnt_C hR.1.1
  have h4 := sumN_le (g := μ (tw b + 13)) (c := 999) (μ (tw b + 1) 3).toNat (fun i i0 i1 => (hR.1.2.2.2.2.2.1 i i0 (by omega)).2.2)
  have h5 : (((μ (tw b + 1) 3).toNat : Nat) : Int) * 999 ≤ 6 * 999 := by omega
  exact ⟨o6 m m0 m1, by omega⟩
theorem gInvR_0 {C f : Int → Int} (hA : rowA f) (h6 : ∀ m, 0 ≤ m → m < 12 → 0 ≤ f (26 + m)) (h7 : ∀ m, C 1 ≤ m → m < 12 → f (14 + m) = 0 ∧ f (26 + m) = 0) : gInvR C f f := ⟨fun _ _ => rfl, fun _ _ => rfl, fun m m0 m1 => ⟨hA.2.2.1 m m0 m1, h6 m m0 m1, by omega⟩, h7⟩
theorem R_rowG {b : Bool} {μ : Nat → Int → Int} (p : Int) (hR : R b μ) (p0 : 0 ≤ p) (p1 : p < μ (tw b + 1) 3) (hF : farW b μ p (μ 74 (38 + p)) ≠ 268435456) (hpay : farW b μ p (μ 74 (38 + p)) / 16 ≤ μ 74 (50 + p)) : rowR b μ (rowG b μ p) := by
  obtain ⟨h1, h2, h3, h4⟩ := R_place hR p0 p1
  have hCn := hR.1.1
  have hC := Rcnt_C hCn
  obtain ⟨-, ⟨w1, w2, w3⟩, -, -⟩ := hCn
  obtain ⟨a1, a2, a3, a4, a5, a6⟩ := R_wayok p hR p0 p1 hF
  obtain ⟨hA, o2, o3, o4, o5, o6, o7, o8, o9, o10, o11⟩ := hR.2.1.2
  have hlen : (wayP b μ p (farW b μ p (μ 74 (38 + p)) % 16).toNat).length ≤ 9 := by unfold wayP; rw [wayL_len]; omega
  obtain ⟨i1, i2⟩ := psL_inv (C := μ (tw b + 1)) (c := wP b μ p) (f0 := μ 74) w3 (wayP b μ p (farW b μ p (μ 74 (38 + p)) % 16).toNat) (μ 74) 0 (fun g hg => ⟨o2 g (a1 g hg).1 (a1 g hg).2, by have := a1 g hg; omega, wP_in b μ p g⟩) (fun m _ _ => by omega) (by omega) (gInvR_0 hA o6 o7)
  unfold rowR rowG
  generalize psL (wP b μ p) (wayP b μ p (farW b μ p (μ 74 (38 + p)) % 16).toNat) (μ 74) = f' at i1 i2
  have hk : ∀ x, x ≠ 44 + p → x ≠ 38 + p → x ≠ 50 + p → (fun x => if x = 44 + p then μ 74 (38 + p) else if x = 38 + p then μ 74 (44 + p) else if x = 50 + p then μ 74 (50 + p) - farW b μ p (μ 74 (38 + p)) / 16 else f' x) x = f' x := fun x x1 x2 x3 => by dsimp only; rw [if_neg x1, if_neg x2, if_neg x3]
  have k44 : (fun x => if x = 44 + p then μ 74 (38 + p) else if x = 38 + p then μ 74 (44 + p) else if x = 50 + p then μ 74 (50 + p) - farW b μ p (μ 74 (38 + p)) / 16 else f' x) (44 + p) = μ 74 (38 + p) := if_pos rfl
  have k38 : (fun x => if x = 44 + p then μ 74 (38 + p) else if x = 38 + p then μ 74 (44 + p) else if x = 50 + p then μ 74 (50 + p) - farW b μ p (μ 74 (38 + p)) / 16 else f' x) (38 + p) = μ 74 (44 + p) := by dsimp only; rw [if_neg (by omega), if_pos rfl]
  have k50 : (fun x => if x = 44 + p then μ 74 (38 + p) else if x = 38 + p then μ 74 (44 + p) else if x = 50 + p then μ 74 (50 + p) - farW b μ p (μ 74 (38 + p)) / 16 else f' x) (50 + p) = μ 74 (50 + p) - farW b μ p (μ 74 (38 + p)) / 16 := by dsimp only; rw [if_neg (by omega), if_neg (by omega), if_pos rfl]
  generalize (fun x => if x = 44 + p then μ 74 (38 + p) else if x = 38 + p then μ 74 (44 + p) else if x = 50 + p then μ 74 (50 + p) - farW b μ p (μ 74 (38 + p)) / 16 else f' x) = F at hk k44 k38 k50
  obtain ⟨j1, j2, j3, j4⟩ := i1
  have lo : ∀ x, x < 14 → F x = μ 74 x := fun x hx => by rw [hk x (by omega) (by omega) (by omega)]; exact j1 x hx
  have mid : ∀ x, 14 ≤ x → x < 38 → F x = f' x := fun x x0 x1 => hk x (by omega) (by omega) (by omega)
  have hi : ∀ x, 38 ≤ x → x ≠ 44 + p → x ≠ 38 + p → x ≠ 50 + p → F x = μ 74 x := fun x x0 x1 x2 x3 => by rw [hk x x1 x2 x3]; exact j2 x x0
  have hsum : sumN (fun i => F (50 + i)) 6 = sumN (fun i => μ 74 (50 + i)) 6 - farW b μ p (μ 74 (38 + p)) / 16 := by
    have e : sumN (fun i => F (50 + i)) 6 = sumN (fun i => uPd (μ 74) (50 + p) (μ 74 (50 + p) - farW b μ p (μ 74 (38 + p)) / 16) (50 + i)) 6 := sumN_congr 6 (fun i i0 i1 => by
      rw [uPd_at]
      by_cases q : 50 + i = 50 + p
      · rw [if_pos q, q, k50]
      · rw [if_neg q]; exact hi _ (by omega) (by omega) (by omega) q)
    rw [e, sumN_upd 6 p0 (by omega)]; omega
  refine ⟨⟨?_, ?_, fun m m0 m1 => ?_, fun q q0 q1 => ?_⟩, fun g g0 g1 => ?_, fun g h g0 g1 h0 h1' hh => ?_, fun m => ?_, fun g g0 g1 => ?_, fun m m0 m1 => ?_, fun m m0 m1 => ?_, fun q q0 q1 => ?_, fun q q0 q1 => ?_, fun q q0 q1 => ?_, ?_⟩
  · rw [lo _ (by omega)]; exact hA.1
  · rw [lo _ (by omega)]; exact hA.2.1
  · rw [mid _ (by omega) (by omega)]; exact (j3 m m0 m1).1
  · rw [hi _ (by omega) (by omega) (by omega) (by omega)]; exact hA.2.2.2 q q0 q1
  · rw [lo _ (by omega)]; exact o2 g g0 g1
  · rw [lo _ (by omega), lo _ (by omega)] at hh; exact o3 g h g0 g1 h0 h1' hh
  · rw [← o4 m]
    constructor
    · rintro ⟨y, y0, y1, y2⟩; exact ⟨y, y0, y1, by rw [← lo _ (by omega)]; exact y2⟩
    · rintro ⟨y, y0, y1, y2⟩; exact ⟨y, y0, y1, by rw [lo _ (by omega)]; exact y2⟩
  · rw [lo _ (by omega)]; exact o5 g g0 g1
  · rw [mid _ (by omega) (by omega)]; exact (j3 m m0 m1).2.1
  · rw [mid _ (by omega) (by omega), mid _ (by omega) (by omega)]; exact j4 m m0 m1
  · obtain ⟨u1, u2, u3⟩ := o8 q q0 q1
    by_cases e : q = p
    · subst e
      rw [k38, k44, hi _ (by omega) (by omega) (by omega) (by omega)]; exact ⟨u2, u1, u3⟩
    · rw [hi (38 + q) (by omega) (by omega) (by omega) (by omega), hi (44 + q) (by omega) (by omega) (by omega) (by omega), hi (56 + q) (by omega) (by omega) (by omega) (by omega)]; exact ⟨u1, u2, u3⟩
  · by_cases e : q = p
    · subst e; rw [k50]; omega
    · rw [hi _ (by omega) (by omega) (by omega) (by omega)]; exact o9 q q0 q1
  · rw [hi _ (by omega) (by omega) (by omega) (by omega), hi _ (by omega) (by omega) (by omega) (by omega), hi _ (by omega) (by omega) (by omega) (by omega), hi _ (by omega) (by omega) (by omega) (by omega)]; exact o10 q q0 q1
  · have e2 : sumN (fun i => F (26 + i)) 12 = sumN (fun i => f' (26 + i)) 12 := sumN_congr 12 (fun i i0 i1 => mid _ (by omega) (by omega))
    rw [hsum, e2, i2]; omega
