/-! ===== town: what is told stands, in the reference ===== -/
def CP (ν0 ν : Nat → Int → Int) (a : Nat) (off k : Int) : Prop := ∀ j, ν a j = if off ≤ j ∧ j < off + k then ν0 a (j - off) else ν0 a j
theorem cp_0 {ν0 ν : Nat → Int → Int} {a : Nat} {off : Int} (h : ν a = ν0 a) : CP ν0 ν a off 0 := fun j => by rw [h, if_neg (by omega)]
theorem cp_st {ν0 ν : Nat → Int → Int} {a : Nat} {off k x : Int} (k0 : 0 ≤ k) (k1 : k < off) (h : CP ν0 ν a off k) (hx : x = ν a k) : CP ν0 (m2 ν a (off + k) x) a off (k + 1) := fun j => by
  have hk := h k
  rw [if_neg (by omega)] at hk
  rw [m2_at, hx, hk, h j]
  by_cases q : j = off + k
  · rw [if_pos q, if_pos (by omega), q, show off + k - off = k by omega]
  · rw [if_neg q]
    by_cases q2 : off ≤ j ∧ j < off + k
    · rw [if_pos q2, if_pos (by omega)]
    · rw [if_neg q2, if_neg (by omega)]
theorem cp_ne {ν0 ν : Nat → Int → Int} {a c : Nat} {off k i v : Int} (hc : a ≠ c) (h : CP ν0 ν a off k) : CP ν0 (m2 ν c i v) a off k := fun j => by rw [m2_ne hc]; exact h j
section
variable {b : Bool} {d : Nat} {Q : Int → (Nat → Int → Int) → Prop}
theorem st_2 {ν : Nat → Int → Int} (K : ∀ ν', CP ν ν' 120 4 4 → (∀ a, a ≠ 120 → ν' a = ν a) → Ev (fun m => mRun (mCallN d) kX10_stands m 29 [some (mP 96), some (mI 0), none] [] (SH, ν', RHO b)) b Q) : Ev (fun m => mRun (mCallN d) kX10_stands m 2 [some (mP 96), some (mI 0), none] [] (SH, ν, RHO b)) b Q := by
  have lp : ∀ (r : Nat) (k : Int) (ν' : Nat → Int → Int), 0 ≤ k → k + r = 4 → CP ν ν' 120 4 k → (∀ a, a ≠ 120 → ν' a = ν a) → Ev (fun m => mRun (mCallN d) kX10_stands m 2 [some (mP 96), some (mI k), none] [] (SH, ν', RHO b)) b Q := by
    intro r
    induction r with
    | zero =>
      intro k ν' k0 hk h1 h2
      have e : k = 4 := by omega
      subst e
      exact ev_row (fun m => tX10_stands_2 _ m b ν' _) (ev_neg (by omega) (K ν' h1 h2))
    | succ r ih =>
      intro k ν' k0 hk h1 h2
      have w1 : ∀ _ : True, w32 (4 + k) = 4 + k := fun _ => w32_id (by omega) (by omega)
      have w2 : ∀ _ : True, w32 (k + 1) = k + 1 := fun _ => w32_id (by omega) (by omega)
      refine ev_row (fun m => tX10_stands_2 _ m b ν' _) (ev_pos (by omega) ?_)
      rw [w1 trivial, w2 trivial]
      exact ev_if (by omega) (ev_if (by omega) (ih (k + 1) _ (by omega) (by omega) (cp_st k0 (by omega) h1 rfl) (fun a ha => by rw [m2_ne ha]; exact h2 a ha)))
  exact lp 4 0 ν (by decide) (by decide) (cp_0 rfl) (fun _ _ => rfl)
theorem st_29 {ν : Nat → Int → Int} (K : ∀ ν', CP ν ν' 121 36 36 → CP ν ν' 124 36 36 → (∀ a, a ≠ 121 → a ≠ 124 → ν' a = ν a) → Ev (fun m => mRun (mCallN d) kX10_stands m 73 [some (mP 96), some (mI 0), none] [] (SH, ν', RHO b)) b Q) : Ev (fun m => mRun (mCallN d) kX10_stands m 29 [some (mP 96), some (mI 0), none] [] (SH, ν, RHO b)) b Q := by
  have lp : ∀ (r : Nat) (k : Int) (ν' : Nat → Int → Int), 0 ≤ k → k + r = 36 → CP ν ν' 121 36 k → CP ν ν' 124 36 k → (∀ a, a ≠ 121 → a ≠ 124 → ν' a = ν a) → Ev (fun m => mRun (mCallN d) kX10_stands m 29 [some (mP 96), some (mI k), none] [] (SH, ν', RHO b)) b Q := by
    intro r
    induction r with
    | zero =>
      intro k ν' k0 hk h1 h2 h3
      have e : k = 36 := by omega
      subst e
      exact ev_row (fun m => tX10_stands_29 _ m b ν' _) (ev_neg (by omega) (K ν' h1 h2 h3))
    | succ r ih =>
      intro k ν' k0 hk h1 h2 h3
      have w1 : ∀ _ : True, w32 (36 + k) = 36 + k := fun _ => w32_id (by omega) (by omega)
      have w2 : ∀ _ : True, w32 (k + 1) = k + 1 := fun _ => w32_id (by omega) (by omega)
      refine ev_row (fun m => tX10_stands_29 _ m b ν' _) (ev_pos (by omega) ?_)
      rw [w1 trivial, w2 trivial]
      exact ev_if (by omega) (ev_if (by omega) (ev_if (by omega) (ev_if (by omega) (ih (k + 1) _ (by omega) (by omega) (cp_ne (by decide) (cp_st k0 (by omega) h1 rfl)) (cp_st k0 (by omega) (cp_ne (by decide) h2) rfl) (fun a ha hb => by rw [m2_ne hb, m2_ne ha]; exact h3 a ha hb)))))
  exact lp 36 0 ν (by decide) (by decide) (cp_0 rfl) (cp_0 rfl) (fun _ _ _ => rfl)
theorem st_73 {ν : Nat → Int → Int} (K : ∀ ν', CP ν ν' 125 24 24 → (∀ a, a ≠ 125 → ν' a = ν a) → Ev (fun m => mRun (mCallN d) kX10_stands m 102 [some (mP 96), some (mI 0), none] [] (SH, ν', RHO b)) b Q) : Ev (fun m => mRun (mCallN d) kX10_stands m 73 [some (mP 96), some (mI 0), none] [] (SH, ν, RHO b)) b Q := by
  have lp : ∀ (r : Nat) (k : Int) (ν' : Nat → Int → Int), 0 ≤ k → k + r = 24 → CP ν ν' 125 24 k → (∀ a, a ≠ 125 → ν' a = ν a) → Ev (fun m => mRun (mCallN d) kX10_stands m 73 [some (mP 96), some (mI k), none] [] (SH, ν', RHO b)) b Q := by
    intro r
    induction r with
    | zero =>
      intro k ν' k0 hk h1 h2
      have e : k = 24 := by omega
      subst e
      exact ev_row (fun m => tX10_stands_73 _ m b ν' _) (ev_neg (by omega) (K ν' h1 h2))
    | succ r ih =>
      intro k ν' k0 hk h1 h2
      have w1 : ∀ _ : True, w32 (24 + k) = 24 + k := fun _ => w32_id (by omega) (by omega)
      have w2 : ∀ _ : True, w32 (k + 1) = k + 1 := fun _ => w32_id (by omega) (by omega)
      refine ev_row (fun m => tX10_stands_73 _ m b ν' _) (ev_pos (by omega) ?_)
      rw [w1 trivial, w2 trivial]
      exact ev_if (by omega) (ev_if (by omega) (ih (k + 1) _ (by omega) (by omega) (cp_st k0 (by omega) h1 rfl) (fun a ha => by rw [m2_ne ha]; exact h2 a ha)))
  exact lp 24 0 ν (by decide) (by decide) (cp_0 rfl) (fun _ _ => rfl)
theorem st_102 {ν : Nat → Int → Int} (K : ∀ ν', CP ν ν' 122 12 12 → CP ν ν' 128 12 12 → CP ν ν' 129 12 12 → CP ν ν' 130 12 12 → (∀ a, a ≠ 122 → a ≠ 128 → a ≠ 129 → a ≠ 130 → ν' a = ν a) → Ev (fun m => mRun (mCallN d) kX10_stands m 176 [some (mP 96), some (mI 0), none] [] (SH, ν', RHO b)) b Q) : Ev (fun m => mRun (mCallN d) kX10_stands m 102 [some (mP 96), some (mI 0), none] [] (SH, ν, RHO b)) b Q := by
  have lp : ∀ (r : Nat) (k : Int) (ν' : Nat → Int → Int), 0 ≤ k → k + r = 12 → CP ν ν' 122 12 k → CP ν ν' 128 12 k → CP ν ν' 129 12 k → CP ν ν' 130 12 k → (∀ a, a ≠ 122 → a ≠ 128 → a ≠ 129 → a ≠ 130 → ν' a = ν a) → Ev (fun m => mRun (mCallN d) kX10_stands m 102 [some (mP 96), some (mI k), none] [] (SH, ν', RHO b)) b Q := by
    intro r
    induction r with
    | zero =>
      intro k ν' k0 hk h1 h2 h3 h4 h5
      have e : k = 12 := by omega
      subst e
      exact ev_row (fun m => tX10_stands_102 _ m b ν' _) (ev_neg (by omega) (K ν' h1 h2 h3 h4 h5))
    | succ r ih =>
      intro k ν' k0 hk h1 h2 h3 h4 h5
      have w1 : ∀ _ : True, w32 (12 + k) = 12 + k := fun _ => w32_id (by omega) (by omega)
      have w2 : ∀ _ : True, w32 (k + 1) = k + 1 := fun _ => w32_id (by omega) (by omega)
      refine ev_row (fun m => tX10_stands_102 _ m b ν' _) (ev_pos (by omega) ?_)
      rw [w1 trivial, w2 trivial]
      have c1 : 0 ≤ k ∧ k < 24 := by omega
      have c2 : 0 ≤ 12 + k ∧ 12 + k < 24 := by omega
      exact ev_if c1 (ev_if c2 (ev_if c1 (ev_if c2 (ev_if c1 (ev_if c2 (ev_if c1 (ev_if c2 (ih (k + 1) _ (by omega) (by omega) (cp_ne (by decide) (cp_ne (by decide) (cp_ne (by decide) (cp_st k0 (by omega) h1 rfl)))) (cp_ne (by decide) (cp_ne (by decide) (cp_st k0 (by omega) (cp_ne (by decide) h2) rfl))) (cp_ne (by decide) (cp_st k0 (by omega) (cp_ne (by decide) (cp_ne (by decide) h3)) rfl)) (cp_st k0 (by omega) (cp_ne (by decide) (cp_ne (by decide) (cp_ne (by decide) h4))) rfl) (fun a ha hb hc hd => by rw [m2_ne hd, m2_ne hc, m2_ne hb, m2_ne ha]; exact h5 a ha hb hc hd)))))))))
  exact lp 12 0 ν (by decide) (by decide) (cp_0 rfl) (cp_0 rfl) (cp_0 rfl) (cp_0 rfl) (fun _ _ _ _ _ => rfl)
theorem st_176 {ν : Nat → Int → Int} {L : Nat} (hL : ν 96 41 = (L : Int)) (hL1 : L ≤ 1600) (K : ∀ ν', CP ν ν' 126 1600 (L : Int) → (∀ a, a ≠ 126 → ν' a = ν a) → Ev (fun m => mRun (mCallN d) kX10_stands m 208 [some (mP 96), some (mI 0), none] [] (SH, ν', RHO b)) b Q) : Ev (fun m => mRun (mCallN d) kX10_stands m 176 [some (mP 96), some (mI 0), none] [] (SH, ν, RHO b)) b Q := by
  have lp : ∀ (r : Nat) (k : Int) (ν' : Nat → Int → Int), 0 ≤ k → k + r = (L : Int) → CP ν ν' 126 1600 k → (∀ a, a ≠ 126 → ν' a = ν a) → Ev (fun m => mRun (mCallN d) kX10_stands m 176 [some (mP 96), some (mI k), none] [] (SH, ν', RHO b)) b Q := by
    intro r
    induction r with
    | zero =>
      intro k ν' k0 hk h1 h2
      have e : k = (L : Int) := by omega
      subst e
      exact ev_row (fun m => tX10_stands_176 _ m b ν' _) (ev_neg (by rw [h2 96 (by decide), hL]; omega) (K ν' h1 h2))
    | succ r ih =>
      intro k ν' k0 hk h1 h2
      have w1 : ∀ _ : True, w32 (1600 + k) = 1600 + k := fun _ => w32_id (by omega) (by omega)
      have w2 : ∀ _ : True, w32 (k + 1) = k + 1 := fun _ => w32_id (by omega) (by omega)
      refine ev_row (fun m => tX10_stands_176 _ m b ν' _) (ev_pos (by rw [h2 96 (by decide), hL]; omega) ?_)
      rw [w1 trivial, w2 trivial]
      exact ev_if (by omega) (ev_if (by omega) (ih (k + 1) _ (by omega) (by omega) (cp_st k0 (by omega) h1 rfl) (fun a ha => by rw [m2_ne ha]; exact h2 a ha)))
  exact lp L 0 ν (by decide) (by omega) (cp_0 rfl) (fun _ _ => rfl)
theorem st_208 {ν : Nat → Int → Int} (K : ∀ ν', (∀ j, 0 ≤ j → j < 62 → ν' 133 j = if j = 1 then ν 96 38 else 0) → (∀ a, a ≠ 133 → ν' a = ν a) → Ev (fun m => mRun (mCallN d) kX10_stands m 239 [some (mP 96), some (mI 0), none] [] (SH, ν', RHO b)) b Q) : Ev (fun m => mRun (mCallN d) kX10_stands m 208 [some (mP 96), some (mI 0), none] [] (SH, ν, RHO b)) b Q := by
  have lp : ∀ (r : Nat) (k : Int) (ν' : Nat → Int → Int), 0 ≤ k → k + r = 62 → (∀ j, 0 ≤ j → j < k → ν' 133 j = 0) → (∀ a, a ≠ 133 → ν' a = ν a) → Ev (fun m => mRun (mCallN d) kX10_stands m 208 [some (mP 96), some (mI k), none] [] (SH, ν', RHO b)) b Q := by
    intro r
    induction r with
    | zero =>
      intro k ν' k0 hk h1 h2
      refine ev_row (fun m => tX10_stands_208 _ m b ν' _) (ev_neg (by omega) (K _ (fun j j0 j1 => ?_) (fun a ha => by rw [m2_ne ha]; exact h2 a ha)))
      rw [m2_at, h2 96 (by decide), h1 j j0 (by omega)]
    | succ r ih =>
      intro k ν' k0 hk h1 h2
      have w2 : ∀ _ : True, w32 (k + 1) = k + 1 := fun _ => w32_id (by omega) (by omega)
      refine ev_row (fun m => tX10_stands_208 _ m b ν' _) (ev_pos (by omega) ?_)
      rw [w2 trivial]
      refine ev_if (by omega) (ih (k + 1) _ (by omega) (by omega) (fun j j0 j1 => ?_) (fun a ha => by rw [m2_ne ha]; exact h2 a ha))
      rw [m2_at]
      by_cases q : j = k
      · rw [if_pos q]
      · rw [if_neg q]; exact h1 j j0 (by omega)
  exact lp 62 0 ν (by decide) (by decide) (fun j j0 j1 => by omega) (fun _ _ => rfl)
theorem st_239 {ν : Nat → Int → Int} {G : Nat} {H : Int} (hG : ν 120 3 = (G : Int)) (hG1 : G ≤ 12) (h0 : ∀ j, 0 ≤ j → j < 62 → ν 133 j = if j = 1 then H else 0) (K : ∀ ν', (∀ j, 0 ≤ j → j < 62 → ν' 133 j = if j = 1 then H else if 2 ≤ j ∧ j < 2 + (G : Int) then ν 124 (3 * (j - 2) + 2) else 0) → (∀ a, a ≠ 133 → ν' a = ν a) → Ev (fun m => mRun (mCallN d) kX10_stands m 275 [some (mP 96), some (mI 0), none] [] (SH, ν', RHO b)) b Q) : Ev (fun m => mRun (mCallN d) kX10_stands m 239 [some (mP 96), some (mI 0), none] [] (SH, ν, RHO b)) b Q := by
  have lp : ∀ (r : Nat) (k : Int) (ν' : Nat → Int → Int), 0 ≤ k → k + r = (G : Int) → (∀ j, 0 ≤ j → j < 62 → ν' 133 j = if j = 1 then H else if 2 ≤ j ∧ j < 2 + k then ν 124 (3 * (j - 2) + 2) else 0) → (∀ a, a ≠ 133 → ν' a = ν a) → Ev (fun m => mRun (mCallN d) kX10_stands m 239 [some (mP 96), some (mI k), none] [] (SH, ν', RHO b)) b Q := by
    intro r
    induction r with
    | zero =>
      intro k ν' k0 hk h1 h2
      have e : k = (G : Int) := by omega
      subst e
      exact ev_row (fun m => tX10_stands_239 _ m b ν' _) (ev_neg (by rw [h2 120 (by decide), hG]; omega) (K ν' h1 h2))
    | succ r ih =>
      intro k ν' k0 hk h1 h2
      have w0 : ∀ _ : True, w32 (3 * k) = 3 * k := fun _ => w32_id (by omega) (by omega)
      have w1 : ∀ _ : True, w32 (3 * k + 2) = 3 * k + 2 := fun _ => w32_id (by omega) (by omega)
      have w3 : ∀ _ : True, w32 (2 + k) = 2 + k := fun _ => w32_id (by omega) (by omega)
      have w2 : ∀ _ : True, w32 (k + 1) = k + 1 := fun _ => w32_id (by omega) (by omega)
      refine ev_row (fun m => tX10_stands_239 _ m b ν' _) (ev_pos (by rw [h2 120 (by decide), hG]; omega) ?_)
      rw [w0 trivial, w1 trivial, w3 trivial, w2 trivial]
      refine ev_if (by omega) (ev_if (by omega) (ih (k + 1) _ (by omega) (by omega) (fun j j0 j1 => ?_) (fun a ha => by rw [m2_ne ha]; exact h2 a ha)))
      rw [m2_at, h2 124 (by decide)]
      by_cases q : j = 2 + k
      · rw [if_pos q, if_neg (by omega), if_pos (by omega), q, show 2 + k - 2 = k by omega]
      · rw [if_neg q, h1 j j0 j1]
        by_cases q1 : j = 1
        · rw [if_pos q1, if_pos q1]
        · rw [if_neg q1, if_neg q1]
          by_cases q2 : 2 ≤ j ∧ j < 2 + k
          · rw [if_pos q2, if_pos (by omega)]
          · rw [if_neg q2, if_neg (by omega)]
  refine lp G 0 ν (by decide) (by omega) (fun j j0 j1 => ?_) (fun _ _ => rfl)
  rw [h0 j j0 j1]
  by_cases q : j = 1
  · rw [if_pos q, if_pos q]
  · rw [if_neg q, if_neg q, if_neg (by omega)]
/-- the people's places in the row -/
def ppF (f : Int → Int) (k : Int) (j : Int) : Int := if (j - 38) / 4 < k ∧ (j - 38) % 4 < 3 then f (j - 38) else 0
theorem st_275 {ν : Nat → Int → Int} {P : Nat} {F : Int → Int} (hP : ν 120 2 = (P : Int)) (hP1 : P ≤ 6) (h0 : ∀ j, 0 ≤ j → j < 62 → ν 133 j = if j < 38 then F j else 0) (K : ∀ ν' v2, (∀ j, 0 ≤ j → j < 62 → ν' 133 j = if j < 38 then F j else ppF (ν 125) (P : Int) j) → (∀ a, a ≠ 133 → ν' a = ν a) → Ev (fun m => mRun (mCallN d) kX10_stands m 329 [some (mP 96), some (mI 0), v2] [] (SH, ν', RHO b)) b Q) : Ev (fun m => mRun (mCallN d) kX10_stands m 275 [some (mP 96), some (mI 0), none] [] (SH, ν, RHO b)) b Q := by
  have lp : ∀ (r : Nat) (k : Int) (v2 : Option mV) (ν' : Nat → Int → Int), 0 ≤ k → k + r = (P : Int) → (∀ j, 0 ≤ j → j < 62 → ν' 133 j = if j < 38 then F j else ppF (ν 125) k j) → (∀ a, a ≠ 133 → ν' a = ν a) → Ev (fun m => mRun (mCallN d) kX10_stands m 275 [some (mP 96), some (mI k), v2] [] (SH, ν', RHO b)) b Q := by
    intro r
    induction r with
    | zero =>
      intro k v2 ν' k0 hk h1 h2
      have e : k = (P : Int) := by omega
      subst e
      exact ev_row (fun m => tX10_stands_275 _ m b ν' _ _) (ev_neg (by rw [h2 120 (by decide), hP]; omega) (K ν' v2 h1 h2))
    | succ r ih =>
      intro k v2 ν' k0 hk h1 h2
      have w0 : ∀ _ : True, w32 (4 * k) = 4 * k := fun _ => w32_id (by omega) (by omega)
      have w1 : ∀ t, 0 ≤ t → t < 4 → w32 (4 * k + t) = 4 * k + t := fun t _ _ => w32_id (by omega) (by omega)
      have w3 : ∀ _ : True, w32 (38 + 4 * k) = 38 + 4 * k := fun _ => w32_id (by omega) (by omega)
      have w4 : ∀ t, 0 ≤ t → t < 4 → w32 (38 + 4 * k + t) = 38 + 4 * k + t := fun t _ _ => w32_id (by omega) (by omega)
      have w2 : ∀ _ : True, w32 (k + 1) = k + 1 := fun _ => w32_id (by omega) (by omega)
      have st : ∀ (t : Int) (ν2 : Nat → Int → Int), 0 ≤ t → t < 3 → Ev (fun m => mRun (mCallN d) kX10_stands m 287 [some (mP 96), some (mI k), some (mI (t + 1))] [] (SH, m2 ν2 133 (38 + 4 * k + t) (ν2 125 (4 * k + t)), RHO b)) b Q → Ev (fun m => mRun (mCallN d) kX10_stands m 287 [some (mP 96), some (mI k), some (mI t)] [] (SH, ν2, RHO b)) b Q := fun t ν2 t0 t1 hh => by
        refine ev_row (fun m => tX10_stands_287 _ m b ν2 _ _) (ev_pos (by omega) ?_)
        rw [w0 trivial, w1 t t0 (by omega), w3 trivial, w4 t t0 (by omega), w32_id (x := t + 1) (by omega) (by omega)]
        exact ev_if (by omega) (ev_if (by omega) hh)
      refine ev_row (fun m => tX10_stands_275 _ m b ν' _ _) (ev_pos (by rw [h2 120 (by decide), hP]; omega) (st 0 _ (by decide) (by decide) (st 1 _ (by decide) (by decide) (st 2 _ (by decide) (by decide) ?_))))
      refine ev_row (fun m => tX10_stands_287 _ m b _ _ _) (ev_neg (by decide) ?_)
      rw [w2 trivial]
      refine ih (k + 1) _ _ (by omega) (by omega) (fun j j0 j1 => ?_) (fun a ha => by rw [m2_ne ha, m2_ne ha, m2_ne ha]; exact h2 a ha)
      rw [m2_at, m2_at, m2_at, m2_ne (by decide), m2_ne (by decide), h2 125 (by decide)]
      by_cases c2 : j = 38 + 4 * k + 2
      · rw [if_pos c2, if_neg (by omega)]; unfold ppF; rw [if_pos (by omega), show j - 38 = 4 * k + 2 by omega]
      · rw [if_neg c2]
        by_cases c1 : j = 38 + 4 * k + 1
        · rw [if_pos c1, if_neg (by omega)]; unfold ppF; rw [if_pos (by omega), show j - 38 = 4 * k + 1 by omega]
        · rw [if_neg c1]
          by_cases c0 : j = 38 + 4 * k + 0
          · rw [if_pos c0, if_neg (by omega)]; unfold ppF; rw [if_pos (by omega), show j - 38 = 4 * k + 0 by omega]
          · rw [if_neg c0, h1 j j0 j1]
            by_cases q : j < 38
            · rw [if_pos q, if_pos q]
            · rw [if_neg q, if_neg q]
              unfold ppF
              by_cases q2 : (j - 38) / 4 < k ∧ (j - 38) % 4 < 3
              · rw [if_pos q2, if_pos (by omega)]
              · rw [if_neg q2, if_neg (by omega)]
  refine lp P 0 none ν (by decide) (by omega) (fun j j0 j1 => ?_) (fun _ _ => rfl)
  rw [h0 j j0 j1]
  by_cases q : j < 38
  · rw [if_pos q, if_pos q]
  · rw [if_neg q, if_neg q]; unfold ppF; rw [if_neg (by omega)]
theorem st_329 {ν : Nat → Int → Int} {P : Nat} {v2 : Option mV} (hP : ν 120 2 = (P : Int)) (hP1 : P ≤ 6) (K : ∀ ν', (∀ p, 0 ≤ p → p < (P : Int) → ν' 134 p = ν 125 (4 * p + 3)) → (∀ a, a ≠ 134 → a ≠ 96 → ν' a = ν a) → (∀ j, ν' 96 j = if j = 67 then 0 else if j = 58 then 0 else ν 96 j) → Q 0 ν') : Ev (fun m => mRun (mCallN d) kX10_stands m 329 [some (mP 96), some (mI 0), v2] [] (SH, ν, RHO b)) b Q := by
  have lp : ∀ (r : Nat) (k : Int) (ν' : Nat → Int → Int), 0 ≤ k → k + r = (P : Int) → (∀ p, 0 ≤ p → p < k → ν' 134 p = ν 125 (4 * p + 3)) → (∀ a, a ≠ 134 → ν' a = ν a) → Ev (fun m => mRun (mCallN d) kX10_stands m 329 [some (mP 96), some (mI k), v2] [] (SH, ν', RHO b)) b Q := by
    intro r
    induction r with
    | zero =>
      intro k ν' k0 hk h1 h2
      refine ev_row (fun m => tX10_stands_329 _ m b ν' _ _) (ev_neg (by rw [h2 120 (by decide), hP]; omega) (ev_ret (K _ (fun p p0 p1 => ?_) (fun a ha hb => by rw [m2_ne hb, m2_ne hb]; exact h2 a ha) (fun j => by rw [m2_at, m2_at, h2 96 (by decide)]))))
      rw [m2_ne (by decide), m2_ne (by decide)]; exact h1 p p0 (by omega)
    | succ r ih =>
      intro k ν' k0 hk h1 h2
      have w0 : ∀ _ : True, w32 (4 * k) = 4 * k := fun _ => w32_id (by omega) (by omega)
      have w1 : ∀ _ : True, w32 (4 * k + 3) = 4 * k + 3 := fun _ => w32_id (by omega) (by omega)
      have w2 : ∀ _ : True, w32 (k + 1) = k + 1 := fun _ => w32_id (by omega) (by omega)
      refine ev_row (fun m => tX10_stands_329 _ m b ν' _ _) (ev_pos (by rw [h2 120 (by decide), hP]; omega) ?_)
      rw [w0 trivial, w1 trivial, w2 trivial]
      refine ev_if (by omega) (ev_if (by omega) (ih (k + 1) _ (by omega) (by omega) (fun p p0 p1 => ?_) (fun a ha => by rw [m2_ne ha]; exact h2 a ha)))
      rw [m2_at, h2 125 (by decide)]
      by_cases q : p = k
      · rw [if_pos q, q]
      · rw [if_neg q]; exact h1 p p0 (by omega)
  exact lp P 0 ν (by decide) (by omega) (fun p p0 p1 => by omega) (fun _ _ => rfl)
end
/-- what stands -/
def Std (ν ν' : Nat → Int → Int) (L G P : Nat) : Prop := (CP ν ν' 120 4 4 ∧ CP ν ν' 121 36 36 ∧ CP ν ν' 124 36 36 ∧ CP ν ν' 125 24 24 ∧ CP ν ν' 122 12 12 ∧ CP ν ν' 128 12 12 ∧ CP ν ν' 129 12 12 ∧ CP ν ν' 130 12 12 ∧ CP ν ν' 126 1600 (L : Int)) ∧ (∀ j, 0 ≤ j → j < 62 → ν' 133 j = if j < 38 then (if j = 1 then ν 96 38 else if 2 ≤ j ∧ j < 2 + (G : Int) then ν 124 (3 * (j - 2) + 2) else 0) else ppF (ν 125) (P : Int) j) ∧ (∀ p, 0 ≤ p → p < (P : Int) → ν' 134 p = ν 125 (4 * p + 3)) ∧ (∀ j, ν' 96 j = if j = 67 then 0 else if j = 58 then 0 else ν 96 j) ∧ (∀ a, a ∉ [96, 120, 121, 122, 124, 125, 126, 128, 129, 130, 133, 134] → ν' a = ν a)
theorem sX10_stands (b : Bool) (ν : Nat → Int → Int) {L G P : Nat} (hL : ν 96 41 = (L : Int)) (hL1 : L ≤ 1600) (hG : ν 120 3 = (G : Int)) (hG1 : G ≤ 12) (hP : ν 120 2 = (P : Int)) (hP1 : P ≤ 6) : ∀ d, 1 ≤ d → Cal d 116 [mP 96] b ν (fun _ ν' => Std ν ν' L G P) := deepC fun d _ => by
  refine cal_ev (fun r => call_X10_stands d b ν) (ev_row (fun m => tX10_stands_0 _ m b ν) (st_2 (fun ν1 a1 a2 => st_29 (fun ν2 b1 b2 b3 => st_73 (fun ν3 c1 c2 => st_102 (fun ν4 d1 d2 d3 d4 d5 => ?_))))))
  have e96 : ν4 96 = ν 96 := by rw [d5 96 (by decide) (by decide) (by decide) (by decide), c2 96 (by decide), b3 96 (by decide) (by decide), a2 96 (by decide)]
  refine st_176 (L := L) (by rw [e96]; exact hL) hL1 (fun ν5 f1 f2 => st_208 (fun ν6 g1 g2 => ?_))
  have e120 : ν6 120 = ν1 120 := by rw [g2 120 (by decide), f2 120 (by decide), d5 120 (by decide) (by decide) (by decide) (by decide), c2 120 (by decide), b3 120 (by decide) (by decide)]
  have q120 : ∀ j, j < 4 → ν6 120 j = ν 120 j := fun j hj => by rw [e120, a1 j, if_neg (by omega)]
  refine st_239 (G := G) (H := ν 96 38) (by rw [q120 3 (by decide)]; exact hG) hG1 (fun j j0 j1 => by rw [g1 j j0 j1, f2 96 (by decide), e96]) (fun ν7 h1 h2 => ?_)
  refine st_275 (P := P) (F := fun j => if j = 1 then ν 96 38 else if 2 ≤ j ∧ j < 2 + (G : Int) then ν6 124 (3 * (j - 2) + 2) else 0) (by rw [h2 120 (by decide), q120 2 (by decide)]; exact hP) hP1 (fun j j0 j1 => ?_) (fun ν8 v2 i1 i2 => st_329 (P := P) (by rw [i2 120 (by decide), h2 120 (by decide), q120 2 (by decide)]; exact hP) hP1 (fun ν9 k1 k2 k3 => ?_))
  · rw [h1 j j0 j1]
    by_cases q : j < 38
    · rw [if_pos q]
    · rw [if_neg q, if_neg (by omega), if_neg (by omega)]
  · have n124 : ν6 124 = ν2 124 := by rw [g2 124 (by decide), f2 124 (by decide), d5 124 (by decide) (by decide) (by decide) (by decide), c2 124 (by decide)]
    have n125 : ν8 125 = ν3 125 := by rw [i2 125 (by decide), h2 125 (by decide), g2 125 (by decide), f2 125 (by decide), d5 125 (by decide) (by decide) (by decide) (by decide)]
    have n125' : ν7 125 = ν3 125 := by rw [h2 125 (by decide), g2 125 (by decide), f2 125 (by decide), d5 125 (by decide) (by decide) (by decide) (by decide)]
    have v125 : ∀ j, j < 24 → ν3 125 j = ν 125 j := fun j hj => by rw [c1 j, if_neg (by omega), b3 125 (by decide) (by decide), a2 125 (by decide)]
    have v124 : ∀ j, j < 36 → ν2 124 j = ν 124 j := fun j hj => by rw [b2 j, if_neg (by omega), a2 124 (by decide)]
    have up : ∀ {α β : Nat → Int → Int} {a : Nat} {o k : Int}, CP α β a o k → α a = ν a → ν9 a = β a → CP ν ν9 a o k := fun {α β a o k} hh e1 e2 j => by rw [e2, hh j, e1]
    have late : ∀ a, a ≠ 133 → a ≠ 134 → a ≠ 96 → ν9 a = ν5 a := fun a x1 x2 x3 => by rw [k2 a x2 x3, i2 a x1, h2 a x1, g2 a x1]
    refine ⟨⟨?_, ?_, ?_, ?_, ?_, ?_, ?_, ?_, ?_⟩, fun j j0 j1 => ?_, fun p p0 p1 => ?_, fun j => ?_, fun a ha => ?_⟩
    · exact up a1 rfl (by rw [late 120 (by decide) (by decide) (by decide), f2 120 (by decide), d5 120 (by decide) (by decide) (by decide) (by decide), c2 120 (by decide), b3 120 (by decide) (by decide)])
    · exact up b1 (a2 121 (by decide)) (by rw [late 121 (by decide) (by decide) (by decide), f2 121 (by decide), d5 121 (by decide) (by decide) (by decide) (by decide), c2 121 (by decide)])
    · exact up b2 (a2 124 (by decide)) (by rw [late 124 (by decide) (by decide) (by decide), f2 124 (by decide), d5 124 (by decide) (by decide) (by decide) (by decide), c2 124 (by decide)])
    · exact up c1 (by rw [b3 125 (by decide) (by decide), a2 125 (by decide)]) (by rw [late 125 (by decide) (by decide) (by decide), f2 125 (by decide), d5 125 (by decide) (by decide) (by decide) (by decide)])
    · exact up d1 (by rw [c2 122 (by decide), b3 122 (by decide) (by decide), a2 122 (by decide)]) (by rw [late 122 (by decide) (by decide) (by decide), f2 122 (by decide)])
    · exact up d2 (by rw [c2 128 (by decide), b3 128 (by decide) (by decide), a2 128 (by decide)]) (by rw [late 128 (by decide) (by decide) (by decide), f2 128 (by decide)])
    · exact up d3 (by rw [c2 129 (by decide), b3 129 (by decide) (by decide), a2 129 (by decide)]) (by rw [late 129 (by decide) (by decide) (by decide), f2 129 (by decide)])
    · exact up d4 (by rw [c2 130 (by decide), b3 130 (by decide) (by decide), a2 130 (by decide)]) (by rw [late 130 (by decide) (by decide) (by decide), f2 130 (by decide)])
    · exact up f1 (by rw [d5 126 (by decide) (by decide) (by decide) (by decide), c2 126 (by decide), b3 126 (by decide) (by decide), a2 126 (by decide)]) (late 126 (by decide) (by decide) (by decide))
    · rw [k2 133 (by decide) (by decide), i1 j j0 j1]
      by_cases q : j < 38
      · rw [if_pos q, if_pos q, n124]
        by_cases q1 : j = 1
        · rw [if_pos q1, if_pos q1]
        · rw [if_neg q1, if_neg q1]
          by_cases q2 : 2 ≤ j ∧ j < 2 + (G : Int)
          · rw [if_pos q2, if_pos q2, v124 _ (by omega)]
          · rw [if_neg q2, if_neg q2]
      · rw [if_neg q, if_neg q, n125']
        unfold ppF
        by_cases q2 : (j - 38) / 4 < (P : Int) ∧ (j - 38) % 4 < 3
        · rw [if_pos q2, if_pos q2, v125 _ (by omega)]
        · rw [if_neg q2, if_neg q2]
    · rw [k1 p p0 p1, n125, v125 _ (by omega)]
    · rw [k3 j, i2 96 (by decide), h2 96 (by decide), g2 96 (by decide), f2 96 (by decide), e96]
    · simp only [List.mem_cons, List.not_mem_nil, or_false, not_or] at ha
      rw [k2 a (by omega) (by omega), i2 a (by omega), h2 a (by omega), g2 a (by omega), f2 a (by omega), d5 a (by omega) (by omega) (by omega) (by omega), c2 a (by omega), b3 a (by omega) (by omega), a2 a (by omega)]
