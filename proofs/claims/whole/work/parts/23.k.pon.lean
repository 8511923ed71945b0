/-! ===== on ===== -/
theorem Wr_row {b : Bool} {μ : Nat → Int → Int} (hR : R b μ) {f : Int → Int} (h : Wr (μ 3) (μ 133) (μ (tw b + 1) 2) (μ (tw b + 1) 1) (μ (tw b + 1) 2) (μ (tw b + 1) 1) (μ (tw b + 1) 3) f) : Rrow (rowN b μ) f := by
  obtain ⟨⟨z1, z2, z3⟩, ⟨w1, w2, w3⟩, ⟨y1, y2, y3⟩, ⟨x1, x2, x3⟩⟩ := hR.1.1
  obtain ⟨q0, q1, qG, qM, qM2, qP⟩ := rowQ_at (t := μ 3) (G := μ (tw b + 1) 2) (M := μ (tw b + 1) 1) (P := μ (tw b + 1) 3) ⟨y2, y3⟩ ⟨w2, w3⟩ ⟨x2, x3⟩
  obtain ⟨rr, ro⟩ := hR.2.1
  obtain ⟨o1, o2, o3, o4, o5, o6, o7, o8, o9, o10, o11⟩ := ro
  obtain ⟨⟨a0, a1⟩, aG, aM, aP⟩ := h
  refine ⟨fun i i0 i1 => ?_, fun p p0 p1 => ?_⟩
  · show f i = rowQ _ _ _ _ _ _ i
    by_cases c0 : i = 0
    · rw [c0, q0, a0]
    by_cases c1 : i = 1
    · rw [c1, q1, a1]
    by_cases c2 : i < 14
    · have e : i = 2 + (i - 2) := by omega
      rw [e, qG (i - 2) (by omega) (by omega), aG (i - 2) (by omega) (by omega)]
      by_cases c : i - 2 < μ (tw b + 1) 2
      · rw [if_pos c, if_pos c]
      · rw [if_neg c, if_neg c, rr.1 _ (by omega) (by omega)]; exact o5 _ (by omega) (by omega)
    by_cases c3 : i < 26
    · have e : i = 14 + (i - 14) := by omega
      rw [e, qM (i - 14) (by omega) (by omega), (aM (i - 14) (by omega) (by omega)).1]
      by_cases c : i - 14 < μ (tw b + 1) 1
      · rw [if_pos c, if_pos c]
      · rw [if_neg c, if_neg c, rr.1 _ (by omega) (by omega)]; exact (o7 _ (by omega) (by omega)).1
    · have e : i = 26 + (i - 26) := by omega
      rw [e, qM2 (i - 26) (by omega) (by omega), (aM (i - 26) (by omega) (by omega)).2]
      by_cases c : i - 26 < μ (tw b + 1) 1
      · rw [if_pos c, if_pos c]
      · rw [if_neg c, if_neg c, rr.1 _ (by omega) (by omega)]; exact (o7 _ (by omega) (by omega)).2
  · obtain ⟨b0, b1, b2, b3⟩ := aP p p0 p1
    obtain ⟨d0, d1, d2, d3⟩ := qP p p0 p1
    obtain ⟨g0, g1, g2, g3⟩ := rr.2 p p0 p1
    show f _ = rowQ _ _ _ _ _ _ _ ∧ f _ = rowQ _ _ _ _ _ _ _ ∧ f _ = rowQ _ _ _ _ _ _ _ ∧ f _ = rowQ _ _ _ _ _ _ _
    rw [b0, b1, b2, b3, d0, d1, d2, d3, g0, g1, g2, g3]
    by_cases c : p < μ (tw b + 1) 3
    · simp only [if_pos c, and_self]
    · obtain ⟨k0, k1, k2, k3⟩ := o10 p (by omega) p1
      simp only [if_neg c]; exact ⟨k0, k1, k2, k3⟩
theorem pow_4096 {M : Int} (h0 : 0 ≤ M) (h1 : M ≤ 12) : ((2 ^ M.toNat : Nat) : Int) ≤ 4096 := by
  have : 2 ^ M.toNat ≤ 2 ^ 12 := Nat.pow_le_pow_right (by decide) (by omega)
  have e : (2 : Nat) ^ 12 = 4096 := by decide
  omega
theorem rowN_ok {b : Bool} {μ : Nat → Int → Int} (hR : R b μ) (h : canR (μ (tw b + 1)) (μ (tw b + 10)) (μ (tw b + 13)) (rowN b μ)) : rowR b μ (rowN b μ) := by
  have hCn := hR.1.1
  obtain ⟨⟨z1, z2, z3⟩, ⟨w1, w2, w3⟩, ⟨y1, y2, y3⟩, ⟨x1, x2, x3⟩⟩ := hCn
  obtain ⟨q0, q1, qG, qM, qM2, qP⟩ := rowQ_at (t := μ 3) (G := μ (tw b + 1) 2) (M := μ (tw b + 1) 1) (P := μ (tw b + 1) 3) ⟨y2, y3⟩ ⟨w2, w3⟩ ⟨x2, x3⟩
  have hbt : ∀ i, 0 ≤ i → i < 1600 → 0 ≤ μ 3 i ∧ μ 3 i ≤ 255 := fun i i0 i1 => (hR.2.2.2.1.1.2 i i0 i1).2
  have hin : ∀ x, 0 ≤ rowN b μ x ∧ rowN b μ x ≤ 65535 := rowQ_in hbt ⟨y2, y3⟩ ⟨w2, w3⟩ (by omega) (by omega) (by omega)
  obtain ⟨c0, c1, c2, c3, c4, c5⟩ := h
  have hp := pow_4096 (M := μ (tw b + 1) 1) w2 w3
  have hgm : ∀ g, 0 ≤ g → g < (((μ (tw b + 1) 2).toNat : Nat) : Int) → 0 ≤ μ (tw b + 10) g ∧ μ (tw b + 10) g < μ (tw b + 1) 1 := fun g g0 g1 => by
    obtain ⟨-, -, -, -, q⟩ := hR.1.2.1 g g0 (by omega)
    omega
  have on := stT_onto (f := fun g => rowN b μ (2 + g)) (gm := μ (tw b + 10)) (G := (μ (tw b + 1) 2).toNat) (fun g g0 g1 => by have := hgm g g0 g1; omega) (fun g h g0 g1 h0 h1 e => hR.1.2.2.1 g h g0 (by omega) h0 (by omega) e) c2.2
  refine ⟨⟨⟨(hin 0).1, c0⟩, ⟨(hin 1).1, c1⟩, fun m m0 m1 => ⟨(hin _).1, ?_⟩, fun p p0 p1 => ⟨(hin _).1, ?_⟩⟩, fun g g0 g1 => ?_, fun g h g0 g1 h0 h1 e => c2.2.2 g h g0 (by omega) h0 (by omega) e, fun m => ⟨fun ⟨g, g0, g1, g2⟩ => ?_, fun ⟨g, g0, g1, g2⟩ => ?_⟩, fun g g0 g1 => ?_, fun m m0 m1 => (hin _).1, fun m m0 m1 => ⟨?_, ?_⟩, fun p p0 p1 => ⟨⟨(hin _).1, (c4 p p0 p1).1⟩, ⟨(hin _).1, (c4 p p0 p1).2.1⟩, (c4 p p0 p1).2.2⟩, fun p p0 p1 => (hin _).1, fun p p0 p1 => ⟨?_, ?_, ?_, ?_⟩, c5⟩
  · by_cases c : m < μ (tw b + 1) 1
    · exact c3 m m0 c
    · show rowQ _ _ _ _ _ _ _ ≤ 200
      rw [qM m m0 m1, if_neg c]; decide
  · by_cases c : p < μ (tw b + 1) 3
    · have := (c4 p p0 c).2.2; omega
    · show rowQ _ _ _ _ _ _ _ < 4096
      rw [(qP p p0 p1).2.2.2, if_neg c]; decide
  · obtain ⟨h, h0, h1, h2⟩ := c2.2.1 g g0 (by omega)
    have h2' : μ (tw b + 10) h = rowN b μ (2 + g) := h2
    have := hgm h h0 h1
    omega
  · obtain ⟨h, h0, h1, h2⟩ := c2.2.1 g g0 (by omega)
    exact ⟨h, h0, by omega, by rw [← g2]; exact h2⟩
  · obtain ⟨h, h0, h1, h2⟩ := on g g0 (by omega)
    exact ⟨h, h0, by omega, by rw [← g2]; exact h2⟩
  · show rowQ _ _ _ _ _ _ _ = 0
    rw [qG g (by omega) g1, if_neg (by omega)]
  · show rowQ _ _ _ _ _ _ _ = 0
    rw [qM m (by omega) m1, if_neg (by omega)]
  · show rowQ _ _ _ _ _ _ _ = 0
    rw [qM2 m (by omega) m1, if_neg (by omega)]
  · show rowQ _ _ _ _ _ _ _ = 0
    rw [(qP p (by omega) p1).1, if_neg (by omega)]
  · show rowQ _ _ _ _ _ _ _ = 0
    rw [(qP p (by omega) p1).2.1, if_neg (by omega)]
  · show rowQ _ _ _ _ _ _ _ = 0
    rw [(qP p (by omega) p1).2.2.1, if_neg (by omega)]
  · show rowQ _ _ _ _ _ _ _ = 0
    rw [(qP p (by omega) p1).2.2.2, if_neg (by omega)]
theorem p_on {b : Bool} {μ : Nat → Int → Int} (hR : R b μ) : ∀ d, 4 ≤ d → PairA d b μ 243 95 [] := fun d hd => by
  have hC := Rcnt_C hR.1.1
  obtain ⟨v, μ1, g1, g2⟩ := sX9_on b μ hR d hd
  have hk : ∀ a, 97 ≤ a → μ1 a = μ a := fun a ha => by
    rcases g2 with ⟨-, -, k, -⟩ | ⟨-, -, k, -⟩
    · exact k a (by omega) (by omega)
    · exact k a (by omega) (by omega) (by omega) (by omega) (by omega) (by omega)
  have h96 : μ1 96 = μ 96 := by
    rcases g2 with ⟨-, -, k, -⟩ | ⟨-, -, k, -⟩
    · exact k 96 (by decide) (by decide)
    · exact k 96 (by decide) (by decide) (by decide) (by decide) (by decide) (by decide)
  obtain ⟨v', μ2, f1, f2⟩ := sX10_on b μ hR hk h96 d hd
  obtain ⟨⟨t1, t2, t3⟩, t4⟩ := hR.2.2.2.1.1
  rcases g2 with ⟨n1, n2, n3, n4⟩ | ⟨n1, n2, n3, n4, n5, n6, n7, n8, n9⟩
  · rcases f2 with ⟨m1, m2', m3, m4, m5⟩ | ⟨m1, -⟩
    · rw [m2', ← n2] at f1
      have hR1 : R b (fun a => if a = 75 then μ1 75 else μ a) := R_cls (fun a ha => by
        have : a ≠ 75 := fun e => ha (by rw [e]; decide)
        show (if a = 75 then μ1 75 else μ a) = μ a
        rw [if_neg this]) hR
      refine ⟨v, μ1, μ2, g1, f1, R_tape hR1 (fun a a1 a2 a3 a4 => ?_) (fun j j1 => ?_) ⟨⟨?_, ?_⟩, fun i i0 i1 => ?_⟩⟩
      · rw [m3 a a4]
        by_cases e : a = 75
        · rw [if_pos e, e]
        · rw [if_neg e]; exact n3 a e a1
      · rw [m4 j j1, h96]; rfl
      · rw [m5, m3 2 (by decide), n4]
      · rw [m3 2 (by decide), n4]; decide
      · rw [m3 97 (by decide), m3 3 (by decide), hk 97 (by decide), n3 3 (by decide) (by decide)]; exact t4 i i0 i1
    · exact absurd m1 n1
  · rcases f2 with ⟨m1, -⟩ | ⟨m1, m2', m3, m4, m5, m6, m7⟩
    · exact absurd n1 m1
    · rw [m2', ← n2] at f1
      rw [hk 133 (by decide)] at m7
      have kk : ∀ a, a ≠ 75 → a ≠ 2 → a ≠ 74 → a ≠ 50 → a ≠ 44 → a ≠ 46 → a ≠ 96 → a ≠ 133 → μ2 a = μ a := fun a a1 a2 a3 a4 a5 a6 a7 a8 => by rw [m3 a a7 a8, n3 a a1 a2 a3 a4 a5 a6]
      have ht : ∀ a, a ∈ twL b → μ2 a = μ a := fun a ha => by
        have := twL_or ha
        have := tw_or b
        exact kk a (by omega) (by omega) (by omega) (by omega) (by omega) (by omega) (by omega) (by omega)
      have k96 : ∀ j, j ≠ 1 → j ≠ 58 → μ2 96 j = μ 96 j := fun j j1 j2 => by rw [m4 j j1 j2, h96]
      have k74 : ∀ x, 0 ≤ x → x < 62 → μ2 74 x = rowN b μ x := fun x x0 x1 => by rw [m3 74 (by decide) (by decide)]; exact n9 x x0 x1
      have k50 : μ2 50 = μ1 50 := m3 50 (by decide) (by decide)
      obtain ⟨r1, r2, r3, r4, r5⟩ := hR
      obtain ⟨q1, q2, q3, q4, q5, q6⟩ := r4
      have hR : R b μ := ⟨r1, r2, r3, ⟨q1, q2, q3, q4, q5, q6⟩, r5⟩
      refine ⟨v, μ1, μ2, g1, f1, Rtw_same ht r1, ⟨Rrow_congr k74 (fun _ _ _ => rfl) (Wr_row hR m7), rowR_same ht (rowOK_congr hC k74 (rowN_ok hR n1.2))⟩, ⟨?_, ?_, fun j j0 j1 => ?_, fun i i0 i1 => ?_⟩, ⟨⟨⟨?_, ?_⟩, fun i i0 i1 => ?_⟩, ?_, ?_, ?_, ?_, ?_⟩, ?_⟩
      · rw [m6, k50, n5]; decide
      · rw [k96 59 (by decide) (by decide), k50, n6]; exact r3.2.1
      · rw [kk (52 + j.toNat) (by omega) (by omega) (by omega) (by omega) (by omega) (by omega) (by omega) (by omega), kk 138 (by decide) (by decide) (by decide) (by decide) (by decide) (by decide) (by decide) (by decide)]
        exact r3.2.2.1 j j0 j1
      · rw [k50, n5] at i1; omega
      · rw [m5, m3 2 (by decide) (by decide), n4]
      · rw [m3 2 (by decide) (by decide), n4]; decide
      · rw [kk 97 (by decide) (by decide) (by decide) (by decide) (by decide) (by decide) (by decide) (by decide), kk 3 (by decide) (by decide) (by decide) (by decide) (by decide) (by decide) (by decide) (by decide)]; exact t4 i i0 i1
      · rw [kk 1 (by decide) (by decide) (by decide) (by decide) (by decide) (by decide) (by decide) (by decide), k96 7 (by decide) (by decide), k96 8 (by decide) (by decide)]; exact q2
      · unfold Rsee at q3 ⊢
        rw [kk 0 (by decide) (by decide) (by decide) (by decide) (by decide) (by decide) (by decide) (by decide), kk 76 (by decide) (by decide) (by decide) (by decide) (by decide) (by decide) (by decide) (by decide), kk 141 (by decide) (by decide) (by decide) (by decide) (by decide) (by decide) (by decide) (by decide), k96 67 (by decide) (by decide), ht (tw b + 1) (by simp [twL])]; exact q3
      · rw [kk 0 (by decide) (by decide) (by decide) (by decide) (by decide) (by decide) (by decide) (by decide), k96 60 (by decide) (by decide)]; exact q4
      · unfold Rimg at q5 ⊢
        rw [kk 72 (by decide) (by decide) (by decide) (by decide) (by decide) (by decide) (by decide) (by decide), kk 73 (by decide) (by decide) (by decide) (by decide) (by decide) (by decide) (by decide) (by decide), kk 143 (by decide) (by decide) (by decide) (by decide) (by decide) (by decide) (by decide) (by decide), k96 71 (by decide) (by decide)]; exact q5
      · intro j hj i hi
        rw [kk (98 + j) (by omega) (by omega) (by omega) (by omega) (by omega) (by omega) (by omega) (by omega)]
        exact q6 j hj i hi
      · have k44 : μ2 44 4 = 0 := by rw [m3 44 (by decide) (by decide)]; exact n7
        have k46 : μ2 46 4 = 0 := by rw [m3 46 (by decide) (by decide)]; exact n8
        exact ⟨Or.inl k44, Or.inl k46, fun h => by omega, fun h => by omega⟩
