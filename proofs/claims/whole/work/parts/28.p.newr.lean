/-! ===== town: a text without a fault, all ===== -/
theorem rrow_new {t : Bool} {μ : Nat → Int → Int} {f124 f125 g : Int → Int} {G P : Nat} {H : Int} (hG : μ (tw t + 1) 2 = (G : Int)) (hG1 : G ≤ 12) (hP : μ (tw t + 1) 3 = (P : Int)) (hP1 : P ≤ 6) (hH : μ (tw t) 1 = H) (h10 : ∀ i : Nat, i < G → μ (tw t + 10) (i : Int) = f124 (3 * (i : Int) + 2)) (hpp : ∀ i : Nat, i < P → μ (tw t + 11) (i : Int) = f125 (4 * (i : Int)) ∧ μ (tw t + 12) (i : Int) = f125 (4 * (i : Int) + 1) ∧ μ (tw t + 13) (i : Int) = f125 (4 * (i : Int) + 2)) (hg : ∀ j, 0 ≤ j → j < 62 → g j = if j < 38 then (if j = 1 then H else if 2 ≤ j ∧ j < 2 + (G : Int) then f124 (3 * (j - 2) + 2) else 0) else ppF f125 (P : Int) j) : Rrow (begF t μ) g := by
  have c1 : μ (tw t + 1) 2 ≤ 12 := by omega
  have d1 : μ (tw t + 1) 3 ≤ 6 := by omega
  refine ⟨fun i i0 i1 => ?_, fun p p0 p1 => ⟨?_, ?_, ?_, ?_⟩⟩
  · rw [hg i i0 (by omega), if_pos i1]
    by_cases q1 : i = 1
    · rw [if_pos q1, q1, bg_1, hH]
    · rw [if_neg q1]
      by_cases q0 : i = 0
      · rw [q0, bg_0, if_neg (by omega)]
      · by_cases q2 : i < 14
        · obtain ⟨k, rfl⟩ : ∃ k, i = 2 + k := ⟨i - 2, by omega⟩
          rw [bg_gate c1 (by omega) (by omega), hG]
          by_cases q : k < (G : Int)
          · obtain ⟨m, rfl⟩ := nat_of (show 0 ≤ k by omega)
            rw [if_pos q, if_pos (by omega), h10 m (by omega), show 2 + (m : Int) - 2 = (m : Int) by omega]
          · rw [if_neg q, if_neg (by omega)]
        · rw [bg_z c1 (by omega) (by omega), if_neg (by omega)]
  · obtain ⟨m, rfl⟩ := nat_of p0
    rw [hg _ (by omega) (by omega), if_neg (by omega), bg_38 c1 d1 p0 p1, hP]
    unfold ppF
    by_cases q : (m : Int) < (P : Int)
    · rw [if_pos (by omega), if_pos q, (hpp m (by omega)).1, show 38 + 4 * (m : Int) + 0 - 38 = 4 * (m : Int) by omega]
    · rw [if_neg (by omega), if_neg q]
  · obtain ⟨m, rfl⟩ := nat_of p0
    rw [hg _ (by omega) (by omega), if_neg (by omega), bg_44 c1 d1 p0 p1, hP]
    unfold ppF
    by_cases q : (m : Int) < (P : Int)
    · rw [if_pos (by omega), if_pos q, (hpp m (by omega)).2.1, show 38 + 4 * (m : Int) + 1 - 38 = 4 * (m : Int) + 1 by omega]
    · rw [if_neg (by omega), if_neg q]
  · obtain ⟨m, rfl⟩ := nat_of p0
    rw [hg _ (by omega) (by omega), if_neg (by omega), bg_50 c1 d1 p0 p1, hP]
    unfold ppF
    by_cases q : (m : Int) < (P : Int)
    · rw [if_pos (by omega), if_pos q, (hpp m (by omega)).2.2, show 38 + 4 * (m : Int) + 2 - 38 = 4 * (m : Int) + 2 by omega]
    · rw [if_neg (by omega), if_neg q]
  · obtain ⟨m, rfl⟩ := nat_of p0
    rw [hg _ (by omega) (by omega), if_neg (by omega), bg_56 c1 d1 p0 p1]
    unfold ppF
    rw [if_neg (by omega)]
/-- what the class leaves behind a good text -/
def twE (b : Bool) (μ' : Nat → Int → Int) : Nat → Int → Int := m2 (m2 (m2 (m2 (bA5 (!b) (m2 μ' 2 1 0)) 0 10 0) 50 2 0) 44 4 0) 46 4 0
theorem R_new {b : Bool} {μ μ' ν1 ν' : Nat → Int → Int} {N : Nat → List (List Int)} {ML : List (Int × Int × Int × Int)} {GL : List (Int × Int × Int)} {PL : List (Int × Int × Int × Int)} {C : List Int} {H : Int} (hR : R b μ) (hf : Dfr b μ μ') (hc : Cl b μ' (N, ML, GL, PL, C, H)) (h2 : μ' 1 2 = 0) (h3 : μ' 1 3 = -1) (hD : DOk (N, ML, GL, PL, C, H)) (hC : C.length ≤ 1600) (hr : Rfr twJ (twE b μ') ν1) (hl : Rl ν1 (N, ML, GL, PL, C, H)) (r1 : ν1 96 1 = 0) (r7 : ν1 96 7 = 0) (r8 : ν1 96 8 = -1) (hs : Std ν1 ν' C.length GL.length (N 3).length) : R (!b) ν' := by
  have tp := tw_pair b
  have dm : ∀ a, a ∈ drC ↔ 120 ≤ a ∧ a ≤ 130 := fun a => by unfold drC; simp only [List.mem_cons, List.not_mem_nil, or_false]; omega
  have o1 : ∀ a, a ≠ 96 → ¬ (120 ≤ a ∧ a ≤ 130) → a ≠ 133 → a ≠ 134 → ν' a = twE b μ' a := fun a h9 h12 h33 h34 => by
    rw [hs.2.2.2.2 a (by simp only [List.mem_cons, List.not_mem_nil, or_false]; omega), hr.1.1 a (fun q => h12 ((dm a).1 q)) h9]
  have oE : ∀ a, a ≠ 0 → a ≠ 2 → a ≠ 44 → a ≠ 46 → a ≠ 50 → a ≠ 74 → twE b μ' a = μ' a := fun a x0 x2 x44 x46 x50 x74 => by
    unfold twE
    rw [m2_ne x46, m2_ne x44, m2_ne x50, m2_ne x0, bA5_o x74, m2_ne x2]
  have o : ∀ a, a ≠ 0 → a ≠ 1 → a ≠ 2 → a ≠ 44 → a ≠ 46 → a ≠ 50 → a ≠ 74 → a ≠ 96 → ¬ (tw (!b) ≤ a ∧ a ≤ tw (!b) + 18) → ¬ (120 ≤ a ∧ a ≤ 130) → a ≠ 133 → a ≠ 134 → ν' a = μ a := fun a x0 x1 x2 x44 x46 x50 x74 h9 hw h12 h33 h34 => by
    rw [o1 a h9 h12 h33 h34, oE a x0 x2 x44 x46 x50 x74, hf.1 a x1 hw]
  have oj : ∀ j, j ∉ twJ → j ≠ 58 → j ≠ 67 → ν' 96 j = μ 96 j := fun j hj j58 j67 => by
    rw [hs.2.2.2.1 j, if_neg j67, if_neg j58, hr.1.2 j hj, oE 96 (by decide) (by decide) (by decide) (by decide) (by decide) (by decide), hf.1 96 (by decide) (by omega)]
  have hk : ∀ k, k ≤ 18 → ν' (tw (!b) + k) = μ' (tw (!b) + k) := fun k hk => by
    rw [o1 _ (by omega) (by omega) (by omega) (by omega), oE _ (by omega) (by omega) (by omega) (by omega) (by omega) (by omega)]
  have hm : ∀ k, k ≤ 18 → m2 μ' 2 1 0 (tw (!b) + k) = μ' (tw (!b) + k) := fun k hk => m2_ne (by omega)
  have hm0 : m2 μ' 2 1 0 (tw (!b)) = μ' (tw (!b)) := m2_ne (by omega)
  have hTw : Rtw (!b) ν' := Rtw_new hc hl hD hC hs (fun k _ k18 => hk k k18)
  obtain ⟨c1, c2, c3, c4, c5, c6⟩ := hc
  obtain ⟨l1, l2, l3, l4, l5, l6, l7⟩ := hl
  obtain ⟨hN, ⟨n0, n1, n3⟩, ⟨k1, k2, k3⟩, kH, dM, dG, dn, dP⟩ := hD
  have e74 : ν' 74 = begF (!b) (m2 μ' 2 1 0) := by
    rw [o1 74 (by decide) (by omega) (by decide) (by decide)]
    unfold twE
    rw [m2_ne (by decide), m2_ne (by decide), m2_ne (by decide), m2_ne (by decide), bA5_74]
  have z3 : μ' (tw (!b) + 1) 3 = ((N 3).length : Int) := (c1 3 (by decide) (by decide)).1
  have z0 : μ' (tw (!b) + 1) 0 = ((N 0).length : Int) := (c1 0 (by decide) (by decide)).1
  obtain ⟨q1, q2, q3, q4, q5⟩ := hR
  refine ⟨hTw, ⟨?_, ?_⟩, ?_, ?_, ?_⟩
  · rw [e74]
    refine rrow_new (G := GL.length) (P := (N 3).length) (H := H) (f124 := ν1 124) (f125 := ν1 125) (by rw [hm 1 (by decide)]; exact c3.1) k3 (by rw [hm 1 (by decide)]; exact z3) n3 (by rw [hm0]; exact c6) (fun i hi => ?_) (fun i hi => ?_) (fun j j0 j1 => ?_)
    · rw [hm 10 (by decide), (c3.2 i hi).2.2, (l4.2 i hi).2.2]
    · rw [hm 11 (by decide), hm 12 (by decide), hm 13 (by decide)]
      obtain ⟨u1, u2, u3, -⟩ := c4 i (by omega)
      obtain ⟨w1, w2, w3, -⟩ := l5 i (by omega)
      rw [u1, u2, u3, w1, w2, w3]; exact ⟨rfl, rfl, rfl⟩
    · rw [hs.2.1 j j0 j1, l7]
  · rw [e74]
    refine row_new hTw (fun k k18 _ => by rw [hk k k18, hm k k18]) (by rw [hm0, c6]; exact kH) (fun p p0 p1 => ?_)
    rw [hm 1 (by decide), z3] at p1
    obtain ⟨i, rfl⟩ := nat_of p0
    have hi : i < PL.length := by omega
    obtain ⟨v1, v2, -⟩ := dP _ (getD_memP (z := z4) hi)
    obtain ⟨u1, u2, -⟩ := c4 i hi
    rw [hm 11 (by decide), hm 12 (by decide), hm 1 (by decide), z0, u1, u2]
    exact ⟨v1, v2⟩
  · obtain ⟨a1, a2, a3, a4⟩ := q3
    have e50 : ∀ j, ν' 50 j = if j = 2 then 0 else μ 50 j := fun j => by
      rw [o1 50 (by decide) (by omega) (by decide) (by decide)]
      unfold twE
      rw [m2_ne (by decide), m2_ne (by decide), m2_at, m2_ne (by decide), bA5_o (by decide), m2_ne (by decide), hf.1 50 (by decide) (by omega)]
    have e58 : ν' 96 58 = 0 := by rw [hs.2.2.2.1 58, if_neg (by decide), if_pos rfl]
    have e502 : ν' 50 2 = 0 := by rw [e50, if_pos rfl]
    have e501 : ν' 50 1 = μ 50 1 := by rw [e50, if_neg (by decide)]
    refine ⟨⟨by rw [e58, e502], by rw [e502]; decide, by rw [e502]; decide⟩, by rw [oj 59 (by decide) (by decide) (by decide), e501]; exact a2, fun j j0 j1 => ?_, fun i i0 i1 => ?_⟩
    · rw [o (52 + j.toNat) (by omega) (by omega) (by omega) (by omega) (by omega) (by omega) (by omega) (by omega) (by omega) (by omega) (by omega) (by omega), o 138 (by decide) (by decide) (by decide) (by decide) (by decide) (by decide) (by decide) (by decide) (by omega) (by omega) (by decide) (by decide)]
      exact a3 j j0 j1
    · rw [e502] at i1; omega
  · obtain ⟨m1, m2', m3, m4, m5, m6⟩ := q4
    have w : ∀ a, a ∈ [3, 72, 73, 76, 97, 141, 143] → ν' a = μ a := fun a ha => by
      simp only [List.mem_cons, List.not_mem_nil, or_false] at ha
      exact o a (by omega) (by omega) (by omega) (by omega) (by omega) (by omega) (by omega) (by omega) (by omega) (by omega) (by omega) (by omega)
    have e0 : ∀ j, ν' 0 j = if j = 10 then 0 else μ 0 j := fun j => by
      rw [o1 0 (by decide) (by omega) (by decide) (by decide)]
      unfold twE
      rw [m2_ne (by decide), m2_ne (by decide), m2_ne (by decide), m2_at, bA5_o (by decide), m2_ne (by decide), hf.1 0 (by decide) (by omega)]
    have e2 : ν' 2 1 = 0 := by
      rw [o1 2 (by decide) (by omega) (by decide) (by decide)]
      unfold twE
      rw [m2_ne (by decide), m2_ne (by decide), m2_ne (by decide), m2_ne (by decide), bA5_o (by decide), m2_at, if_pos rfl]
    have e1 : ν' 1 = μ' 1 := by rw [o1 1 (by decide) (by omega) (by decide) (by decide), oE 1 (by decide) (by decide) (by decide) (by decide) (by decide) (by decide)]
    have f : ∀ j, j ≠ 58 → j ≠ 67 → ν' 96 j = ν1 96 j := fun j x y => by rw [hs.2.2.2.1 j, if_neg y, if_neg x]
    have e10 : ν' 0 10 = 0 := by rw [e0, if_pos rfl]
    refine ⟨⟨⟨?_, ?_, ?_⟩, fun i i0 i1 => ?_⟩, ⟨?_, ?_⟩, ⟨⟨?_, ?_, ?_⟩, fun k k0 k1 => ?_⟩, ?_, ?_, fun j hj i hi => ?_⟩
    · rw [f 1 (by decide) (by decide), r1, e2]
    · rw [e2]; decide
    · rw [e2]; decide
    · rw [w 97 (by decide), w 3 (by decide)]; exact m1.2 i i0 i1
    · rw [f 7 (by decide) (by decide), r7, e1, h2]
    · rw [f 8 (by decide) (by decide), r8, e1, h3]
    · rw [hs.2.2.2.1 67, if_pos rfl, e10]
    · rw [e10]; decide
    · rw [e10]; decide
    · rw [e10] at k1; omega
    · rw [oj 60 (by decide) (by decide) (by decide), e0, if_neg (by decide)]; exact m4
    · unfold Rimg at m5 ⊢
      rw [oj 71 (by decide) (by decide) (by decide), w 72 (by decide), w 73 (by decide), w 143 (by decide)]; exact m5
    · rw [o (98 + j) (by omega) (by omega) (by omega) (by omega) (by omega) (by omega) (by omega) (by omega) (by omega) (by omega) (by omega) (by omega)]; exact m6 j hj i hi
  · have e44 : ν' 44 4 = 0 := by
      rw [o1 44 (by decide) (by omega) (by decide) (by decide)]
      unfold twE
      rw [m2_ne (by decide), m2_at, if_pos rfl]
    have e46 : ν' 46 4 = 0 := by
      rw [o1 46 (by decide) (by omega) (by decide) (by decide)]
      unfold twE
      rw [m2_at, if_pos rfl]
    exact ⟨Or.inl e44, Or.inl e46, fun q => by rw [e44] at q; omega, fun q => by rw [e46] at q; omega⟩
