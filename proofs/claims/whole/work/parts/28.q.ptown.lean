/-! ===== town: the pair ===== -/
theorem call_X9_town (d : Nat) (b : Bool) (μ : Nat → Int → Int) {r : Int × mMem} (h : mEv (mCallN d) kX9_town 0 [some (mP 0), none, none] [] (SH, μ, RHO b) r) : mCallN (d + 1) 255 [mP 0] (SH, μ, RHO b) = some r := mCallN_of (e := meX9_town) rfl rfl rfl h
theorem p_town {b : Bool} {μ : Nat → Int → Int} (hR : R b μ) : ∀ d, 210 ≤ d → ∃ v μ1 μ2 b', mCallN d 255 [mP 0] (SH, μ, RHO b) = some (v, SH, μ1, RHO b') ∧ mCallN d 128 [mP 96] (SH, μ1, RHO b') = some (v, SH, μ2, RHO b') ∧ R b' μ2 := fun D hd => by
  obtain ⟨d, rfl⟩ : ∃ d, D = d + 1 := ⟨D - 1, by omega⟩
  have tp := tw_pair b
  obtain ⟨⟨⟨ta, tb, tc⟩, td⟩, -, -, -, -, tw'⟩ := hR.2.2.2.1
  have hT : Tp (μ 3) (μ 2 1) := ⟨tb, tc, fun i i0 i1 => (td i i0 i1).2⟩
  obtain ⟨r, p1, p2, p3⟩ := town_read b (!b) hT
  obtain ⟨v, μ', he, hl⟩ := p1 d (by omega) μ rfl rfl
  rcases r with e | ⟨⟨N, ML, GL, PL, C, H⟩, c⟩
  · obtain ⟨hv, -, -⟩ := hl
    obtain ⟨r', p1', p2', -⟩ := town_read b b hT
    obtain ⟨v2, μ2, he', hl'⟩ := p1' d (by omega) μ rfl rfl
    rw [he] at he'
    cases he'
    rcases r' with e' | ⟨⟨N, ML, GL, PL, C, H⟩, c⟩
    · obtain ⟨-, hf, hdd⟩ := hl'
      obtain ⟨v3, μ3, hc3, ht⟩ := p2' (d + 1) (by omega) (m2 μ' 2 1 0) (by rw [m2_ne (by decide), hf.1 96 (by decide) (by omega)]; exact ta) (fun i i0 i1 => by rw [m2_ne (by decide), hf.1 97 (by decide) (by omega)]; exact (td i i0 i1).1) (fun j hj i hi => by rw [m2_ne (by omega), hf.1 (98 + j) (by omega) (by omega)]; exact tw' j hj i hi)
      obtain ⟨hv3, hr, r1, r7, r8⟩ := ht
      refine ⟨-1, m2 μ' 2 1 0, μ3, b, call_X9_town d b μ ⟨1, ?_⟩, ?_, R_fault hR hf hdd hr r1 r7 r8⟩
      · rw [tX9_town_0, he, mOptR_some, mBr_pos hv]
      · rw [hc3, hv3]
    · have := hl'.1
      omega
  · obtain ⟨hv, hf, hc, h0, h2, h3⟩ := hl
    obtain ⟨hD, hC, c0, c8⟩ := p3
    have hC' : (C.length : Int) ≤ μ 2 1 := hC
    have kD := hD
    obtain ⟨-, ⟨-, -, n3⟩, ⟨-, -, k3⟩, -⟩ := kD
    have z3 : μ' (tw (!b) + 1) 3 = ((N 3).length : Int) := (hc.1 3 (by decide) (by decide)).1
    have z2 : μ' (tw (!b) + 1) 2 = (GL.length : Int) := hc.2.2.1.1
    have zm : m2 μ' 2 1 0 (tw (!b) + 1) = μ' (tw (!b) + 1) := m2_ne (by omega)
    have oE : ∀ a, a ≠ 0 → a ≠ 2 → a ≠ 44 → a ≠ 46 → a ≠ 50 → a ≠ 74 → twE b μ' a = μ' a := fun a x0 x2 x44 x46 x50 x74 => by
      unfold twE
      rw [m2_ne x46, m2_ne x44, m2_ne x50, m2_ne x0, bA5_o x74, m2_ne x2]
    obtain ⟨v3, μ3, hc3, ht⟩ := p2 (d + 1) (by omega) (twE b μ') (by rw [oE 96 (by decide) (by decide) (by decide) (by decide) (by decide) (by decide), hf.1 96 (by decide) (by omega)]; exact ta) (fun i i0 i1 => by rw [oE 97 (by decide) (by decide) (by decide) (by decide) (by decide) (by decide), hf.1 97 (by decide) (by omega)]; exact (td i i0 i1).1) (fun j hj i hi => by rw [oE (98 + j) (by omega) (by omega) (by omega) (by omega) (by omega) (by omega), hf.1 (98 + j) (by omega) (by omega)]; exact tw' j hj i hi)
    obtain ⟨hv3, ν1, hr, rl, r1, r7, r8, hs⟩ := ht
    have hval : twE b μ' (tw (!b)) 0 = c := by rw [oE _ (by omega) (by omega) (by omega) (by omega) (by omega) (by omega)]; exact h0
    have hb := sX7_begin (!b) (m2 μ' 2 1 0) (by rw [zm, z2]; omega) (by rw [zm, z2]; omega) (by rw [zm, z3]; omega) (by rw [zm, z3]; omega) d (by omega)
    have hcl := sX0_clear (!b) (m2 (bA5 (!b) (m2 μ' 2 1 0)) 0 10 0) d (by omega)
    have hfo := sX5_forget (!b) (m2 (m2 (bA5 (!b) (m2 μ' 2 1 0)) 0 10 0) 50 2 0) d (by omega)
    refine ⟨c, twE b μ', μ3, !b, call_X9_town d b μ ⟨1, ?_⟩, ?_, R_new hR hf hc h2 h3 hD (by omega) hr rl r1 r7 r8 hs⟩
    · rw [tX9_town_0, he, mOptR_some, mBr_neg (by show ¬ v = 0; omega), RHOs_eq, hb, mOptR_some, hcl, mOptR_some, hfo, mOptR_some]
      show some (twE b μ' (tw (!b)) 0, SH, twE b μ', RHO (!b)) = _
      rw [hval]
    · rw [hc3, hv3]
