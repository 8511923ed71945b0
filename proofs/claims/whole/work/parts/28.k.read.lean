/-! ===== town: the whole text, both alike ===== -/
def twJ : List Int := [1, 3, 7, 8, 2, 4, 5, 6, 31, 38, 39, 41, 43, 44, 48]
def TRf (ν : Nat → Int → Int) (v : Int) (ν' : Nat → Int → Int) : LR → Prop
  | .inl e => v = -1 ∧ Rfr twJ ν ν' ∧ ν' 96 1 = 0 ∧ ν' 96 7 = e.1 ∧ ν' 96 8 = e.2
  | .inr ((N, ML, GL, PL, C, H), c) => v = c ∧ ∃ ν1, Rfr twJ ν ν1 ∧ Rl ν1 (N, ML, GL, PL, C, H) ∧ ν1 96 1 = 0 ∧ ν1 96 7 = 0 ∧ ν1 96 8 = -1 ∧ Std ν1 ν' C.length GL.length (N 3).length
def twB (ν : Nat → Int → Int) : Nat → Int → Int := m2 (m2 (m2 (m2 (m2 (m2 (m2 (m2 (m2 ν 96 3 (ν 96 1)) 96 1 0) 96 2 0) 96 4 (-1)) 96 5 0) 96 6 (-1)) 96 39 0) 96 41 0) 96 38 0
theorem twB_o {ν : Nat → Int → Int} {a : Nat} (ha : a ≠ 96) : twB ν a = ν a := by
  unfold twB; rw [m2_ne ha, m2_ne ha, m2_ne ha, m2_ne ha, m2_ne ha, m2_ne ha, m2_ne ha, m2_ne ha, m2_ne ha]
theorem twB_96 {ν : Nat → Int → Int} (j : Int) : twB ν 96 j = if j = 38 then 0 else if j = 41 then 0 else if j = 39 then 0 else if j = 6 then -1 else if j = 5 then 0 else if j = 4 then -1 else if j = 2 then 0 else if j = 1 then 0 else if j = 3 then ν 96 1 else ν 96 j := by
  unfold twB; rw [m2_at, m2_at, m2_at, m2_at, m2_at, m2_at, m2_at, m2_at, m2_at]
theorem rfr_sub {J K : List Int} {ν ν' : Nat → Int → Int} (h : Rfr J ν ν') (hs : ∀ a, a ∈ J → a ∈ K) : Rfr K ν ν' := rfr_up h hs
theorem town_read (b bx : Bool) {T : Int → Int} {n : Int} (hT : Tp T n) : ∃ r : LR, (∀ d, 204 ≤ d → ∀ μ, μ 2 1 = n → μ 3 = T → Cal d 165 [mP 1] b μ (fun v μ' => LCl b T n μ v μ' r)) ∧ (∀ d, 24 ≤ d → ∀ ν, ν 96 1 = n → (∀ i, 0 ≤ i → i < 1600 → ν 97 i = T i) → Rwrd ν → Cal d 128 [mP 96] bx ν (fun v ν' => TRf ν v ν' r)) ∧ LOk T n r := by
  have sk := skp_in (T := T) (n := n) (i := 0) hT.1
  have hn0 := hT.1
  have hn1 := hT.2.1
  have hv : VC T n (skp T n 0) := ⟨by omega, by omega, sk.2.2.2⟩
  obtain ⟨r, p1, p2, p3⟩ := J_loop b bx hT (n - skp T n 0).toNat D0 (skp T n 0) false 0 hv (by omega) D0_ok (by show (0 : Int) ≤ _; omega) (by decide) (by decide)
  refine ⟨r, fun D hd μ h2 h3 => ?_, fun D hd ν h1 h97 hwd => ?_, p3⟩
  · obtain ⟨d, rfl⟩ : ∃ d, D = d + 1 := ⟨D - 1, by omega⟩
    exact cal_ev (fun r => call_X4_read d b μ) (ev_row (fun m => tX4_read_0 _ m b μ) (ev_callP (sX4_begin hT b μ h2 h3 d (by omega)) (fun v μ1 ⟨f1, c1, l1, z1⟩ => p1 d (by omega) μ μ1 f1 c1 l1 z1)))
  · obtain ⟨d, rfl⟩ : ∃ d, D = d + 1 := ⟨D - 1, by omega⟩
    have g0 : Rfr twJ ν (twB ν) := rfr_m96 (rfr_m96 (rfr_m96 (rfr_m96 (rfr_m96 (rfr_m96 (rfr_m96 (rfr_m96 (rfr_m96 rfr_rfl (by decide)) (by decide)) (by decide)) (by decide)) (by decide)) (by decide)) (by decide)) (by decide)) (by decide)
    refine cal_ev (fun r => call_X10_town d bx ν) (ev_row (fun m => tX10_town_0 _ m bx ν) ?_)
    show Ev (fun m => mRun (mCallN d) kX10_town m 50 [some (mP 96), some (mI 0)] [] (SH, twB ν, RHO bx)) bx _
    have lp : ∀ (q : Nat) (k : Int) (ν' : Nat → Int → Int), 0 ≤ k → k + q = 4 → (∀ j, 0 ≤ j → j < k → ν' 120 j = 0) → (∀ a, a ≠ 120 → ν' a = twB ν a) → Rfr twJ ν ν' → Ev (fun m => mRun (mCallN d) kX10_town m 50 [some (mP 96), some (mI k)] [] (SH, ν', RHO bx)) bx (fun v ν' => TRf ν v ν' r) := by
      intro q
      induction q with
      | zero =>
        intro k ν' k0 hk a1 a2 a3
        refine ev_row (fun m => tX10_town_50 _ m bx ν' _) (ev_neg (by omega) ?_)
        have e96 : ν' 96 = twB ν 96 := a2 96 (by decide)
        have f : ∀ j, ν' 96 j = _ := fun j => by rw [e96, twB_96 j]
        refine p2 d (by omega) k ν' ν' rfr_rfl ⟨?_, ?_, ?_, fun i i0 i1 => ?_, fun j hj i hi => ?_, ⟨?_, ?_, fun j j0 j1 => ?_⟩, hv, ?_, ?_⟩ ?_ ?_ _ (fun ν2 h2 => ?_)
        · rw [f]; rfl
        · rw [f]; rfl
        · rw [f]; exact h1
        · rw [a2 97 (by decide), twB_o (by decide)]; exact h97 i i0 i1
        · rw [a2 (98 + j) (by omega), twB_o (by omega)]; exact hwd j hj i hi
        · rw [f]; exact Int.le_refl _
        · have e2 : ν' 96 2 = 0 := by rw [f]; rfl
          rw [e2]; omega
        · have e2 : ν' 96 2 = 0 := by rw [f]; rfl
          rw [e2] at j0
          exact sk.2.2.1 j j0 j1
        · have e4 : ν' 96 4 = -1 := by rw [f]; rfl
          rw [e4]; omega
        · have e4 : ν' 96 4 = -1 := by rw [f]; rfl
          rw [e4]
          exact ⟨fun q => by omega, fun q => by cases q⟩
        · have e0 : ∀ j, 0 ≤ j → j < 4 → ν' 120 j = 0 := fun j j0 j1 => a1 j j0 (by omega)
          refine ⟨fun k hk k2 => ⟨?_, fun i hi => by simp at hi⟩, fun i hi => by simp at hi, fun i hi => by simp at hi, ⟨?_, fun i hi => by simp at hi⟩, fun i hi => by simp at hi, ⟨?_, fun i hi => by simp at hi⟩, ?_⟩
          · have := rk_in hk k2
            rw [e0 _ (by omega) (by omega)]; rfl
          · rw [e0 _ (by omega) (by omega)]; rfl
          · rw [f]; rfl
          · rw [f]; rfl
        · rw [f]; rfl
        · have f5 : ∀ x y : Int, m2 (m2 ν2 96 7 x) 96 8 y 96 5 = ν2 96 5 := fun x y => by rw [m2_at, if_neg (by decide), m2_at, if_neg (by decide)]
          have e6 : ∀ x : Int, m2 ν2 96 7 x 96 6 = ν2 96 6 := fun x => by rw [m2_at, if_neg (by decide)]
          have fin : ∀ K : List Int → Prop, True := fun _ => trivial
          refine ev_row (fun m => tX10_town_90 _ m bx ν2 _) ?_
          rw [e6, f5]
          have g2 : ∀ x y : Int, Rfr stK ν' ν2 → Rfr twJ ν (m2 (m2 ν2 96 7 x) 96 8 y) := fun x y hh => rfr_m96 (rfr_m96 (rfr_tr a3 (rfr_sub hh (by decide))) (by decide)) (by decide)
          have o1 : ∀ x y : Int, Rfr stK ν' ν2 → m2 (m2 ν2 96 7 x) 96 8 y 96 1 = 0 := fun x y hh => by
            rw [m2_at, if_neg (by decide), m2_at, if_neg (by decide), hh.1.2 1 (by decide), f]; rfl
          have o7 : ∀ x y : Int, m2 (m2 ν2 96 7 x) 96 8 y 96 7 = x := fun x y => by rw [m2_at, if_neg (by decide), m2_at, if_pos rfl]
          have o8 : ∀ x y : Int, m2 (m2 ν2 96 7 x) 96 8 y 96 8 = y := fun x y => by rw [m2_at, if_pos rfl]
          rcases r with e | ⟨⟨N, ML, GL, PL, C, H⟩, c⟩
          · obtain ⟨h3, h4⟩ := h2
            refine ev_neg (by rw [h4.1]; exact h4.2.1) (ev_ret ⟨rfl, g2 _ _ h3, o1 _ _ h3, ?_, ?_⟩)
            · rw [o7]; exact h4.1
            · rw [o8]; exact h4.2.2
          · obtain ⟨h3, h4, h5, h6, h7⟩ := h2
            obtain ⟨d1, d2, d3, d4⟩ := p3
            obtain ⟨n1, n2, n3, -⟩ := id d1
            have rl : Rl (m2 (m2 ν2 96 7 (ν2 96 5)) 96 8 (ν2 96 6)) (N, ML, GL, PL, C, H) := by
              obtain ⟨c1, c2, c3, c4, c5, c6, c7⟩ := h4
              have ne : ∀ a, a ≠ 96 → m2 (m2 ν2 96 7 (ν2 96 5)) 96 8 (ν2 96 6) a = ν2 a := fun a ha => by rw [m2_ne ha, m2_ne ha]
              exact ⟨RNm_sm (ne 120 (by decide)) (ne 121 (by decide)) c1, RMn_sm (fun a ha => ne a (by omega)) c2, RHg_sm (ne 123 (by decide)) c3, RGt_sm (by rw [ne 120 (by decide)]) (ne 124 (by decide)) c4, RPp_sm (ne 125 (by decide)) c5, RCd_sm (by rw [m2_at, if_neg (by decide), m2_at, if_neg (by decide)]) (ne 126 (by decide)) c6, by rw [m2_at, if_neg (by decide), m2_at, if_neg (by decide)]; exact c7⟩
            have e39 : m2 (m2 ν2 96 7 (ν2 96 5)) 96 8 (ν2 96 6) 96 39 = c := by rw [m2_at, if_neg (by decide), m2_at, if_neg (by decide)]; exact h5
            refine ev_pos h6 (ev_callP (sX10_stands bx _ (L := C.length) (G := GL.length) (P := (N 3).length) rl.2.2.2.2.2.1.1 (by have : (C.length : Int) ≤ n := d2; omega) rl.2.2.2.1.1 n3.2.2 (rl.1 3 (by decide) (by decide)).1 n2.2.2 d (by omega)) (fun v ν3 hs => ev_ret ⟨?_, _, g2 _ _ h3, rl, o1 _ _ h3, ?_, ?_, hs⟩))
            · have hs' : Std (m2 (m2 ν2 96 7 (ν2 96 5)) 96 8 (ν2 96 6)) ν3 C.length GL.length (N 3).length := hs
              show ν3 96 39 = c
              rw [hs'.2.2.2.1 39, if_neg (by decide), if_neg (by decide)]; exact e39
            · rw [o7]; exact h6
            · rw [o8]; exact h7
      | succ q ih =>
        intro k ν' k0 hk a1 a2 a3
        have w2 : ∀ _ : True, w32 (k + 1) = k + 1 := fun _ => w32_id (by omega) (by omega)
        refine ev_row (fun m => tX10_town_50 _ m bx ν' _) (ev_pos (by omega) ?_)
        rw [w2 trivial]
        refine ev_if (by omega) (ih (k + 1) _ (by omega) (by omega) (fun j j0 j1 => ?_) (fun a ha => by rw [m2_ne ha]; exact a2 a ha) (rfr_m2 a3 (by decide) (Or.inr (Or.inr (by show k < (4 : Int); omega)))))
        rw [m2_at]
        by_cases c : j = k
        · rw [if_pos c]
        · rw [if_neg c]; exact a1 j j0 (by omega)
    exact lp 4 0 (twB ν) (by decide) (by decide) (fun j j0 j1 => by omega) (fun _ _ => rfl) g0
