/-! ===== town: one statement, the cases ===== -/
theorem tk_yes {T : Int → Int} {n s : Int} {g : Bool} (hT : Tp T n) {j : Nat} (hj : j < 22) (b : Bool) (ν : Nat → Int → Int) (h : RSv T n ν s g) (q : tkW T n s g = (j : Int)) : ∀ d, 3 ≤ d → Cal d 122 [mP 96, mP (98 + j)] b ν (fun v ν' => v = 1 ∧ Fg [] [2, 4, 31] ν ν' ∧ RSv T n ν' (nxS T n s) (nxG T n s g)) := fun d hd => cal_mono (sX10_takes hT hj b ν h d hd) (fun v ν' ⟨f, hh⟩ => by
  rcases hh with ⟨-, h1, h2⟩ | ⟨h1, -⟩
  · exact ⟨h1, f, h2⟩
  · exact absurd q h1)
theorem tk_no {T : Int → Int} {n s : Int} {g : Bool} (hT : Tp T n) {j : Nat} (hj : j < 22) (b : Bool) (ν : Nat → Int → Int) (h : RSv T n ν s g) (q : tkW T n s g ≠ (j : Int)) : ∀ d, 3 ≤ d → Cal d 122 [mP 96, mP (98 + j)] b ν (fun v ν' => v = 0 ∧ Fg [] [2, 4, 31] ν ν' ∧ RSv T n ν' s g) := fun d hd => cal_mono (sX10_takes hT hj b ν h d hd) (fun v ν' ⟨f, hh⟩ => by
  rcases hh with ⟨h1, -⟩ | ⟨-, h1, h2, -⟩
  · exact absurd h1 q
  · exact ⟨h1, f, h2⟩)
theorem lex3 {ν ν' : Nat → Int → Int} (f : Fg [] [2, 4, 31] ν ν') : Fg [] lxJ ν ν' := ⟨f.1, fun j hj => f.2 j (fun q => hj (by simp only [List.mem_cons, List.not_mem_nil, or_false] at q; unfold lxJ; simp only [List.mem_cons, List.not_mem_nil, or_false]; omega))⟩
/-- the rest of a statement, in the reference, once its first word is known -/
theorem rf_go {b bx : Bool} {T : Int → Int} {n : Int} (hT : Tp T n) {d : Nat} (hd : 20 ≤ d) {i s : Int} {g : Bool} (i0 : 0 ≤ i) (i8 : i < 80) {ν ν1 : Nat → Int → Int} {D : DT} (f : Fg [] lxJ ν ν1) (h1 : RSv T n ν1 (nxS T n s) (nxG T n s g)) (hl : Rl ν D) (h39 : ν 96 39 = i) {zc zr : Nat} {r : SR} (hj : JS b bx T n zc zr D s g r) : Ev (fun m => mOptR (mCallN d zr [mP 96, mI s] (SH, ν1, RHO bx)) (fun x => mRun (mCallN d) kX10_statementTold m 116 [some (mP 96), some (mI s)] [] (SH, x.2.2.1, RHO bx))) bx (fun _ ν' => RSS2 T n i ν ν' (sgS T n r)) := by
  refine ev_callP (hj.2.1 d hd ν1 h1 (Rl_lex f hl)) (fun v ν2 h2' => ?_)
  have h2 : RSS T n ν1 ν2 r := h2'
  exact rf_116 hT (by omega) i0 i8 (RSS_tr (rfr_lex f) h2) (by show ν2 96 39 = i; rw [RSS_39 h2, f.2 39 (by decide)]; exact h39)
theorem J_stmt (b bx : Bool) {T : Int → Int} {n : Int} (hT : Tp T n) {D : DT} (hD : DOk D) {s : Int} {g : Bool} (hv : VC T n s) (hs : ((cdL D).length : Int) ≤ s) (hlt : s < n) : ∃ r, JT b bx T n D s g r := by
  obtain ⟨N, ML, GL, PL, C, H⟩ := D
  have hs' : (C.length : Int) ≤ s := hs
  have hk : tkK T n s g ≠ 0 := by
    rcases tkK_or (g := g) hT hv with ⟨-, c⟩ | ⟨-, c⟩ <;> omega
  by_cases w0 : tkW T n s g = 0
  · obtain ⟨r, hj⟩ := J_room b bx hT hD hv hs' w0
    refine ⟨sgS T n r, fun d hd μ0 μ i i0 i8 hf h hc Q K => ?_, fun D hd ν i i0 i8 h h2 hl h39 => ?_, SOk_sg hT hj.2.2⟩
    · have h5 : μ 1 5 = tkW T n s g := h.2.2.2.2.1.2.1
      refine ev_row (fun m => tX4_read_6 _ m b μ i) (ev_pos (by omega) (ev_neg (by rw [h.2.2.2.2.1.1]; exact hk) (ev_if (by rw [h5]; exact w0) (ev_callP (hj.1 d (by omega) μ h hc) (fun v μ1 h1 => cl_146 hT (by omega) i0 i8 (CSS_tr hf h1) K)))))
    · obtain ⟨d, rfl⟩ : ∃ d, D = d + 1 := ⟨D - 1, by omega⟩
      refine cal_ev (fun r => call_X10_statementTold d bx ν) (ev_row (fun m => tX10_statementTold_0 _ m bx ν) (ev_neg (by rw [h39]; omega) ?_))
      rw [h2]
      exact ev_callP (tk_yes hT (j := 0) (by decide) bx ν h w0 d (by omega)) (fun v ν1 ⟨hv1, f1, h1⟩ => ev_neg (by show ¬ v = 0; omega) (rf_go hT (by omega) i0 i8 (lex3 f1) h1 hl h39 hj))
  by_cases w1 : tkW T n s g = 1
  · obtain ⟨r, hj⟩ := J_man b bx hT hD hv hs' w1
    refine ⟨sgS T n r, fun d hd μ0 μ i i0 i8 hf h hc Q K => ?_, fun D hd ν i i0 i8 h h2 hl h39 => ?_, SOk_sg hT hj.2.2⟩
    · have h5 : μ 1 5 = 1 := by rw [h.2.2.2.2.1.2.1]; exact w1
      refine ev_row (fun m => tX4_read_6 _ m b μ i) (ev_pos (by omega) (ev_neg (by rw [h.2.2.2.2.1.1]; exact hk) (ev_if0 (by omega) (ev_if h5 (ev_callP (hj.1 d (by omega) μ h hc) (fun v μ1 h1 => cl_146 hT (by omega) i0 i8 (CSS_tr hf h1) K))))))
    · obtain ⟨d, rfl⟩ : ∃ d, D = d + 1 := ⟨D - 1, by omega⟩
      refine cal_ev (fun r => call_X10_statementTold d bx ν) (ev_row (fun m => tX10_statementTold_0 _ m bx ν) (ev_neg (by rw [h39]; omega) ?_))
      rw [h2]
      refine ev_callP (tk_no hT (j := 0) (by decide) bx ν h w0 d (by omega)) (fun v ν1 ⟨hv1, f1, h1⟩ => ev_pos hv1 ?_)
      exact ev_callP (tk_yes hT (j := 1) (by decide) bx ν1 h1 w1 d (by omega)) (fun v ν2 ⟨hv2, f2, h2⟩ => ev_neg (by show ¬ v = 0; omega) (rf_go hT (by omega) i0 i8 (fg_tr (lex3 f1) (lex3 f2) (by decide) (by decide)) h2 hl h39 hj))
  by_cases w5 : tkW T n s g = 5
  · obtain ⟨r, hj⟩ := J_gate b bx hT hD hv hs' w5
    refine ⟨sgS T n r, fun d hd μ0 μ i i0 i8 hf h hc Q K => ?_, fun D hd ν i i0 i8 h h2 hl h39 => ?_, SOk_sg hT hj.2.2⟩
    · have h5 : μ 1 5 = 5 := by rw [h.2.2.2.2.1.2.1]; exact w5
      refine ev_row (fun m => tX4_read_6 _ m b μ i) (ev_pos (by omega) (ev_neg (by rw [h.2.2.2.2.1.1]; exact hk) (ev_if0 (by omega) (ev_if0 (by omega) (ev_if0 (by omega) (ev_if0 (by omega) (ev_if0 (by omega) (ev_if h5 (ev_callP (hj.1 d (by omega) μ h hc) (fun v μ1 h1 => cl_146 hT (by omega) i0 i8 (CSS_tr hf h1) K))))))))))
    · obtain ⟨d, rfl⟩ : ∃ d, D = d + 1 := ⟨D - 1, by omega⟩
      refine cal_ev (fun r => call_X10_statementTold d bx ν) (ev_row (fun m => tX10_statementTold_0 _ m bx ν) (ev_neg (by rw [h39]; omega) ?_))
      rw [h2]
      refine ev_callP (tk_no hT (j := 0) (by decide) bx ν h w0 d (by omega)) (fun v ν1 ⟨hv1, f1, h1⟩ => ev_pos hv1 ?_)
      refine ev_callP (tk_no hT (j := 1) (by decide) bx ν1 h1 w1 d (by omega)) (fun v ν2 ⟨hv2, f2, h2⟩ => ev_pos hv2 ?_)
      exact ev_callP (tk_yes hT (j := 5) (by decide) bx ν2 h2 w5 d (by omega)) (fun v ν3 ⟨hv3, f3, h3⟩ => ev_neg (by show ¬ v = 0; omega) (rf_go hT (by omega) i0 i8 (fg_tr (fg_tr (lex3 f1) (lex3 f2) (by decide) (by decide)) (lex3 f3) (by decide) (by decide)) h3 hl h39 hj))
  by_cases w7 : tkW T n s g = 7
  · obtain ⟨r, hj⟩ := J_person b bx hT hD hv hs' w7
    refine ⟨sgS T n r, fun d hd μ0 μ i i0 i8 hf h hc Q K => ?_, fun D hd ν i i0 i8 h h2 hl h39 => ?_, SOk_sg hT hj.2.2⟩
    · have h5 : μ 1 5 = 7 := by rw [h.2.2.2.2.1.2.1]; exact w7
      refine ev_row (fun m => tX4_read_6 _ m b μ i) (ev_pos (by omega) (ev_neg (by rw [h.2.2.2.2.1.1]; exact hk) (ev_if0 (by omega) (ev_if0 (by omega) (ev_if0 (by omega) (ev_if0 (by omega) (ev_if0 (by omega) (ev_if0 (by omega) (ev_if0 (by omega) (ev_if h5 (ev_callP (hj.1 d (by omega) μ h hc) (fun v μ1 h1 => cl_146 hT (by omega) i0 i8 (CSS_tr hf h1) K))))))))))))
    · obtain ⟨d, rfl⟩ : ∃ d, D = d + 1 := ⟨D - 1, by omega⟩
      refine cal_ev (fun r => call_X10_statementTold d bx ν) (ev_row (fun m => tX10_statementTold_0 _ m bx ν) (ev_neg (by rw [h39]; omega) ?_))
      rw [h2]
      refine ev_callP (tk_no hT (j := 0) (by decide) bx ν h w0 d (by omega)) (fun v ν1 ⟨hv1, f1, h1⟩ => ev_pos hv1 ?_)
      refine ev_callP (tk_no hT (j := 1) (by decide) bx ν1 h1 w1 d (by omega)) (fun v ν2 ⟨hv2, f2, h2⟩ => ev_pos hv2 ?_)
      refine ev_callP (tk_no hT (j := 5) (by decide) bx ν2 h2 w5 d (by omega)) (fun v ν3 ⟨hv3, f3, h3⟩ => ev_pos hv3 ?_)
      exact ev_callP (tk_yes hT (j := 7) (by decide) bx ν3 h3 w7 d (by omega)) (fun v ν4 ⟨hv4, f4, h4⟩ => ev_neg (by show ¬ v = 0; omega) (rf_go hT (by omega) i0 i8 (fg_tr (fg_tr (fg_tr (lex3 f1) (lex3 f2) (by decide) (by decide)) (lex3 f3) (by decide) (by decide)) (lex3 f4) (by decide) (by decide)) h4 hl h39 hj))
  /- an hour, or no statement -/
  obtain ⟨rh, qh⟩ := nuS_ex T n 0 23 (wdS T n 12 (.inr (s, g)))
  have rfl' : ∀ D, 22 ≤ D → ∀ ν i, 0 ≤ i → i < 80 → RSv T n ν s g → ν 96 2 = s → Rl ν (N, ML, GL, PL, C, H) → ν 96 39 = i → Cal D 118 [mP 96] bx ν (fun _ ν' => RSS2 T n i ν ν' (sgS T n (enR (N, ML, GL, PL, C, vOf rh) (stO rh)))) := fun D hd ν i i0 i8 h h2 hl h39 => by
    obtain ⟨d, rfl⟩ : ∃ d, D = d + 1 := ⟨D - 1, by omega⟩
    refine cal_ev (fun r => call_X10_statementTold d bx ν) (ev_row (fun m => tX10_statementTold_0 _ m bx ν) (ev_neg (by rw [h39]; omega) ?_))
    rw [h2]
    refine ev_callP (tk_no hT (j := 0) (by decide) bx ν h w0 d (by omega)) (fun v ν1 ⟨hv1, f1, h1⟩ => ev_pos hv1 ?_)
    refine ev_callP (tk_no hT (j := 1) (by decide) bx ν1 h1 w1 d (by omega)) (fun v ν2 ⟨hv2, f2, h2⟩ => ev_pos hv2 ?_)
    refine ev_callP (tk_no hT (j := 5) (by decide) bx ν2 h2 w5 d (by omega)) (fun v ν3 ⟨hv3, f3, h3⟩ => ev_pos hv3 ?_)
    refine ev_callP (tk_no hT (j := 7) (by decide) bx ν3 h3 w7 d (by omega)) (fun v ν4 ⟨hv4, f4, h4⟩ => ev_pos hv4 ?_)
    have f04 : Fg [] lxJ ν ν4 := fg_tr (fg_tr (fg_tr (lex3 f1) (lex3 f2) (by decide) (by decide)) (lex3 f3) (by decide) (by decide)) (lex3 f4) (by decide) (by decide)
    refine ev_callP (rs_word hT (j := 12) (by decide) bx ν4 (st := .inr (s, g)) h4 d (by omega)) (fun _ ν5 ⟨f5', h5'⟩ => ?_)
    have f05 : Fg [] lxJ ν ν5 := fg_tr f04 f5' (by decide) (by decide)
    refine ev_callP (rs_num hT 0 23 bx ν5 h5' qh d (by omega)) (fun v ν6 ⟨f6', w6, h6'⟩ => ?_)
    have f06 : Fg [] lxJ ν ν6 := fg_tr f05 f6' (by decide) (by decide)
    have h6 : RS T n ν6 (stO rh) := h6'
    have ff : Fg [] [38] ν6 (m2 ν6 96 38 v) := fg_m96 fg_rfl (by decide)
    have h7 : RS T n (m2 ν6 96 38 v) (stO rh) := RS_fg h6 ff (by simp) (by decide)
    have g7 : Rfr stJ ν (m2 ν6 96 38 v) := rfr_fg (rfr_lex f06) ff (by decide)
    refine rf_116 hT (by omega) i0 i8 ?_ (by show m2 ν6 96 38 v 96 39 = i; rw [m2_at, if_neg (by decide), f06.2 39 (by decide)]; exact h39)
    show RSS T n ν (m2 ν6 96 38 v) _
    rcases hq : stO rh with e | ⟨s', g'⟩
    · rw [hq] at h7
      exact ⟨g7, h7⟩
    · rw [hq] at h7
      refine ⟨g7, h7, ?_⟩
      obtain ⟨c1, c2, c3, c4, c5, c6, c7⟩ := Rl_lex f06 hl
      have ne : ∀ a, a ≠ 96 → m2 ν6 96 38 v a = ν6 a := fun a ha => m2_ne ha
      have hv : v = vOf rh := by rw [stO_lv hq] at w6 ⊢; exact w6
      exact ⟨RNm_sm (ne 120 (by decide)) (ne 121 (by decide)) c1, RMn_sm (fun a ha => ne a (by omega)) c2, RHg_sm (ne 123 (by decide)) c3, RGt_sm (by rw [ne 120 (by decide)]) (ne 124 (by decide)) c4, RPp_sm (ne 125 (by decide)) c5, RCd_sm (by rw [m2_at, if_neg (by decide)]) (ne 126 (by decide)) c6, by rw [m2_at, if_pos rfl]; exact hv⟩
  refine ⟨sgS T n (enR (N, ML, GL, PL, C, vOf rh) (stO rh)), fun d hd μ0 μ i i0 i8 hf h hc Q K => ?_, rfl', SOk_sg hT ?_⟩
  · have h5 : μ 1 5 = tkW T n s g := h.2.2.2.2.1.2.1
    have h7 : μ 1 7 = s := h.2.2.2.2.1.2.2.2.1
    refine ev_row (fun m => tX4_read_6 _ m b μ i) (ev_pos (by omega) (ev_neg (by rw [h.2.2.2.2.1.1]; exact hk) ?_))
    rw [h5, h7]
    by_cases w12 : tkW T n s g = 12
    · refine ev_if0 (by omega) (ev_if0 (by omega) (ev_if0 (by omega) (ev_if0 (by omega) (ev_if0 (by omega) (ev_if0 (by omega) (ev_if0 (by omega) (ev_if0 (by omega) (ev_if0 (by omega) (ev_if0 (by omega) (ev_if0 (by omega) (ev_if0 (by omega) (ev_if w12 ?_))))))))))))
      refine ev_callP (sX4_take hT b μ h d (by omega)) (fun v μ1 ⟨f1', h1⟩ => ?_)
      have f1 : Fj rdJ μ μ1 := f1'
      have e12 : wdS T n 12 (.inr (s, g)) = .inr (nxS T n s, nxG T n s g) := if_pos w12
      rw [e12] at qh
      refine ev_callP (cs_num hT 0 23 b μ1 (st := .inr (nxS T n s, nxG T n s g)) h1 qh d (by omega)) (fun v2 μ2 ⟨f2', w2, h2'⟩ => ?_)
      have f2 : Fj rdJ μ1 μ2 := f2'
      have f02 := fj_tr f1 f2
      refine cl_146 hT (by omega) i0 i8 (css_en (dfr_m2 (dfr_tr hf (dfr_fj f02)) (by omega)) (CS_tw (b := b) h2' (by omega)) (fun s' g' q => ?_)) K
      have hv : v2 = vOf rh := by rw [stO_lv q] at w2 ⊢; exact w2
      have := Cl_hr (Cl_sm (dsm_fj (b := b) f02) hc) v2
      rw [← hv]; exact this
    · have e12 : wdS T n 12 (.inr (s, g)) = .inl (1, s) := if_neg w12
      rw [e12] at qh
      have er : rh = .inl (1, s) := qh
      rw [er] at K
      have F : Ev (fun m => mOptR (mCallN d 160 [mP 1, mI 1, mI s] (SH, μ, RHO b)) (fun x => mRun (mCallN d) kX4_read m 146 [some (mP 1), some (mI i)] [] (SH, x.2.2.1, RHO b))) b Q :=
        ev_callP (sX4_fail 1 s (by decide) b μ h d (by omega)) (fun v μ1 ⟨f1, h1⟩ => cl_146 hT (by omega) i0 i8 (r := .inl (1, s)) ⟨dfr_tr hf (dfr_fj f1), h1⟩ K)
      exact ev_if0 w0 (ev_if0 w1 (ev_ite (fun _ => F) (fun _ => ev_ite (fun _ => F) (fun _ => ev_ite (fun _ => F) (fun _ => ev_if0 w5 (ev_ite (fun _ => F) (fun _ => ev_if0 w7 (ev_ite (fun _ => F) (fun _ => ev_ite (fun _ => F) (fun _ => ev_ite (fun _ => F) (fun _ => ev_ite (fun _ => F) (fun _ => ev_if0 w12 F))))))))))))
  · rcases hq : stO rh with e | ⟨s', g'⟩
    · exact trivial
    · rw [stO_lv hq] at qh
      obtain ⟨s1, g1, e1, b1, c1⟩ := nuS_lv hT qh
      obtain ⟨s0, g0, e0, c0⟩ := wdS_lv hT (by decide) e1
      cases e0
      have d0 := c0 hv
      have d1 := c1 d0.1
      obtain ⟨h1, h2, h3, h4, h5, h6, h7⟩ := hD
      exact ⟨d1.1, by omega, ⟨h1, h2, h3, b1, h5, h6, h7⟩, by show (C.length : Int) ≤ _; omega⟩
