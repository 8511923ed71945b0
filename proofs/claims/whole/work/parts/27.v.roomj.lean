/-! ===== town: rooms, both alike ===== -/
theorem RMn_sm {ν ν' : Nat → Int → Int} {L : List (Int × Int × Int × Int)} (h : ∀ a, a = 128 ∨ a = 129 ∨ a = 130 ∨ a = 122 → ν' a = ν a) (hc : RMn ν L) : RMn ν' L := fun i hi => by
  rw [h 128 (by omega), h 129 (by omega), h 130 (by omega), h 122 (by omega)]; exact hc i hi
theorem RHg_sm {ν ν' : Nat → Int → Int} {M : Nat} {L : List (Int × Int × Int)} (h : ν' 123 = ν 123) (hc : RHg ν M L) : RHg ν' M L := fun i hi => by rw [h]; exact hc i hi
theorem RGt_sm {ν ν' : Nat → Int → Int} {L : List (Int × Int × Int)} (h : ν' 120 3 = ν 120 3) (h2 : ν' 124 = ν 124) (hc : RGt ν L) : RGt ν' L := ⟨by rw [h]; exact hc.1, fun i hi => by rw [h2]; exact hc.2 i hi⟩
theorem RPp_sm {ν ν' : Nat → Int → Int} {L : List (Int × Int × Int × Int)} (h : ν' 125 = ν 125) (hc : RPp ν L) : RPp ν' L := fun i hi => by rw [h]; exact hc i hi
theorem RCd_sm {ν ν' : Nat → Int → Int} {C : List Int} (h : ν' 96 41 = ν 96 41) (h2 : ν' 126 = ν 126) (hc : RCd ν C) : RCd ν' C := ⟨by rw [h]; exact hc.1, fun i hi => by rw [h2]; exact hc.2 i hi⟩
theorem RSv_m2 {T : Int → Int} {n s : Int} {g : Bool} {ν : Nat → Int → Int} {a : Nat} {i v : Int} (h : RSv T n ν s g) (ha : 120 ≤ a) : RSv T n (m2 ν a i v) s g := by
  have k96 : m2 ν a i v 96 = ν 96 := m2_ne (by omega)
  have k97 : m2 ν a i v 97 = ν 97 := m2_ne (by omega)
  unfold RSv Rwrd at h ⊢
  rw [k96, k97]
  obtain ⟨h1, h2, h3, h4, h5, h6⟩ := h
  exact ⟨h1, h2, h3, h4, fun j hj x hx => by rw [m2_ne (by omega)]; exact h5 j hj x hx, h6⟩
theorem RBd_m2 {ν : Nat → Int → Int} {e : Int × Int} {a : Nat} {i v : Int} (h : RBd ν e) (ha : a ≠ 96) : RBd (m2 ν a i v) e := by
  have k96 : m2 ν a i v 96 = ν 96 := m2_ne (fun q => ha q.symm)
  unfold RBd at h ⊢
  rw [k96]; exact h
theorem cl_more {T : Int → Int} {n s : Int} {g : Bool} (hT : Tp T n) {k : Nat} (hk : k < 4) (b : Bool) (μ : Nat → Int → Int) (h : CLv T n μ s g) (hl : μ (tw (!b) + 1) (k : Int) < mst k) : ∀ d, 3 ≤ d → Cal d 175 [mP 1, mI (k : Int)] b μ (fun v μ' => v = 1 ∧ Fj rdJ μ μ' ∧ CLv T n μ' (nxS T n s) (nxG T n s g)) := fun d hd => cal_mono (sX4_takeAnother hT hk b μ h d hd) (fun v μ' ⟨f, hh⟩ => by
  rcases hh with ⟨-, h1, h2⟩ | ⟨h1, -⟩
  · exact ⟨h1, f, h2⟩
  · exact absurd hl h1)
theorem cl_full {T : Int → Int} {n s : Int} {g : Bool} (hT : Tp T n) {k : Nat} (hk : k < 4) (b : Bool) (μ : Nat → Int → Int) (h : CLv T n μ s g) (hl : ¬ μ (tw (!b) + 1) (k : Int) < mst k) : ∀ d, 3 ≤ d → Cal d 175 [mP 1, mI (k : Int)] b μ (fun v μ' => v = 0 ∧ Fj rdJ μ μ' ∧ CDd T n μ' (5, s)) := fun d hd => cal_mono (sX4_takeAnother hT hk b μ h d hd) (fun v μ' ⟨f, hh⟩ => by
  rcases hh with ⟨h1, -⟩ | ⟨-, h1, h2⟩
  · exact absurd h1 hl
  · exact ⟨h1, f, h2⟩)
theorem rf_more {T : Int → Int} {n s : Int} {g : Bool} (b : Bool) (ν : Nat → Int → Int) (h : RSv T n ν s g) (k m p : Int) (k0 : 0 ≤ k) (k1 : k < 8) (hm : ν 120 k ≠ m) : ∀ d, 2 ≤ d → mCallN d 63 [mP 96, mI k, mI m, mI p] (SH, ν, RHO b) = some (0, SH, ν, RHO b) := fun d hd => cal_eq (cal_mono (sX10_isFull b ν h k m p k0 k1 d hd) (fun v ν' hh => by
  rcases hh with ⟨-, h1, h2⟩ | ⟨h1, -⟩
  · exact ⟨h1, h2⟩
  · exact absurd h1 hm))
theorem rf_full {T : Int → Int} {n s : Int} {g : Bool} (b : Bool) (ν : Nat → Int → Int) (h : RSv T n ν s g) (k m p : Int) (k0 : 0 ≤ k) (k1 : k < 8) (hm : ν 120 k = m) : ∀ d, 2 ≤ d → Cal d 63 [mP 96, mI k, mI m, mI p] b ν (fun v ν' => v = 1 ∧ Fg [] [5, 6] ν ν' ∧ RBd ν' (5, p)) := fun d hd => cal_mono (sX10_isFull b ν h k m p k0 k1 d hd) (fun v ν' hh => by
  rcases hh with ⟨h1, -⟩ | ⟨-, h1, h2⟩
  · exact absurd hm h1
  · exact ⟨h1, h2⟩)
theorem rfr_lex {ν ν' : Nat → Int → Int} (h : Fg [] lxJ ν ν') : Rfr stJ ν ν' := rfr_fg rfr_rfl h (by decide)
theorem DOk_room {N : Nat → List (List Int)} {ML : List (Int × Int × Int × Int)} {GL : List (Int × Int × Int)} {PL : List (Int × Int × Int × Int)} {C : List Int} {H : Int} (hD : DOk (N, ML, GL, PL, C, H)) {w : List Int} (hw : gdN w) (hl : (N 0).length < 10) : DOk (updN N 0 w, ML, GL, PL, C, H) := by
  obtain ⟨h1, ⟨h2, h3, h4⟩, h5, h6, h7, h8, h9, h10⟩ := hD
  have e0 : (updN N 0 w 0).length = (N 0).length + 1 := by rw [updN_at, List.length_append, List.length_singleton]
  have e1 : updN N 0 w 1 = N 1 := updN_ne (by decide)
  have e3 : updN N 0 w 3 = N 3 := updN_ne (by decide)
  refine ⟨NOk_put h1 hw (by omega), ⟨by omega, by rw [e1]; exact h3, by rw [e3]; exact h4⟩, by rw [e1, e3]; exact h5, h6, h7, fun x hx => ?_, h9, fun x hx => ?_⟩
  · obtain ⟨a1, a2, a3, a4⟩ := h8 x hx
    rw [e1, e0]; exact ⟨by omega, by omega, a3, a4⟩
  · obtain ⟨a1, a2, a3, a4⟩ := h10 x hx
    rw [e0]; exact ⟨by omega, by omega, a3, a4⟩
theorem J_room (b bx : Bool) {T : Int → Int} {n : Int} (hT : Tp T n) {N : Nat → List (List Int)} {ML : List (Int × Int × Int × Int)} {GL : List (Int × Int × Int)} {PL : List (Int × Int × Int × Int)} {C : List Int} {H : Int} (hD : DOk (N, ML, GL, PL, C, H)) {s : Int} {g : Bool} (hv : VC T n s) (hs : (C.length : Int) ≤ s) (hw : tkW T n s g = 0) : ∃ r, JS b bx T n 173 110 (N, ML, GL, PL, C, H) s g r := by
  have hlt : s < n := (tkW_pos (g := g) hT hv (by omega)).2.1
  have hx := nx_in hT hv
  have hss := hx.2.2.1 hlt
  obtain ⟨hN, ⟨l0, l1, l3⟩, -⟩ := id hD
  by_cases hf : (N 0).length < 10
  · obtain ⟨rn, hn⟩ := nwR_ex T n (nxS T n s) (nxG T n s g) N
    refine ⟨(match rn with | .inl e => .inl e | .inr _ => .inr ((updN N 0 (nmL T n (nxS T n s)), ML, GL, PL, C, H), nxS T n (nxS T n s), nxG T n (nxS T n s) (nxG T n s g)) : SR), fun D hd μ h hc => ?_, fun D hd ν h hr => ?_, ?_⟩
    · obtain ⟨d, rfl⟩ : ∃ d, D = d + 1 := ⟨D - 1, by omega⟩
      obtain ⟨c1, c2, c3, c4, c5, c6⟩ := hc
      have hk0 := (c1 0 (by decide) (by decide)).1
      refine cal_ev (fun r => call_X4_readRoom d b μ) (ev_row (fun m => tX4_readRoom_0 _ m b μ) (ev_callP (cl_more hT (k := 0) (by decide) b μ h (by rw [hk0]; show _ < (10 : Int); omega) d (by omega)) (fun v μ1 ⟨hv1, f1', h1⟩ => ?_)))
      have f1 : Fj rdJ μ μ1 := f1'
      have sm := dsm_fj (b := b) f1
      refine ev_neg (by show ¬ v = 0; omega) (ev_callP (cl_new hT (k := 0) (by decide) (by decide) b μ1 h1 (CNm_sm sm c1) hN (by omega) hn d (by omega)) (fun v2 μ2 ⟨hv2, h2⟩ => ev_row (fun m => tX4_readRoom_14 _ m b _) (ev_ret ?_)))
      rcases rn with e | u
      · obtain ⟨x, μ3, f3, hm, h3⟩ := h2
        have hm' : μ2 = mNm b 0 x μ3 := hm
        refine ⟨?_, h3⟩
        show Dfr b μ μ2
        rw [hm']; exact dfr_mNm (by decide) (dfr_tr (dfr_fj f1) (dfr_fj f3))
      · obtain ⟨μ3, f3, hm, h3⟩ := h2
        have hm' : μ2 = mNm b 0 (pk5 (nmL T n (nxS T n s))) μ3 := hm
        have sm3 := dsm_fj (b := b) (fj_tr f1 f3)
        have cc := Cl_sm (D := (N, ML, GL, PL, C, H)) sm3 ⟨c1, c2, c3, c4, c5, c6⟩
        obtain ⟨k1, k2, k3, k4, k5, k6⟩ := cc
        refine ⟨?_, h3, ?_⟩
        · show Dfr b μ μ2
          rw [hm']; exact dfr_mNm (by decide) (dfr_tr (dfr_fj f1) (dfr_fj f3))
        · show Cl b μ2 _
          rw [hm']
          exact ⟨CNm_put k1 (by decide) (by decide) _, CMn_mNm (by decide) k2, CGt_mNm (by decide) (by decide) k3, CPp_mNm (by decide) k4, CCd_mNm (by decide) k5, by rw [mNm_ne (by omega) (by omega)]; exact k6⟩
    · obtain ⟨d, rfl⟩ : ∃ d, D = d + 1 := ⟨D - 1, by omega⟩
      obtain ⟨c1, c2, c3, c4, c5, c6, c7⟩ := hr
      have hk0 : ν 120 0 = ((N 0).length : Int) := (c1 0 (by decide) (by decide)).1
      refine cal_ev (fun r => call_X10_roomTold d bx ν s) (ev_row (fun m => tX10_roomTold_0 _ m bx ν s) (ev_call (rf_more bx ν h 0 10 s (by decide) (by decide) (by omega) d (by omega)) (ev_pos rfl (ev_callP (rf_new hT bx ν h c1 hN hn d (by omega)) (fun v ν1 ⟨f1', h1'⟩ => ?_)))))
      have f1 : Fg [] lxJ ν ν1 := f1'
      rcases rn with e | u
      · have h1 : RBd ν1 e := h1'
        exact ev_neg (by show ¬ ν1 96 5 = 0; rw [h1.1]; exact h1.2.1) (ev_ret ⟨rfr_lex f1, h1⟩)
      · obtain ⟨hv1, h1'⟩ := h1'
        have h1 : RSv T n ν1 (nxS T n (nxS T n s)) (nxG T n (nxS T n s) (nxG T n s g)) := h1'
        have e120 : ν1 120 = ν 120 := f1.1 120 (by simp) (by decide)
        have rl := Rl_lex (D := (N, ML, GL, PL, C, H)) f1 ⟨c1, c2, c3, c4, c5, c6, c7⟩
        obtain ⟨k1, k2, k3, k4, k5, k6, k7⟩ := rl
        refine ev_pos h1.1 (ev_if (by show 0 ≤ ν1 120 0 ∧ ν1 120 0 < 72; rw [e120, hk0]; omega) (ev_ret ?_))
        have hval : w32 (m2 ν1 121 (ν1 120 0) v 120 0 + 1) = ((N 0).length : Int) + 1 := by
          rw [m2_ne (by decide), e120, hk0]; exact w32_id (by omega) (by omega)
        have hval2 : ν1 120 0 = ((N 0).length : Int) := by rw [e120, hk0]
        show RSS T n ν (m2 (m2 ν1 121 (ν1 120 0) v) 120 0 (w32 (m2 ν1 121 (ν1 120 0) v 120 0 + 1))) _
        rw [hval, hval2]
        refine ⟨rfr_m2 (rfr_m2 (rfr_lex f1) (by decide) (Or.inr (Or.inr (by show _ < (36 : Int); omega)))) (by decide) (Or.inr (Or.inr (by decide))), RSv_m2 (RSv_m2 h1 (by decide)) (by decide), RNm_put k1 (by decide) (by decide) (by omega) hN _ (fun j => ?_) (fun j hj => ?_), RMn_sm (fun a ha => by rw [m2_ne (by omega), m2_ne (by omega)]) k2, RHg_sm (by rw [m2_ne (by decide), m2_ne (by decide)]) k3, RGt_sm (by rw [m2_at, if_neg (by decide), m2_ne (by decide)]) (by rw [m2_ne (by decide), m2_ne (by decide)]) k4, RPp_sm (by rw [m2_ne (by decide), m2_ne (by decide)]) k5, RCd_sm (by rw [m2_ne (by decide), m2_ne (by decide)]) (by rw [m2_ne (by decide), m2_ne (by decide)]) k6, by rw [m2_ne (by decide), m2_ne (by decide)]; exact k7⟩
        · rw [m2_at, m2_ne (by decide)]; rfl
        · rw [m2_ne (by decide), m2_at, show rk 0 = 0 from rfl, show v = pk27 0 (nmL T n (nxS T n s)) from hv1]
          by_cases q : j = ((N 0).length : Int)
          · rw [if_pos q, if_pos (by omega)]
          · rw [if_neg q, if_neg (by omega)]
    · rcases rn with e | u
      · exact trivial
      · have hlt2 := (tkK1 hT hx.1 hn.1.1.1).1
        have hx2 := nx_in hT hx.1
        have h2 := hx2.2.2.1 hlt2
        exact ⟨hx2.1, by omega, DOk_room hD (nmL_ok hT hx.1 hn.1) hf, by show (C.length : Int) ≤ _; omega⟩
  · refine ⟨.inl (5, s), fun D hd μ h hc => ?_, fun D hd ν h hr => ?_, trivial⟩
    · obtain ⟨d, rfl⟩ : ∃ d, D = d + 1 := ⟨D - 1, by omega⟩
      have hk0 := (hc.1 0 (by decide) (by decide)).1
      refine cal_ev (fun r => call_X4_readRoom d b μ) (ev_row (fun m => tX4_readRoom_0 _ m b μ) (ev_callP (cl_full hT (k := 0) (by decide) b μ h (by rw [hk0]; show ¬ _ < (10 : Int); omega) d (by omega)) (fun v μ1 ⟨hv1, f1, h1⟩ => ev_pos hv1 (ev_row (fun m => tX4_readRoom_14 _ m b _) (ev_ret ⟨dfr_fj f1, h1⟩)))))
    · obtain ⟨d, rfl⟩ : ∃ d, D = d + 1 := ⟨D - 1, by omega⟩
      have hk0 : ν 120 0 = ((N 0).length : Int) := (hr.1 0 (by decide) (by decide)).1
      refine cal_ev (fun r => call_X10_roomTold d bx ν s) (ev_row (fun m => tX10_roomTold_0 _ m bx ν s) (ev_callP (rf_full bx ν h 0 10 s (by decide) (by decide) (by omega) d (by omega)) (fun v ν1 ⟨hv1, f1, h1⟩ => ev_neg (by show ¬ v = 0; omega) (ev_ret ⟨rfr_fg rfr_rfl f1 (by decide), h1⟩))))
