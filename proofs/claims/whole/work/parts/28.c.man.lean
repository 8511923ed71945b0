/-! ===== town: men, both alike ===== -/
theorem man_len {T : Int → Int} {n s : Int} {g : Bool} (hT : Tp T n) (hv : VC T n s) (hw : tkW T n s g = 1) : s + 3 ≤ nxS T n s := by
  have h := (tkW_pos (g := g) hT hv (by omega)).2.2.2
  have h1 : owN T n s = ((1 : Nat) : Int) := by rw [← h, hw]; rfl
  have h2 := (wdB_iff.1 ((owN_iff (by decide)).1 h1)).1
  have h3 : bhd T n s - s = 3 := h2
  have := (nx_in hT hv).2.2.2.1
  omega
theorem mOk_app {C X : List Int} {x : Int × Int × Int × Int} (h : mOk C x) : mOk (C ++ X) x := by
  obtain ⟨h1, A, B, E, F, h2, h3⟩ := h
  exact ⟨h1, A, B, E, F ++ X, by rw [h2, List.append_assoc (A ++ B ++ E)], h3⟩
theorem lvR {r : CR} {s : Int} {g : Bool} (h : stR r = .inr (s, g)) : r = .inr (lsC r, s, g) := by
  rcases r with e | ⟨L, s', g'⟩
  · cases h
  · cases h; rfl
section
variable {T : Int → Int} {n : Int} {N : Nat → List (List Int)} {ML : List (Int × Int × Int × Int)} {GL : List (Int × Int × Int)} {PL : List (Int × Int × Int × Int)} {C : List Int} {H : Int}
theorem RCd_app {ν ν' : Nat → Int → Int} {C L : List Int} (h : RCd ν C) (h1 : ν' 96 41 = ν 96 41 + (L.length : Int)) (h2 : ∀ i : Nat, i < L.length → ν' 126 (ν 96 41 + (i : Int)) = L.getD i 0) (h3 : ∀ x, x < ν 96 41 → ν' 126 x = ν 126 x) : RCd ν' (C ++ L) := by
  obtain ⟨a1, a2⟩ := h
  refine ⟨by rw [h1, a1, List.length_append]; omega, fun i hi => ?_⟩
  rw [List.length_append] at hi
  by_cases q : i < C.length
  · rw [h3 _ (by omega), a2 i q, List.getD_eq_getElem?_getD, List.getD_eq_getElem?_getD, List.getElem?_append_left q]
  · have := h2 (i - C.length) (by omega)
    rw [a1, show (C.length : Int) + ((i - C.length : Nat) : Int) = (i : Int) by omega] at this
    rw [this, List.getD_eq_getElem?_getD, List.getD_eq_getElem?_getD, List.getElem?_append_right (by omega)]
theorem J_man (b bx : Bool) (hT : Tp T n) (hD : DOk (N, ML, GL, PL, C, H)) {s : Int} {g : Bool} (hv : VC T n s) (hs : (C.length : Int) ≤ s) (hw : tkW T n s g = 1) : ∃ r, JS b bx T n 170 85 (N, ML, GL, PL, C, H) s g r := by
  have hlt : s < n := (tkW_pos (g := g) hT hv (by omega)).2.1
  have hx := nx_in hT hv
  have hss := man_len hT hv hw
  obtain ⟨hN, ⟨l0, l1, l3⟩, ⟨m1, m2', m3⟩, h4, h5, h6, h7, h8⟩ := id hD
  by_cases hf : (N 1).length < 12
  · obtain ⟨rn, hn⟩ := nwR_ex T n (nxS T n s) (nxG T n s g) N
    have vn : VS T n (nwT T n (nxS T n s) (nxG T n s g) rn) := fun s' g' q => ((nwT_lv hT hn q).2.2 hx.1).1
    have v3 := VS_wd (w := 2) hT (by decide) vn
    obtain ⟨r4, q4⟩ := tsS_ex b bx hT v3
    have co4 := tsS_co q4
    have v5 := VS_wd (w := 3) hT (by decide) (VS_co co4)
    obtain ⟨r6, q6⟩ := suS_ex b bx hT v5
    have co6 := suS_co q6
    obtain ⟨r8, q8⟩ := nuS_ex T n 1 20 (wdS T n 4 (stR r6))
    have at3 : ∀ s3 g3, wdS T n 2 (nwT T n (nxS T n s) (nxG T n s g) rn) = .inr (s3, g3) → (C.length : Int) + 4 ≤ s3 ∧ s < s3 ∧ rn = .inr () ∧ nmO T n (nxS T n s) (nxG T n s g) := fun s3 g3 q => by
      obtain ⟨s2, g2, e2, c3⟩ := wdS_lv hT (by decide) q
      obtain ⟨en, on, c2⟩ := nwT_lv hT hn e2
      have d2 := c2 hx.1
      have d3 := c3 d2.1
      exact ⟨by omega, by omega, en, on⟩
    have at5 : ∀ s5 g5, wdS T n 3 (stR r4) = .inr (s5, g5) → (C.length : Int) + ((lsC r4).length : Int) + 4 ≤ s5 ∧ s < s5 ∧ (∃ s4 g4, r4 = .inr (lsC r4, s4, g4)) ∧ rn = .inr () ∧ nmO T n (nxS T n s) (nxG T n s g) ∧ TyL (lsC r4) [] [true] := fun s5 g5 q => by
      obtain ⟨s4, g4, e4, c5⟩ := wdS_lv hT (by decide) q
      have e4' := lvR e4
      obtain ⟨s3, g3, e3, u1, u2, u3, u4⟩ := co4 _ _ _ e4'
      have d5 := c5 u1
      obtain ⟨a1, a2, a3, a4⟩ := at3 s3 g3 e3
      exact ⟨by omega, by omega, ⟨s4, g4, e4'⟩, a3, a4, u4⟩
    have back : ∀ s' g', stO r8 = .inr (s', g') → rn = .inr () ∧ nmO T n (nxS T n s) (nxG T n s g) ∧ (∃ s4 g4, r4 = .inr (lsC r4, s4, g4)) ∧ (∃ s6 g6, r6 = .inr (lsC r6, s6, g6)) ∧ lvV r8 ∧ (1 ≤ vOf r8 ∧ vOf r8 ≤ 20) ∧ VC T n s' ∧ s < s' ∧ (C.length : Int) + ((lsC r4).length : Int) + ((lsC r6).length : Int) ≤ s' ∧ TyL (lsC r4) [] [true] ∧ TyL (lsC r6) [] [false] := fun s' g' q => by
      have e8 := stO_lv q
      rw [e8] at q8
      obtain ⟨s7, g7, e7, b8, c8⟩ := nuS_lv hT q8
      obtain ⟨s6, g6, e6, c7⟩ := wdS_lv hT (by decide) e7
      have e6' := lvR e6
      obtain ⟨s5, g5, e5, u1, u2, u3, u4⟩ := co6 _ _ _ e6'
      have d7 := c7 u1
      have d8 := c8 d7.1
      obtain ⟨a1, a2, a3, a4, a5, a6⟩ := at5 s5 g5 e5
      exact ⟨a4, a5, a3, ⟨s6, g6, e6'⟩, ⟨_, _, _, e8⟩, b8, d8.1, by omega, by omega, a6, u4⟩
    have val : ∀ {v : Int} {r : VR}, vlC v r → lvV r → v = vOf r := fun {v r} h ⟨x, s, g, e⟩ => by rw [e] at h ⊢; exact h
    refine ⟨enR (updN N 1 (nmL T n (nxS T n s)), ML ++ [((C.length : Int), (C.length : Int) + ((lsC r4).length : Int), (C.length : Int) + ((lsC r4).length : Int) + ((lsC r6).length : Int), vOf r8)], GL, PL, C ++ lsC r4 ++ lsC r6, H) (stO r8), fun D hd μ h hc => ?_, fun D hd ν h hr => ?_, ?_⟩
    · obtain ⟨d, rfl⟩ : ∃ d, D = d + 1 := ⟨D - 1, by omega⟩
      have t1 := tw_or (!b)
      have hk0 := (hc.1 1 (by decide) (by decide)).1
      refine cal_ev (fun r => call_X4_readMan d b μ) (ev_row (fun m => tX4_readMan_0 _ m b μ) (ev_callP (cl_more hT (k := 1) (by decide) b μ h (by rw [hk0]; show _ < (12 : Int); omega) d (by omega)) (fun v μ1 ⟨hv1, f1', h1'⟩ => ev_neg (by show ¬ v = 0; omega) ?_)))
      have f1 : Fj rdJ μ μ1 := f1'
      have h1 : CLv T n μ1 (nxS T n s) (nxG T n s g) := h1'
      have k1 := Cl_sm (dsm_fj (b := b) f1) hc
      refine ev_callP (cs_new hT (k := 1) (by decide) (by decide) b μ1 h1 k1.1 hN (by omega) hn d (by omega)) (fun p μ2 ⟨hp', x, μ1', f2, hm, h2', hxw⟩ => ?_)
      have hp : p = ((N 1).length : Int) := hp'
      subst hp
      have hm' : μ2 = mNm b 1 x μ1' := hm
      have k1' := Cl_sm (dsm_fj (b := b) f2) k1
      have g2 : Dfr b μ μ2 := by rw [hm']; exact dfr_mNm (by decide) (dfr_tr (dfr_fj f1) (dfr_fj f2))
      have hpi : (0 : Int) ≤ ((N 1).length : Int) ∧ ((N 1).length : Int) < 12 := by omega
      have cd2 : CCd b μ2 C := by rw [hm']; exact CCd_mNm (by decide) k1'.2.2.2.2.1
      refine ev_callP (cs_word hT 2 (by decide) b μ2 h2' d (by omega)) (fun _ μ3 ⟨f3', h3'⟩ => ev_if hpi ?_)
      have f3 : Fj rdJ μ2 μ3 := f3'
      have s3 := dsm_fj (b := b) f3
      have cd3 : CCd b μ3 C := CCd_sm (by rw [s3 _ (by omega) (by omega)]) (s3 _ (by omega) (by omega)) cd2
      have cdA : CCd b (m2 μ3 (tw (!b) + 16) ((N 1).length : Int) (μ3 (tw (!b)) 13)) C := CCd_sm (by rw [m2_ne (by omega)]) (m2_ne (by omega)) cd3
      have hA : CS T n (m2 μ3 (tw (!b) + 16) ((N 1).length : Int) (μ3 (tw (!b)) 13)) (wdS T n 2 (nwT T n (nxS T n s) (nxG T n s g) rn)) := CS_tw (b := b) h3' (by omega)
      refine ev_callP (cs_test (b := b) _ q4 v3 hA (by rw [cdA.1]; omega) (fun s3 g3 q => by have := (at3 s3 g3 q).1; rw [cdA.1]; omega) d (by omega)) (fun _ μ4 hch' => ?_)
      have ch4 : ChC b T n (m2 μ3 (tw (!b) + 16) ((N 1).length : Int) (μ3 (tw (!b)) 13)) μ4 r4 := hch'
      obtain ⟨x4, p4, h4', a4⟩ := ch4
      refine ev_callP (cs_word hT 3 (by decide) b μ4 h4' d (by omega)) (fun _ μ5 ⟨f5', h5'⟩ => ev_if hpi ?_)
      have f5 : Fj rdJ μ4 μ5 := f5'
      have s5 := dsm_fj (b := b) f5
      have hB : CS T n (m2 μ5 (tw (!b) + 17) ((N 1).length : Int) (μ5 (tw (!b)) 13)) (wdS T n 3 (stR r4)) := CS_tw (b := b) h5' (by omega)
      have eB : m2 μ5 (tw (!b) + 17) ((N 1).length : Int) (μ5 (tw (!b)) 13) (tw (!b)) 13 = μ4 (tw (!b)) 13 := by rw [m2_ne (by omega), s5 _ (by omega) (by omega)]
      have cdB : (∃ s4 g4, r4 = .inr (lsC r4, s4, g4)) → CCd b (m2 μ5 (tw (!b) + 17) ((N 1).length : Int) (μ5 (tw (!b)) 13)) (C ++ lsC r4) := fun ⟨s4, g4, e4⟩ => CCd_sm eB (by rw [m2_ne (by omega), s5 _ (by omega) (by omega)]) (CCd_app cdA (a4 _ _ _ e4))
      refine ev_callP (cs_sum (b := b) _ q6 v5 hB (by rw [eB]; exact p4) (fun s5 g5 q => by
        obtain ⟨w1, w2, w3, -⟩ := at5 s5 g5 q
        rw [(cdB w3).1, List.length_append]; omega) d (by omega)) (fun _ μ6 hch' => ev_if hpi ?_)
      have ch6 : ChC b T n (m2 μ5 (tw (!b) + 17) ((N 1).length : Int) (μ5 (tw (!b)) 13)) μ6 r6 := hch'
      obtain ⟨x6, p6, h6', a6⟩ := ch6
      have hC : CS T n (m2 μ6 (tw (!b) + 18) ((N 1).length : Int) (μ6 (tw (!b)) 13)) (stR r6) := CS_tw (b := b) h6' (by omega)
      refine ev_callP (cs_word hT 4 (by decide) b _ hC d (by omega)) (fun _ μ7 ⟨f7', h7'⟩ => ?_)
      have f7 : Fj rdJ (m2 μ6 (tw (!b) + 18) ((N 1).length : Int) (μ6 (tw (!b)) 13)) μ7 := f7'
      refine ev_callP (cs_num hT 1 20 b μ7 h7' q8 d (by omega)) (fun v8 μ8 ⟨f8', w8, h8'⟩ => ev_if hpi (ev_ret ?_))
      have f8 : Fj rdJ μ7 μ8 := f8'
      have s78 := dsm_fj (b := b) (fj_tr f7 f8)
      have h8c : CS T n (m2 μ8 (tw (!b) + 7) ((N 1).length : Int) v8) (stO r8) := CS_tw (b := b) h8' (by omega)
      have gA := dfr_m2 (a := tw (!b) + 16) (i := ((N 1).length : Int)) (v := μ3 (tw (!b)) 13) (dfr_tr g2 (dfr_fj f3)) (by omega)
      have gB := dfr_m2 (a := tw (!b) + 17) (i := ((N 1).length : Int)) (v := μ5 (tw (!b)) 13) (dfr_tr (dfr_tr gA (dfr_xf x4)) (dfr_fj f5)) (by omega)
      have gC := dfr_m2 (a := tw (!b) + 18) (i := ((N 1).length : Int)) (v := μ6 (tw (!b)) 13) (dfr_tr gB (dfr_xf x6)) (by omega)
      have gD := dfr_m2 (a := tw (!b) + 7) (i := ((N 1).length : Int)) (v := v8) (dfr_tr gC (dfr_fj (fj_tr f7 f8))) (by omega)
      refine css_en gD h8c (fun s' g' q => ?_)
      obtain ⟨en, -, y4, y6, y8, -⟩ := back s' g' q
      have z8 := val w8 y8
      have cB := cdB y4
      obtain ⟨s6, g6, e6⟩ := y6
      have c6 := CCd_app cB (a6 _ _ _ e6)
      have e13 : μ3 (tw (!b)) 13 = (C.length : Int) := cd3.1
      have e15 : μ5 (tw (!b)) 13 = (C.length : Int) + ((lsC r4).length : Int) := by
        have := cB.1
        rw [m2_ne (by omega), List.length_append] at this; omega
      have e17 : μ6 (tw (!b)) 13 = (C.length : Int) + ((lsC r4).length : Int) + ((lsC r6).length : Int) := by
        have := c6.1
        rw [List.length_append, List.length_append] at this; omega
      have xs : ∀ {α β : Nat → Int → Int}, Xf b α β → ∀ a, a ≤ 18 → a ≠ 0 → a ≠ 15 → β (tw (!b) + a) = α (tw (!b) + a) := fun {α β} hh a _ h0 h15 => hh.1 _ (by simp only [List.mem_cons, List.not_mem_nil, or_false]; omega)
      /- the draft's cells -/
      have oth : ∀ a, a ≤ 18 → a ≠ 0 → a ≠ 15 → a ≠ 7 → a ≠ 16 → a ≠ 17 → a ≠ 18 → m2 μ8 (tw (!b) + 7) ((N 1).length : Int) v8 (tw (!b) + a) = μ2 (tw (!b) + a) := fun a h18 e0 e15 e1 e2 e3 e4 => by
        rw [m2_ne (by omega), s78 _ (by omega) (by omega), m2_ne (by omega), xs x6 a h18 e0 e15, m2_ne (by omega), s5 _ (by omega) (by omega), xs x4 a h18 e0 e15, m2_ne (by omega), s3 _ (by omega) (by omega)]
      have c16 : ∀ j, m2 μ8 (tw (!b) + 7) ((N 1).length : Int) v8 (tw (!b) + 16) j = if j = ((N 1).length : Int) then (C.length : Int) else μ2 (tw (!b) + 16) j := fun j => by
        rw [m2_ne (by omega), s78 _ (by omega) (by omega), m2_ne (by omega), xs x6 16 (by decide) (by decide) (by decide), m2_ne (by omega), s5 _ (by omega) (by omega), xs x4 16 (by decide) (by decide) (by decide), m2_at, e13, s3 _ (by omega) (by omega)]
      have c17 : ∀ j, m2 μ8 (tw (!b) + 7) ((N 1).length : Int) v8 (tw (!b) + 17) j = if j = ((N 1).length : Int) then (C.length : Int) + ((lsC r4).length : Int) else μ2 (tw (!b) + 17) j := fun j => by
        rw [m2_ne (by omega), s78 _ (by omega) (by omega), m2_ne (by omega), xs x6 17 (by decide) (by decide) (by decide), m2_at, e15, s5 _ (by omega) (by omega), xs x4 17 (by decide) (by decide) (by decide), m2_ne (by omega), s3 _ (by omega) (by omega)]
      have c18 : ∀ j, m2 μ8 (tw (!b) + 7) ((N 1).length : Int) v8 (tw (!b) + 18) j = if j = ((N 1).length : Int) then (C.length : Int) + ((lsC r4).length : Int) + ((lsC r6).length : Int) else μ2 (tw (!b) + 18) j := fun j => by
        rw [m2_ne (by omega), s78 _ (by omega) (by omega), m2_at, e17, xs x6 18 (by decide) (by decide) (by decide), m2_ne (by omega), s5 _ (by omega) (by omega), xs x4 18 (by decide) (by decide) (by decide), m2_ne (by omega), s3 _ (by omega) (by omega)]
      have c7 : ∀ j, m2 μ8 (tw (!b) + 7) ((N 1).length : Int) v8 (tw (!b) + 7) j = if j = ((N 1).length : Int) then v8 else μ2 (tw (!b) + 7) j := fun j => by
        rw [m2_at, s78 _ (by omega) (by omega), m2_ne (by omega), xs x6 7 (by decide) (by decide) (by decide), m2_ne (by omega), s5 _ (by omega) (by omega), xs x4 7 (by decide) (by decide) (by decide), m2_ne (by omega), s3 _ (by omega) (by omega)]
      have cF : CCd b (m2 μ8 (tw (!b) + 7) ((N 1).length : Int) v8) (C ++ lsC r4 ++ lsC r6) := CCd_sm (by rw [m2_ne (by omega), s78 _ (by omega) (by omega), m2_ne (by omega)]) (by rw [m2_ne (by omega), s78 _ (by omega) (by omega), m2_ne (by omega)]) c6
      have hh1 : m2 μ8 (tw (!b) + 7) ((N 1).length : Int) v8 (tw (!b)) 1 = μ2 (tw (!b)) 1 := by
        rw [m2_ne (by omega), s78 _ (by omega) (by omega), m2_ne (by omega), x6.2.2 1 (by decide), m2_ne (by omega), s5 _ (by omega) (by omega), x4.2.2 1 (by decide), m2_ne (by omega), s3 _ (by omega) (by omega)]
      rw [hxw en] at hm'
      obtain ⟨j1, j2, j3, j4, j5, j6⟩ := k1'
      have i1 := CNm_put j1 (k := 1) (by decide) (by decide) (nmL T n (nxS T n s))
      have i2 := CMn_mNm (x := pk5 (nmL T n (nxS T n s))) (k := 1) (by decide) j2
      have i3 := CGt_mNm (x := pk5 (nmL T n (nxS T n s))) (k := 1) (by decide) (by decide) j3
      have i4 := CPp_mNm (x := pk5 (nmL T n (nxS T n s))) (k := 1) (by decide) j4
      have i6 : mNm b 1 (pk5 (nmL T n (nxS T n s))) μ1' (tw (!b)) 1 = H := by rw [mNm_ne (by omega) (by omega)]; exact j6
      rw [← hm'] at i1 i2 i3 i4 i6
      show Cl b (m2 μ8 (tw (!b) + 7) ((N 1).length : Int) v8) _
      refine ⟨fun k hk k2 => ?_, fun i hi => ?_, CGt_sm (by rw [oth 1 (by decide) (by decide) (by decide) (by decide) (by decide) (by decide) (by decide)]) (fun a ha => oth a (by omega) (by omega) (by omega) (by omega) (by omega) (by omega) (by omega)) i3, CPp_sm (fun a ha => oth a (by omega) (by omega) (by omega) (by omega) (by omega) (by omega) (by omega)) i4, cF, by rw [hh1]; exact i6⟩
      · have := i1 k hk k2
        rw [oth 1 (by decide) (by decide) (by decide) (by decide) (by decide) (by decide) (by decide), show tw (!b) + 3 + k = tw (!b) + (3 + k) by omega, oth (3 + k) (by omega) (by omega) (by omega) (by omega) (by omega) (by omega) (by omega), show tw (!b) + (3 + k) = tw (!b) + 3 + k by omega]; exact this
      · have hi' := hi
        rw [List.length_append, List.length_singleton] at hi'
        rw [c16, c17, c18, c7, getD_sn hi]
        by_cases q : i = ML.length
        · rw [if_pos q, if_pos (by omega), if_pos (by omega), if_pos (by omega), if_pos (by omega)]
          exact ⟨rfl, rfl, rfl, z8⟩
        · rw [if_neg q, if_neg (by omega), if_neg (by omega), if_neg (by omega), if_neg (by omega)]
          exact i2 i (by omega)
    · obtain ⟨d, rfl⟩ : ∃ d, D = d + 1 := ⟨D - 1, by omega⟩
      have hk0 : ν 120 1 = ((N 1).length : Int) := (hr.1 1 (by decide) (by decide)).1
      obtain ⟨o1, o2, o3, o4, o5, o6, o7⟩ := id hr
      have a24 : (0 : Int) ≤ ((N 1).length : Int) ∧ ((N 1).length : Int) < 24 := by omega
      have a12 : (0 : Int) ≤ ((N 1).length : Int) ∧ ((N 1).length : Int) < 12 := by omega
      have a72 : (0 : Int) ≤ 12 + ((N 1).length : Int) ∧ 12 + ((N 1).length : Int) < 72 := by omega
      have t36 : 12 + ((N 1).length : Int) < 36 := by omega
      have w12 : ∀ _ : True, w32 (12 + ((N 1).length : Int)) = 12 + ((N 1).length : Int) := fun _ => w32_id (by omega) (by omega)
      have wS : ∀ _ : True, w32 (((N 1).length : Int) + 1) = ((N 1).length : Int) + 1 := fun _ => w32_id (by omega) (by omega)
      have eqP : ∀ i : Nat, i = ML.length → (i : Int) = ((N 1).length : Int) := fun i q => by omega
      have neP : ∀ i : Nat, ¬ i = ML.length → ¬ (i : Int) = ((N 1).length : Int) := fun i q => by omega
      have ltM : ∀ i : Nat, i < ML.length + 1 → ¬ i = ML.length → i < ML.length := fun i q w => by omega
      have ltM2 : ∀ i : Nat, i < ML.length + 1 → ¬ (i : Int) = ((N 1).length : Int) → i < ML.length := fun i q w => by omega
      have gM : ∀ y ∈ GL, ¬ y.2.2 = ((N 1).length : Int) := fun y hy => by have := (h6 y hy).2.2.2; omega
      have cc0 : (0 : Int) ≤ (C.length : Int) := by omega
      have cc1 : ∀ s3 : Int, (C.length : Int) + 4 ≤ s3 → (C.length : Int) + 4 ≤ s3 := fun _ q => q
      refine cal_ev (fun r => call_X10_manTold d bx ν s) (ev_row (fun m => tX10_manTold_0 _ m bx ν s) (ev_call (rf_more bx ν h 1 12 s (by decide) (by decide) (by omega) d (by omega)) (ev_pos rfl ?_)))
      have hK : ((0 : Int), SH, ν, RHO bx).2.2.1 120 1 = ((N 1).length : Int) := hk0
      rw [hK]
      refine ev_callP (rs_new hT bx ν h hr.1 hN hn d (by omega)) (fun vn ν2 ⟨f2', h2', hxw⟩ => ?_)
      have f2 : Fg [] lxJ ν ν2 := f2'
      refine ev_callP (rs_word hT (j := 2) (by decide) bx ν2 h2' d (by omega)) (fun _ ν3 ⟨f3', h3'⟩ => ev_if (by omega) ?_)
      have f3 : Fg [] lxJ ν ν3 := fg_tr f2 f3' (by decide) (by decide)
      have e41 : ν3 96 41 = (C.length : Int) := by rw [f3.2 41 (by decide)]; exact o6.1
      have hA0 : RS T n (m2 ν3 128 ((N 1).length : Int) (ν3 96 41)) (wdS T n 2 (nwT T n (nxS T n s) (nxG T n s g) rn)) := RS_fg (L := [128]) (J := []) h3' (fg_m2 fg_rfl (by decide) (by decide)) (by decide) (by decide)
      have hA : RS T n (clR (m2 ν3 128 ((N 1).length : Int) (ν3 96 41))) (wdS T n 2 (nwT T n (nxS T n s) (nxG T n s g) rn)) := RS_fg hA0 (clR_fg _) (by simp) (by decide)
      have fA := clR_fg (m2 ν3 128 ((N 1).length : Int) (ν3 96 41))
      have aA := clR_at (m2 ν3 128 ((N 1).length : Int) (ν3 96 41))
      have eA41 : clR (m2 ν3 128 ((N 1).length : Int) (ν3 96 41)) 96 41 = (C.length : Int) := by rw [fA.2 41 (by decide), m2_ne (by decide)]; exact e41
      have gA : Rfr stJ ν (clR (m2 ν3 128 ((N 1).length : Int) (ν3 96 41))) := rfr_fg (rfr_m2 (rfr_lex f3) (by decide) (Or.inr (Or.inr (by show _ < (12 : Int); omega)))) fA (by decide)
      refine ev_call (sX10_clears bx _ d (by omega)) ?_
      /- from the bribe on -/
      have tail : ∀ ν4, ChR T n (clR (m2 ν3 128 ((N 1).length : Int) (ν3 96 41))) ν4 r4 → Ev (fun m => mRun (mCallN d) kX10_manTold m 57 [some (mP 96), some (mI s), some (mI ((N 1).length : Int)), some (mJ vn), none, none] [] (SH, ν4, RHO bx)) bx (fun _ ν' => RSS T n ν ν' (enR (updN N 1 (nmL T n (nxS T n s)), ML ++ [((C.length : Int), (C.length : Int) + ((lsC r4).length : Int), (C.length : Int) + ((lsC r4).length : Int) + ((lsC r6).length : Int), vOf r8)], GL, PL, C ++ lsC r4 ++ lsC r6, H) (stO r8))) := fun ν4 ⟨x4, y4, h4', a4⟩ => by
        have frx : ∀ {α β : Nat → Int → Int}, Rfr stJ ν α → Fg [126, 127] rfJ α β → (∀ x, 1600 ≤ x → β 126 x = α 126 x) → Rfr stJ ν β := fun {α β} hh ff h6 => ⟨fg_tr hh.1 ff (by decide) (by decide), fun a ha h3 h7 x hx => by
          by_cases q : a = 126
          · subst q; rw [h6 x hx]; exact hh.2 126 ha h3 h7 x hx
          · rw [ff.1 a (by simp only [List.mem_cons, List.not_mem_nil, or_false]; omega) (fun w => by rw [w] at ha; exact absurd ha (by decide))]; exact hh.2 a ha h3 h7 x hx⟩
        have g4 := frx gA x4 y4
        refine ev_row (fun m => tX10_manTold_57 _ m bx ν4 _ _ _) (ev_if (by omega) ?_)
        have hB : RS T n (m2 ν4 129 ((N 1).length : Int) (ν4 96 41)) (stR r4) := RS_fg (L := [129]) (J := []) h4' (fg_m2 fg_rfl (by decide) (by decide)) (by decide) (by decide)
        have gB := rfr_m2 (a := 129) (i := ((N 1).length : Int)) (v := ν4 96 41) g4 (by decide) (Or.inr (Or.inr (by show _ < (12 : Int); omega)))
        refine ev_callP (rs_word hT (j := 3) (by decide) bx _ hB d (by omega)) (fun _ ν5 ⟨f5', h5'⟩ => ?_)
        have f5 : Fg [] lxJ (m2 ν4 129 ((N 1).length : Int) (ν4 96 41)) ν5 := f5'
        have h5c : RS T n (clR ν5) (wdS T n 3 (stR r4)) := RS_fg h5' (clR_fg _) (by simp) (by decide)
        have f5c := clR_fg ν5
        have a5 := clR_at ν5
        have g5 := rfr_fg (rfr_fg gB f5 (by decide)) f5c (by decide)
        have e5 : clR ν5 96 41 = ν4 96 41 := by rw [f5c.2 41 (by decide), f5.2 41 (by decide), m2_ne (by decide)]
        have e4 : (∃ s4 g4, r4 = .inr (lsC r4, s4, g4)) → ν4 96 41 = (C.length : Int) + ((lsC r4).length : Int) := fun ⟨s4, g4, q⟩ => by rw [(a4 _ _ _ q).1, eA41]
        refine ev_call (sX10_clears bx _ d (by omega)) ?_
        refine ev_callP (rs_sum hT (clR ν5) q6 h5c a5.1 a5.2.1 a5.2.2 (fun s5 g5 q => by
          obtain ⟨w1, w2, w3, -⟩ := at5 s5 g5 q
          rw [e5, e4 w3]; omega) d (by omega)) (fun _ ν6 hch => ev_if (by omega) ?_)
        have ch6 : ChR T n (clR ν5) ν6 r6 := hch
        obtain ⟨x6, y6, h6', a6⟩ := ch6
        have g6 := frx g5 x6 y6
        have hC : RS T n (m2 ν6 130 ((N 1).length : Int) (ν6 96 41)) (stR r6) := RS_fg (L := [130]) (J := []) h6' (fg_m2 fg_rfl (by decide) (by decide)) (by decide) (by decide)
        have gC := rfr_m2 (a := 130) (i := ((N 1).length : Int)) (v := ν6 96 41) g6 (by decide) (Or.inr (Or.inr (by show _ < (12 : Int); omega)))
        refine ev_callP (rs_word hT (j := 4) (by decide) bx _ hC d (by omega)) (fun _ ν7 ⟨f7', h7'⟩ => ?_)
        have f7 : Fg [] lxJ (m2 ν6 130 ((N 1).length : Int) (ν6 96 41)) ν7 := f7'
        refine ev_callP (rs_num hT 1 20 bx ν7 h7' q8 d (by omega)) (fun v8 ν8 ⟨f8', w8, h8'⟩ => ?_)
        have f8 : Fg [] lxJ (m2 ν6 130 ((N 1).length : Int) (ν6 96 41)) ν8 := fg_tr f7 f8' (by decide) (by decide)
        have g8 := rfr_fg gC f8 (by decide)
        have h8c : RS T n ν8 (stO r8) := h8'
        rcases hq : stO r8 with e | ⟨s', g'⟩
        · rw [hq] at h8c
          have h8b : RBd ν8 e := h8c
          exact ev_neg (by show ¬ ν8 96 5 = 0; rw [h8b.1]; exact h8b.2.1) (ev_ret ⟨g8, h8b⟩)
        · rw [hq] at h8c
          have h8b : RSv T n ν8 s' g' := h8c
          obtain ⟨en, -, y4', y6', y8, -⟩ := back s' g' hq
          have z2 := hxw en
          have z8 := val w8 y8
          have ee4 := e4 y4'
          obtain ⟨s4, g4', q4'⟩ := y4'
          obtain ⟨s6, g6', q6'⟩ := y6'
          obtain ⟨u1, u2, u3⟩ := a4 _ _ _ q4'
          obtain ⟨p1, p2, p3⟩ := a6 _ _ _ q6'
          have ee6 : ν6 96 41 = (C.length : Int) + ((lsC r4).length : Int) + ((lsC r6).length : Int) := by rw [p1, e5, ee4]
          /- the draft's cells -/
          have ce : ∀ a, a ≠ 96 → a ≠ 126 → a ≠ 127 → a ≠ 128 → a ≠ 129 → a ≠ 130 → ν8 a = ν a := fun a n96 n126 n127 n128 n129 n130 => by
            rw [f8.1 a (by simp) n96, m2_ne n130, x6.1 a (by simp only [List.mem_cons, List.not_mem_nil, or_false]; omega) n96, f5c.1 a (by simp) n96, f5.1 a (by simp) n96, m2_ne n129, x4.1 a (by simp only [List.mem_cons, List.not_mem_nil, or_false]; omega) n96, fA.1 a (by simp) n96, m2_ne n128, f3.1 a (by simp) n96]
          have c128 : ∀ j, ν8 128 j = if j = ((N 1).length : Int) then (C.length : Int) else ν 128 j := fun j => by
            rw [f8.1 128 (by simp) (by decide), m2_ne (by decide), x6.1 128 (by decide) (by decide), f5c.1 128 (by simp) (by decide), f5.1 128 (by simp) (by decide), m2_ne (by decide), x4.1 128 (by decide) (by decide), fA.1 128 (by simp) (by decide), m2_at, e41, f3.1 128 (by simp) (by decide)]
          have c129 : ∀ j, ν8 129 j = if j = ((N 1).length : Int) then (C.length : Int) + ((lsC r4).length : Int) else ν 129 j := fun j => by
            rw [f8.1 129 (by simp) (by decide), m2_ne (by decide), x6.1 129 (by decide) (by decide), f5c.1 129 (by simp) (by decide), f5.1 129 (by simp) (by decide), m2_at, ee4, x4.1 129 (by decide) (by decide), fA.1 129 (by simp) (by decide), m2_ne (by decide), f3.1 129 (by simp) (by decide)]
          have c130 : ∀ j, ν8 130 j = if j = ((N 1).length : Int) then (C.length : Int) + ((lsC r4).length : Int) + ((lsC r6).length : Int) else ν 130 j := fun j => by
            rw [f8.1 130 (by simp) (by decide), m2_at, ee6, x6.1 130 (by decide) (by decide), f5c.1 130 (by simp) (by decide), f5.1 130 (by simp) (by decide), m2_ne (by decide), x4.1 130 (by decide) (by decide), fA.1 130 (by simp) (by decide), m2_ne (by decide), f3.1 130 (by simp) (by decide)]
          have rcA : RCd (clR (m2 ν3 128 ((N 1).length : Int) (ν3 96 41))) C := RCd_sm (by rw [eA41]; exact o6.1.symm) (by rw [fA.1 126 (by simp) (by decide), m2_ne (by decide), f3.1 126 (by simp) (by decide)]) o6
          have rc4 := RCd_app rcA u1 u2 u3
          have rc5 : RCd (clR ν5) (C ++ lsC r4) := RCd_sm e5 (by rw [f5c.1 126 (by simp) (by decide), f5.1 126 (by simp) (by decide), m2_ne (by decide)]) rc4
          have rc6 := RCd_app rc5 p1 p2 p3
          have rc8 : RCd ν8 (C ++ lsC r4 ++ lsC r6) := RCd_sm (by rw [f8.2 41 (by decide), m2_ne (by decide)]) (by rw [f8.1 126 (by simp) (by decide), m2_ne (by decide)]) rc6
          have e38 : ν8 96 38 = H := by rw [f8.2 38 (by decide), m2_ne (by decide), x6.2 38 (by decide), f5c.2 38 (by decide), f5.2 38 (by decide), m2_ne (by decide), x4.2 38 (by decide), fA.2 38 (by decide), m2_ne (by decide), f3.2 38 (by decide)]; exact o7
          have e120 : ν8 120 1 = ((N 1).length : Int) := by rw [ce 120 (by decide) (by decide) (by decide) (by decide) (by decide) (by decide)]; exact hk0
          refine ev_pos h8b.1 (ev_if (by rw [w12 trivial]; exact a72) (ev_if a24 (ev_if ⟨a12.1, a12.2, Or.inl rfl⟩ (ev_ret ?_))))
          show RSS T n ν (m2 (m2 (m2 (m2 ν8 121 (w32 (12 + ((N 1).length : Int))) vn) 122 ((N 1).length : Int) v8) 123 ((N 1).length : Int) 0) 120 1 (w32 (m2 (m2 (m2 ν8 121 (w32 (12 + ((N 1).length : Int))) vn) 122 ((N 1).length : Int) v8) 123 ((N 1).length : Int) 0 120 1 + 1))) _
          rw [w12 trivial]
          have hval : w32 (m2 (m2 (m2 ν8 121 (12 + ((N 1).length : Int)) vn) 122 ((N 1).length : Int) v8) 123 ((N 1).length : Int) 0 120 1 + 1) = ((N 1).length : Int) + 1 := by
            rw [m2_ne (by decide), m2_ne (by decide), m2_ne (by decide), e120]; exact wS trivial
          rw [hval]
          have ne : ∀ x, x ≠ 120 → x ≠ 121 → x ≠ 122 → x ≠ 123 → m2 (m2 (m2 (m2 ν8 121 (12 + ((N 1).length : Int)) vn) 122 ((N 1).length : Int) v8) 123 ((N 1).length : Int) 0) 120 1 (((N 1).length : Int) + 1) x = ν8 x := fun x x1 x2 x3 x4 => by rw [m2_ne x1, m2_ne x4, m2_ne x3, m2_ne x2]
          refine ⟨rfr_m2 (rfr_m2 (rfr_m2 (rfr_m2 g8 (by decide) (Or.inr (Or.inr t36))) (by decide) (Or.inr (Or.inr a12.2))) (by decide) (Or.inl rfl)) (by decide) (Or.inr (Or.inr (by decide))), RSv_m2 (RSv_m2 (RSv_m2 (RSv_m2 h8b (by decide)) (by decide)) (by decide)) (by decide), RNm_put o1 (k := 1) (by decide) (by decide) (by omega) hN _ (fun j => ?_) (fun j hj => ?_), fun i hi => ?_, fun i hi => ?_, RGt_sm (ν := ν) (by rw [m2_at, if_neg (by decide), m2_ne (by decide), m2_ne (by decide), m2_ne (by decide), ce 120 (by decide) (by decide) (by decide) (by decide) (by decide) (by decide)]) (by rw [ne 124 (by decide) (by decide) (by decide) (by decide), ce 124 (by decide) (by decide) (by decide) (by decide) (by decide) (by decide)]) o4, RPp_sm (ν := ν) (by rw [ne 125 (by decide) (by decide) (by decide) (by decide), ce 125 (by decide) (by decide) (by decide) (by decide) (by decide) (by decide)]) o5, RCd_sm (by rw [ne 96 (by decide) (by decide) (by decide) (by decide)]) (ne 126 (by decide) (by decide) (by decide) (by decide)) rc8, by rw [ne 96 (by decide) (by decide) (by decide) (by decide)]; exact e38⟩
          · rw [m2_at, m2_ne (by decide), m2_ne (by decide), m2_ne (by decide), ce 120 (by decide) (by decide) (by decide) (by decide) (by decide) (by decide)]; rfl
          · rw [m2_ne (by decide), m2_ne (by decide), m2_ne (by decide), m2_at, show rk 1 = 1 from rfl, show vn = pk27 0 (nmL T n (nxS T n s)) from z2, ce 121 (by decide) (by decide) (by decide) (by decide) (by decide) (by decide)]
            rfl
          · have hi' := hi
            rw [List.length_append, List.length_singleton] at hi'
            rw [ne 128 (by decide) (by decide) (by decide) (by decide), ne 129 (by decide) (by decide) (by decide) (by decide), ne 130 (by decide) (by decide) (by decide) (by decide), c128, c129, c130, m2_ne (by decide), m2_ne (by decide), m2_at, m2_ne (by decide), ce 122 (by decide) (by decide) (by decide) (by decide) (by decide) (by decide), getD_sn hi]
            by_cases q : i = ML.length
            · rw [if_pos q, if_pos (eqP i q), if_pos (eqP i q), if_pos (eqP i q), if_pos (eqP i q)]
              exact ⟨rfl, rfl, rfl, z8⟩
            · rw [if_neg q, if_neg (neP i q), if_neg (neP i q), if_neg (neP i q), if_neg (neP i q)]
              exact o2 i (ltM i hi' q)
          · rw [List.length_append, List.length_singleton] at hi
            rw [m2_ne (by decide), m2_at, m2_ne (by decide), m2_ne (by decide), ce 123 (by decide) (by decide) (by decide) (by decide) (by decide) (by decide)]
            by_cases q : (i : Int) = ((N 1).length : Int)
            · rw [if_pos q, t01_neg (fun w => ?_)]
              obtain ⟨y, hy, hy2⟩ := List.mem_map.1 w
              have hy3 : y.2.2 = (i : Int) := hy2
              exact gM y hy (by rw [hy3]; exact q)
            · rw [if_neg q]; exact o3 i (ltM2 i hi q)
      rcases hq3 : wdS T n 2 (nwT T n (nxS T n s) (nxG T n s g) rn) with e | ⟨s3, g3⟩
      · rw [hq3] at hA
        have hAb : RBd (clR (m2 ν3 128 ((N 1).length : Int) (ν3 96 41))) e := hA
        refine ev_neg (by show ¬ clR (m2 ν3 128 ((N 1).length : Int) (ν3 96 41)) 96 5 = 0; rw [hAb.1]; exact hAb.2.1) (tail _ ⟨fg_rfl, fun _ _ => rfl, ?_, fun L s g q => ?_⟩)
        · have : r4 = .inl e := by rw [hq3] at q4; exact q4
          rw [this]; exact hAb
        · have : r4 = .inl e := by rw [hq3] at q4; exact q4
          rw [this] at q; cases q
      · rw [hq3] at hA
        have hAb : RSv T n (clR (m2 ν3 128 ((N 1).length : Int) (ν3 96 41))) s3 g3 := hA
        have w := (at3 s3 g3 hq3).1
        exact ev_pos hAb.1 (ev_callP (rs_test hT _ (by rw [← hq3]; exact q4) hAb aA.1 aA.2.1 aA.2.2 (by rw [eA41]; omega) (by rw [eA41]; omega) d (by omega)) (fun _ ν4 hch => tail ν4 hch))
    · rcases hq : stO r8 with e | ⟨s', g'⟩
      · exact trivial
      · obtain ⟨en, on, -, -, -, a8, av, al, ac, at', as'⟩ := back s' g' hq
        have e0 : updN N 1 (nmL T n (nxS T n s)) 0 = N 0 := updN_ne (by decide)
        have e3 : updN N 1 (nmL T n (nxS T n s)) 3 = N 3 := updN_ne (by decide)
        have e1 : (updN N 1 (nmL T n (nxS T n s)) 1).length = (N 1).length + 1 := by rw [updN_at, List.length_append, List.length_singleton]
        refine ⟨av, al, ⟨NOk_put hN (nmL_ok hT hx.1 on) (by omega), ⟨by rw [e0]; exact l0, by omega, by rw [e3]; exact l3⟩, ⟨by rw [e1, List.length_append, List.length_singleton]; omega, by rw [e3]; exact m2', m3⟩, h4, fun x hx => ?_, fun x hx => ?_, h7, by rw [e0]; exact h8⟩, by show ((C ++ lsC r4 ++ lsC r6).length : Int) ≤ _; rw [List.length_append, List.length_append]; omega⟩
        · rcases List.mem_append.1 hx with hx | hx
          · rw [List.append_assoc]; exact mOk_app (h5 x hx)
          · rw [List.mem_singleton.1 hx]
            exact ⟨a8, C, lsC r4, lsC r6, [], by rw [List.append_nil], rfl, rfl, rfl, at', as'⟩
        · obtain ⟨u1, u2, u3, u4⟩ := h6 x hx
          rw [e0, e1]; exact ⟨u1, u2, u3, by omega⟩
  · refine ⟨.inl (5, s), fun D hd μ h hc => ?_, fun D hd ν h hr => ?_, trivial⟩
    · obtain ⟨d, rfl⟩ : ∃ d, D = d + 1 := ⟨D - 1, by omega⟩
      have hk0 := (hc.1 1 (by decide) (by decide)).1
      refine cal_ev (fun r => call_X4_readMan d b μ) (ev_row (fun m => tX4_readMan_0 _ m b μ) (ev_callP (cl_full hT (k := 1) (by decide) b μ h (by rw [hk0]; show ¬ _ < (12 : Int); omega) d (by omega)) (fun v μ1 ⟨hv1, f1, h1⟩ => ev_pos hv1 (ev_ret ⟨dfr_fj f1, h1⟩))))
    · obtain ⟨d, rfl⟩ : ∃ d, D = d + 1 := ⟨D - 1, by omega⟩
      have hk0 : ν 120 1 = ((N 1).length : Int) := (hr.1 1 (by decide) (by decide)).1
      refine cal_ev (fun r => call_X10_manTold d bx ν s) (ev_row (fun m => tX10_manTold_0 _ m bx ν s) (ev_callP (rf_full bx ν h 1 12 s (by decide) (by decide) (by omega) d (by omega)) (fun v ν1 ⟨hv1, f1, h1⟩ => ev_neg (by show ¬ v = 0; omega) (ev_ret ⟨rfr_fg rfr_rfl f1 (by decide), h1⟩))))
end
