/-! ===== town: people, both alike ===== -/
def nwT (T : Int → Int) (n s : Int) (g : Bool) : Sum (Int × Int) Unit → St
  | .inl e => .inl e
  | .inr _ => .inr (nxS T n s, nxG T n s g)
theorem cs_new {T : Int → Int} {n s : Int} {g : Bool} (hT : Tp T n) {k : Nat} (hk : k < 4) (k2 : k ≠ 2) (b : Bool) (μ : Nat → Int → Int) (h : CLv T n μ s g) {N : Nat → List (List Int)} (hc : CNm b μ N) (hN : NOk N) (hl : (N k).length < 12) {r : Sum (Int × Int) Unit} (hr : nwR T n s g N r) : ∀ d, 4 ≤ d → Cal d 178 [mP 1, mI (k : Int)] b μ (fun v μ' => v = ((N k).length : Int) ∧ ∃ x μ1, Fj rdJ μ μ1 ∧ μ' = mNm b k x μ1 ∧ CS T n μ' (nwT T n s g r) ∧ (r = .inr () → x = pk5 (nmL T n s))) := fun d hd => cal_mono (cl_new hT hk k2 b μ h hc hN hl hr d hd) (fun v μ' ⟨hv, hh⟩ => ⟨hv, by
  rcases r with e | u
  · obtain ⟨x, μ1, f, hm, h1⟩ := hh
    exact ⟨x, μ1, f, hm, h1, fun q => by cases q⟩
  · obtain ⟨μ1, f, hm, h1⟩ := hh
    exact ⟨_, μ1, f, hm, h1, fun _ => rfl⟩⟩)
theorem rs_new {T : Int → Int} {n s : Int} {g : Bool} (hT : Tp T n) (b : Bool) (ν : Nat → Int → Int) (h : RSv T n ν s g) {N : Nat → List (List Int)} (hc : RNm ν N) (hN : NOk N) {r : Sum (Int × Int) Unit} (hr : nwR T n s g N r) : ∀ d, 5 ≤ d → Cal d 89 [mP 96] b ν (fun v ν' => Fg [] lxJ ν ν' ∧ RS T n ν' (nwT T n s g r) ∧ (r = .inr () → v = pk27 0 (nmL T n s))) := fun d hd => cal_mono (rf_new hT b ν h hc hN hr d hd) (fun v ν' ⟨f, hh⟩ => ⟨f, by
  rcases r with e | u
  · exact ⟨hh, fun q => by cases q⟩
  · exact ⟨hh.2, fun _ => hh.1⟩⟩)
theorem nwT_lv {T : Int → Int} {n s : Int} {g : Bool} (hT : Tp T n) {N : Nat → List (List Int)} {r : Sum (Int × Int) Unit} (hr : nwR T n s g N r) {s' : Int} {g' : Bool} (h : nwT T n s g r = .inr (s', g')) : r = .inr () ∧ nmO T n s g ∧ (VC T n s → VC T n s' ∧ s < s') := by
  rcases r with e | u
  · cases h
  · cases h
    refine ⟨rfl, hr.1, fun hv => ?_⟩
    have hx := nx_in hT hv
    exact ⟨hx.1, hx.2.2.1 (tkK1 hT hv hr.1.1.1).1⟩
/-- what a statement comes to: a fault, or the data -/
def enR (D : DT) : St → SR
  | .inl e => .inl e
  | .inr (s, g) => .inr (D, s, g)
theorem css_en {b : Bool} {T : Int → Int} {n : Int} {μ0 μ : Nat → Int → Int} {D : DT} {st : St} (hf : Dfr b μ0 μ) (h : CS T n μ st) (hD : ∀ s g, st = .inr (s, g) → Cl b μ D) : CSS b T n μ0 μ (enR D st) := by
  rcases st with e | ⟨s, g⟩
  · exact ⟨hf, h⟩
  · exact ⟨hf, h, hD s g rfl⟩
section
variable {b : Bool} {T : Int → Int} {n : Int} {N : Nat → List (List Int)} {ML : List (Int × Int × Int × Int)} {GL : List (Int × Int × Int)} {PL : List (Int × Int × Int × Int)} {C : List Int} {H : Int}
theorem getD_memP {α : Type} {L : List α} {i : Nat} {z : α} (h : i < L.length) : L.getD i z ∈ L := by
  rw [List.getD_eq_getElem?_getD, List.getElem?_eq_getElem h]; exact List.getElem_mem h
theorem J_person (b bx : Bool) (hT : Tp T n) (hD : DOk (N, ML, GL, PL, C, H)) {s : Int} {g : Bool} (hv : VC T n s) (hs : (C.length : Int) ≤ s) (hw : tkW T n s g = 7) : ∃ r, JS b bx T n 172 104 (N, ML, GL, PL, C, H) s g r := by
  have hlt : s < n := (tkW_pos (g := g) hT hv (by omega)).2.1
  have hx := nx_in hT hv
  have hss := hx.2.2.1 hlt
  obtain ⟨hN, ⟨l0, l1, l3⟩, ⟨m1, m2', m3⟩, h4, h5, h6, h7, h8⟩ := id hD
  by_cases hf : (N 3).length < 6
  · obtain ⟨rn, hn⟩ := nwR_ex T n (nxS T n s) (nxG T n s g) N
    obtain ⟨r4, q4⟩ := olS_ex T n (N 0) (wdS T n 8 (nwT T n (nxS T n s) (nxG T n s g) rn))
    obtain ⟨r6, q6⟩ := olS_ex T n (N 0) (wdS T n 9 (stO r4))
    obtain ⟨r8, q8⟩ := nuS_ex T n 0 999 (wdS T n 10 (stO r6))
    obtain ⟨r10, q10⟩ := nuS_ex T n 0 99 (wdS T n 11 (stO r8))
    /- back from the end -/
    have back : ∀ s' g', stO r10 = .inr (s', g') → rn = .inr () ∧ nmO T n (nxS T n s) (nxG T n s g) ∧ lvV r4 ∧ lvV r6 ∧ lvV r8 ∧ lvV r10 ∧ (0 ≤ vOf r4 ∧ vOf r4 < ((N 0).length : Int)) ∧ (0 ≤ vOf r6 ∧ vOf r6 < ((N 0).length : Int)) ∧ (0 ≤ vOf r8 ∧ vOf r8 ≤ 999) ∧ (0 ≤ vOf r10 ∧ vOf r10 ≤ 99) ∧ VC T n s' ∧ s < s' := fun s' g' q => by
      have e10 := stO_lv q
      rw [e10] at q10
      obtain ⟨s9, g9, e9, b10, c10⟩ := nuS_lv hT q10
      obtain ⟨s8, g8, e8, c9⟩ := wdS_lv hT (by decide) e9
      have e8' := stO_lv e8
      rw [e8'] at q8
      obtain ⟨s7, g7, e7, b8, c8⟩ := nuS_lv hT q8
      obtain ⟨s6, g6, e6, c7⟩ := wdS_lv hT (by decide) e7
      have e6' := stO_lv e6
      rw [e6'] at q6
      obtain ⟨s5, g5, e5, b6, c6⟩ := olS_lv hT q6
      obtain ⟨s4, g4, e4, c5⟩ := wdS_lv hT (by decide) e5
      have e4' := stO_lv e4
      rw [e4'] at q4
      obtain ⟨s3, g3, e3, b4, c4⟩ := olS_lv hT q4
      obtain ⟨s2, g2, e2, c3⟩ := wdS_lv hT (by decide) e3
      obtain ⟨en, on, c2⟩ := nwT_lv hT hn e2
      have d2 := c2 hx.1
      have d3 := c3 d2.1
      have d4 := c4 d3.1
      have d5 := c5 d4.1
      have d6 := c6 d5.1
      have d7 := c7 d6.1
      have d8 := c8 d7.1
      have d9 := c9 d8.1
      have d10 := c10 d9.1
      exact ⟨en, on, ⟨_, _, _, e4'⟩, ⟨_, _, _, e6'⟩, ⟨_, _, _, e8'⟩, ⟨_, _, _, e10⟩, b4, b6, b8, b10, d10.1, by omega⟩
    have val : ∀ {v : Int} {r : VR}, vlC v r → lvV r → v = vOf r := fun {v r} h ⟨x, s, g, e⟩ => by rw [e] at h ⊢; exact h
    refine ⟨enR (updN N 3 (nmL T n (nxS T n s)), ML, GL, PL ++ [(vOf r4, vOf r6, vOf r8, vOf r10)], C, H) (stO r10), fun D hd μ h hc => ?_, fun D hd ν h hr => ?_, ?_⟩
    · obtain ⟨d, rfl⟩ : ∃ d, D = d + 1 := ⟨D - 1, by omega⟩
      have t1 := tw_or (!b)
      have hk0 := (hc.1 3 (by decide) (by decide)).1
      refine cal_ev (fun r => call_X4_readPerson d b μ) (ev_row (fun m => tX4_readPerson_0 _ m b μ) (ev_callP (cl_more hT (k := 3) (by decide) b μ h (by rw [hk0]; show _ < (6 : Int); omega) d (by omega)) (fun v μ1 ⟨hv1, f1', h1'⟩ => ev_neg (by show ¬ v = 0; omega) ?_)))
      have f1 : Fj rdJ μ μ1 := f1'
      have h1 : CLv T n μ1 (nxS T n s) (nxG T n s g) := h1'
      have k1 := Cl_sm (dsm_fj (b := b) f1) hc
      refine ev_callP (cs_new hT (k := 3) (by decide) (by decide) b μ1 h1 k1.1 hN (by omega) hn d (by omega)) (fun p μ2 ⟨hp', x, μ1', f2, hm, h2', hxw⟩ => ?_)
      have hp : p = ((N 3).length : Int) := hp'
      subst hp
      have hm' : μ2 = mNm b 3 x μ1' := hm
      have h2 : CS T n μ2 (nwT T n (nxS T n s) (nxG T n s g) rn) := h2'
      have k1' := Cl_sm (dsm_fj (b := b) f2) k1
      have g2 : Dfr b μ μ2 := by rw [hm']; exact dfr_mNm (by decide) (dfr_tr (dfr_fj f1) (dfr_fj f2))
      have hpi : (0 : Int) ≤ ((N 3).length : Int) ∧ ((N 3).length : Int) < 6 := by omega
      have n0 : CNk b μ2 0 (N 0) := by
        rw [hm']
        exact CNk_sm (by unfold mNm; rw [m2_at, if_neg (by decide), m2_ne (by omega)]) (mNm_ne (by omega) (by omega)) (k1'.1 0 (by decide) (by decide))
      have nl0 : NmL (N 0) := hN 0 (by decide) (by decide)
      have nk : ∀ {α β : Nat → Int → Int}, Fj rdJ α β → CNk b α 0 (N 0) → CNk b β 0 (N 0) := fun {α β} f hh => CNk_sm (by rw [dsm_fj (b := b) f _ (by omega) (by omega)]) (dsm_fj (b := b) f _ (by omega) (by omega)) hh
      have nm : ∀ {α : Nat → Int → Int} {a : Nat} {i v : Int}, 7 ≤ a → CNk b α 0 (N 0) → CNk b (m2 α (tw (!b) + a) i v) 0 (N 0) := fun {α a i v} ha hh => CNk_sm (by rw [m2_ne (by omega)]) (m2_ne (by omega)) hh
      refine ev_callP (cs_word hT 8 (by decide) b μ2 h2 d (by omega)) (fun _ μ3 ⟨f3', h3'⟩ => ?_)
      have f3 : Fj rdJ μ2 μ3 := f3'
      refine ev_callP (cs_old hT (k := 0) (by decide) b μ3 h3' (nk f3 n0) nl0 q4 d (by omega)) (fun v4 μ4 ⟨f4', w4, h4'⟩ => ev_if hpi ?_)
      have f4 : Fj rdJ μ3 μ4 := f4'
      have h4c : CS T n (m2 μ4 (tw (!b) + 11) ((N 3).length : Int) v4) (stO r4) := CS_tw (b := b) h4' (by omega)
      refine ev_callP (cs_word hT 9 (by decide) b _ h4c d (by omega)) (fun _ μ5 ⟨f5', h5'⟩ => ?_)
      have f5 : Fj rdJ (m2 μ4 (tw (!b) + 11) ((N 3).length : Int) v4) μ5 := f5'
      refine ev_callP (cs_old hT (k := 0) (by decide) b μ5 h5' (nk f5 (nm (by decide) (nk f4 (nk f3 n0)))) nl0 q6 d (by omega)) (fun v6 μ6 ⟨f6', w6, h6'⟩ => ev_if hpi ?_)
      have f6 : Fj rdJ μ5 μ6 := f6'
      have h6c : CS T n (m2 μ6 (tw (!b) + 12) ((N 3).length : Int) v6) (stO r6) := CS_tw (b := b) h6' (by omega)
      refine ev_callP (cs_word hT 10 (by decide) b _ h6c d (by omega)) (fun _ μ7 ⟨f7', h7'⟩ => ?_)
      have f7 : Fj rdJ (m2 μ6 (tw (!b) + 12) ((N 3).length : Int) v6) μ7 := f7'
      refine ev_callP (cs_num hT 0 999 b μ7 h7' q8 d (by omega)) (fun v8 μ8 ⟨f8', w8, h8'⟩ => ev_if hpi ?_)
      have f8 : Fj rdJ μ7 μ8 := f8'
      have h8c : CS T n (m2 μ8 (tw (!b) + 13) ((N 3).length : Int) v8) (stO r8) := CS_tw (b := b) h8' (by omega)
      refine ev_callP (cs_word hT 11 (by decide) b _ h8c d (by omega)) (fun _ μ9 ⟨f9', h9'⟩ => ?_)
      have f9 : Fj rdJ (m2 μ8 (tw (!b) + 13) ((N 3).length : Int) v8) μ9 := f9'
      refine ev_callP (cs_num hT 0 99 b μ9 h9' q10 d (by omega)) (fun v10 μ10 ⟨f10', w10, h10'⟩ => ev_if hpi (ev_ret ?_))
      have f10 : Fj rdJ μ9 μ10 := f10'
      have s34 := dsm_fj (b := b) (fj_tr f3 f4)
      have s56 := dsm_fj (b := b) (fj_tr f5 f6)
      have s78 := dsm_fj (b := b) (fj_tr f7 f8)
      have s90 := dsm_fj (b := b) (fj_tr f9 f10)
      have h10c : CS T n (m2 μ10 (tw (!b) + 14) ((N 3).length : Int) v10) (stO r10) := CS_tw (b := b) h10' (by omega)
      have g4 := dfr_m2 (a := tw (!b) + 11) (i := ((N 3).length : Int)) (v := v4) (dfr_tr g2 (dfr_fj (fj_tr f3 f4))) (by omega)
      have g6 := dfr_m2 (a := tw (!b) + 12) (i := ((N 3).length : Int)) (v := v6) (dfr_tr g4 (dfr_fj (fj_tr f5 f6))) (by omega)
      have g8 := dfr_m2 (a := tw (!b) + 13) (i := ((N 3).length : Int)) (v := v8) (dfr_tr g6 (dfr_fj (fj_tr f7 f8))) (by omega)
      have g10 := dfr_m2 (a := tw (!b) + 14) (i := ((N 3).length : Int)) (v := v10) (dfr_tr g8 (dfr_fj (fj_tr f9 f10))) (by omega)
      refine css_en g10 h10c (fun s' g' q => ?_)
      obtain ⟨en, -, y4, y6, y8, y10, -⟩ := back s' g' q
      have z4 := val w4 y4
      have z6 := val w6 y6
      have z8 := val w8 y8
      have z10 := val w10 y10
      /- the draft's cells -/
      have oth : ∀ a, a ≤ 18 → a ≠ 11 → a ≠ 12 → a ≠ 13 → a ≠ 14 → m2 μ10 (tw (!b) + 14) ((N 3).length : Int) v10 (tw (!b) + a) = μ2 (tw (!b) + a) := fun a h18 e1 e2 e3 e4 => by
        rw [m2_ne (by omega), s90 _ (by omega) (by omega), m2_ne (by omega), s78 _ (by omega) (by omega), m2_ne (by omega), s56 _ (by omega) (by omega), m2_ne (by omega), s34 _ (by omega) (by omega)]
      have c11 : ∀ j, m2 μ10 (tw (!b) + 14) ((N 3).length : Int) v10 (tw (!b) + 11) j = if j = ((N 3).length : Int) then v4 else μ2 (tw (!b) + 11) j := fun j => by
        rw [m2_ne (by omega), s90 _ (by omega) (by omega), m2_ne (by omega), s78 _ (by omega) (by omega), m2_ne (by omega), s56 _ (by omega) (by omega), m2_at, s34 _ (by omega) (by omega)]
      have c12 : ∀ j, m2 μ10 (tw (!b) + 14) ((N 3).length : Int) v10 (tw (!b) + 12) j = if j = ((N 3).length : Int) then v6 else μ2 (tw (!b) + 12) j := fun j => by
        rw [m2_ne (by omega), s90 _ (by omega) (by omega), m2_ne (by omega), s78 _ (by omega) (by omega), m2_at, s56 _ (by omega) (by omega), m2_ne (by omega), s34 _ (by omega) (by omega)]
      have c13 : ∀ j, m2 μ10 (tw (!b) + 14) ((N 3).length : Int) v10 (tw (!b) + 13) j = if j = ((N 3).length : Int) then v8 else μ2 (tw (!b) + 13) j := fun j => by
        rw [m2_ne (by omega), s90 _ (by omega) (by omega), m2_at, s78 _ (by omega) (by omega), m2_ne (by omega), s56 _ (by omega) (by omega), m2_ne (by omega), s34 _ (by omega) (by omega)]
      have c14 : ∀ j, m2 μ10 (tw (!b) + 14) ((N 3).length : Int) v10 (tw (!b) + 14) j = if j = ((N 3).length : Int) then v10 else μ2 (tw (!b) + 14) j := fun j => by
        rw [m2_at, s90 _ (by omega) (by omega), m2_ne (by omega), s78 _ (by omega) (by omega), m2_ne (by omega), s56 _ (by omega) (by omega), m2_ne (by omega), s34 _ (by omega) (by omega)]
      have oth0 : m2 μ10 (tw (!b) + 14) ((N 3).length : Int) v10 (tw (!b)) = μ2 (tw (!b)) := oth 0 (by decide) (by decide) (by decide) (by decide) (by decide)
      rw [hxw en] at hm'
      obtain ⟨j1, j2, j3, j4, j5, j6⟩ := k1'
      have i1 := CNm_put j1 (k := 3) (by decide) (by decide) (nmL T n (nxS T n s))
      have i2 := CMn_mNm (x := pk5 (nmL T n (nxS T n s))) (k := 3) (by decide) j2
      have i3 := CGt_mNm (x := pk5 (nmL T n (nxS T n s))) (k := 3) (by decide) (by decide) j3
      have i4 := CPp_mNm (x := pk5 (nmL T n (nxS T n s))) (k := 3) (by decide) j4
      have i5 := CCd_mNm (x := pk5 (nmL T n (nxS T n s))) (k := 3) (by decide) j5
      have i6 : mNm b 3 (pk5 (nmL T n (nxS T n s))) μ1' (tw (!b)) 1 = H := by rw [mNm_ne (by omega) (by omega)]; exact j6
      rw [← hm'] at i1 i2 i3 i4 i5 i6
      show Cl b (m2 μ10 (tw (!b) + 14) ((N 3).length : Int) v10) _
      refine ⟨fun k hk k2 => ?_, CMn_sm (fun a ha => oth a (by omega) (by omega) (by omega) (by omega) (by omega)) i2, CGt_sm (by rw [oth 1 (by decide) (by decide) (by decide) (by decide) (by decide)]) (fun a ha => oth a (by omega) (by omega) (by omega) (by omega) (by omega)) i3, fun i hi => ?_, CCd_sm (by rw [oth0]) (oth 15 (by decide) (by decide) (by decide) (by decide) (by decide)) i5, by rw [oth0]; exact i6⟩
      · have := i1 k hk k2
        rw [oth 1 (by decide) (by decide) (by decide) (by decide) (by decide), show tw (!b) + 3 + k = tw (!b) + (3 + k) by omega, oth (3 + k) (by omega) (by omega) (by omega) (by omega) (by omega), show tw (!b) + (3 + k) = tw (!b) + 3 + k by omega]; exact this
      · have hi' := hi
        rw [List.length_append, List.length_singleton] at hi'
        rw [c11, c12, c13, c14, getD_sn hi]
        by_cases q : i = PL.length
        · rw [if_pos q, if_pos (by omega), if_pos (by omega), if_pos (by omega), if_pos (by omega)]
          exact ⟨z4, z6, z8, z10⟩
        · rw [if_neg q, if_neg (by omega), if_neg (by omega), if_neg (by omega), if_neg (by omega)]
          exact i4 i (by omega)
    · obtain ⟨d, rfl⟩ : ∃ d, D = d + 1 := ⟨D - 1, by omega⟩
      have hk0 : ν 120 2 = ((N 3).length : Int) := (hr.1 3 (by decide) (by decide)).1
      refine cal_ev (fun r => call_X10_personTold d bx ν s) (ev_row (fun m => tX10_personTold_0 _ m bx ν s) (ev_call (rf_more bx ν h 2 6 s (by decide) (by decide) (by omega) d (by omega)) (ev_pos rfl ?_)))
      refine ev_callP (rs_new hT bx ν h hr.1 hN hn d (by omega)) (fun v2 ν2 ⟨f2', h2', hxw⟩ => ?_)
      have f2 : Fg [] lxJ ν ν2 := f2'
      refine ev_callP (rs_word hT (j := 8) (by decide) bx ν2 h2' d (by omega)) (fun _ ν3 ⟨f3', h3'⟩ => ?_)
      have f3 : Fg [] lxJ ν ν3 := fg_tr f2 f3' (by decide) (by decide)
      refine ev_callP (rs_old hT bx ν3 h3' (Rl_lex f3 hr).1 hN (k := 0) (by decide) (by decide) q4 d (by omega)) (fun v4 ν4 ⟨f4', w4, h4'⟩ => ?_)
      have f4 : Fg [] lxJ ν ν4 := fg_tr f3 f4' (by decide) (by decide)
      refine ev_callP (rs_word hT (j := 9) (by decide) bx ν4 h4' d (by omega)) (fun _ ν5 ⟨f5', h5'⟩ => ?_)
      have f5 : Fg [] lxJ ν ν5 := fg_tr f4 f5' (by decide) (by decide)
      refine ev_callP (rs_old hT bx ν5 h5' (Rl_lex f5 hr).1 hN (k := 0) (by decide) (by decide) q6 d (by omega)) (fun v6 ν6 ⟨f6', w6, h6'⟩ => ?_)
      have f6 : Fg [] lxJ ν ν6 := fg_tr f5 f6' (by decide) (by decide)
      refine ev_callP (rs_word hT (j := 10) (by decide) bx ν6 h6' d (by omega)) (fun _ ν7 ⟨f7', h7'⟩ => ?_)
      have f7 : Fg [] lxJ ν ν7 := fg_tr f6 f7' (by decide) (by decide)
      refine ev_callP (rs_num hT 0 999 bx ν7 h7' q8 d (by omega)) (fun v8 ν8 ⟨f8', w8, h8'⟩ => ?_)
      have f8 : Fg [] lxJ ν ν8 := fg_tr f7 f8' (by decide) (by decide)
      refine ev_callP (rs_word hT (j := 11) (by decide) bx ν8 h8' d (by omega)) (fun _ ν9 ⟨f9', h9'⟩ => ?_)
      have f9 : Fg [] lxJ ν ν9 := fg_tr f8 f9' (by decide) (by decide)
      refine ev_callP (rs_num hT 0 99 bx ν9 h9' q10 d (by omega)) (fun v10 ν10 ⟨f10', w10, h10'⟩ => ?_)
      have f10 : Fg [] lxJ ν ν10 := fg_tr f9 f10' (by decide) (by decide)
      have h10 : RS T n ν10 (stO r10) := h10'
      rcases hq : stO r10 with e | ⟨s', g'⟩
      · rw [hq] at h10
        have h10b : RBd ν10 e := h10
        exact ev_neg (by show ¬ ν10 96 5 = 0; rw [h10b.1]; exact h10b.2.1) (ev_ret ⟨rfr_lex f10, h10b⟩)
      · rw [hq] at h10
        have h10b : RSv T n ν10 s' g' := h10
        obtain ⟨en, -, y4, y6, y8, y10, -⟩ := back s' g' hq
        have z2 := hxw en
        have z4 := val w4 y4
        have z6 := val w6 y6
        have z8 := val w8 y8
        have z10 := val w10 y10
        obtain ⟨j1, j2, j3, j4, j5, j6, j7⟩ := Rl_lex f10 hr
        have e120 : ν10 120 2 = ((N 3).length : Int) := by rw [f10.1 120 (by simp) (by decide)]; exact hk0
        have w24 : w32 (24 + ν10 120 2) = 24 + ((N 3).length : Int) := by rw [e120]; exact w32_id (by omega) (by omega)
        have wp : w32 (4 * ν 120 2) = 4 * ((N 3).length : Int) := by rw [hk0]; exact w32_id (by omega) (by omega)
        have wp1 : w32 (w32 (4 * ν 120 2) + 1) = 4 * ((N 3).length : Int) + 1 := by rw [wp]; exact w32_id (by omega) (by omega)
        have wp2 : w32 (w32 (4 * ν 120 2) + 2) = 4 * ((N 3).length : Int) + 2 := by rw [wp]; exact w32_id (by omega) (by omega)
        have wp3 : w32 (w32 (4 * ν 120 2) + 3) = 4 * ((N 3).length : Int) + 3 := by rw [wp]; exact w32_id (by omega) (by omega)
        refine ev_pos h10b.1 (ev_if (by show 0 ≤ w32 (24 + ν10 120 2) ∧ w32 (24 + ν10 120 2) < 72; rw [w24]; omega) (ev_if (by show 0 ≤ w32 (4 * ν 120 2) ∧ w32 (4 * ν 120 2) < 48; rw [wp]; omega) (ev_if (by show 0 ≤ w32 (w32 (4 * ν 120 2) + 1) ∧ w32 (w32 (4 * ν 120 2) + 1) < 48; rw [wp1]; omega) (ev_if (by show 0 ≤ w32 (w32 (4 * ν 120 2) + 2) ∧ w32 (w32 (4 * ν 120 2) + 2) < 48; rw [wp2]; omega) (ev_if (by show 0 ≤ w32 (w32 (4 * ν 120 2) + 3) ∧ w32 (w32 (4 * ν 120 2) + 3) < 48; rw [wp3]; omega) (ev_ret ?_))))))
        show RSS T n ν (m2 (m2 (m2 (m2 (m2 (m2 ν10 121 (w32 (24 + ν10 120 2)) v2) 125 (w32 (4 * ν 120 2)) v4) 125 (w32 (w32 (4 * ν 120 2) + 1)) v6) 125 (w32 (w32 (4 * ν 120 2) + 2)) v8) 125 (w32 (w32 (4 * ν 120 2) + 3)) v10) 120 2 (w32 (m2 (m2 (m2 (m2 (m2 ν10 121 (w32 (24 + ν10 120 2)) v2) 125 (w32 (4 * ν 120 2)) v4) 125 (w32 (w32 (4 * ν 120 2) + 1)) v6) 125 (w32 (w32 (4 * ν 120 2) + 2)) v8) 125 (w32 (w32 (4 * ν 120 2) + 3)) v10 120 2 + 1))) _
        rw [w24, wp1, wp2, wp3, wp]
        have hval : w32 (m2 (m2 (m2 (m2 (m2 ν10 121 (24 + ((N 3).length : Int)) v2) 125 (4 * ((N 3).length : Int)) v4) 125 (4 * ((N 3).length : Int) + 1) v6) 125 (4 * ((N 3).length : Int) + 2) v8) 125 (4 * ((N 3).length : Int) + 3) v10 120 2 + 1) = ((N 3).length : Int) + 1 := by
          rw [m2_ne (by decide), m2_ne (by decide), m2_ne (by decide), m2_ne (by decide), m2_ne (by decide), e120]; exact w32_id (by omega) (by omega)
        rw [hval]
        have ne : ∀ x, x ≠ 120 → x ≠ 121 → x ≠ 125 → m2 (m2 (m2 (m2 (m2 (m2 ν10 121 (24 + ((N 3).length : Int)) v2) 125 (4 * ((N 3).length : Int)) v4) 125 (4 * ((N 3).length : Int) + 1) v6) 125 (4 * ((N 3).length : Int) + 2) v8) 125 (4 * ((N 3).length : Int) + 3) v10) 120 2 (((N 3).length : Int) + 1) x = ν10 x := fun x x1 x2 x3 => by rw [m2_ne x1, m2_ne x3, m2_ne x3, m2_ne x3, m2_ne x3, m2_ne x2]
        refine ⟨rfr_m2 (rfr_m2 (rfr_m2 (rfr_m2 (rfr_m2 (rfr_m2 (rfr_lex f10) (by decide) (Or.inr (Or.inr (by show _ < (36 : Int); omega)))) (by decide) (Or.inr (Or.inr (by show _ < (24 : Int); omega)))) (by decide) (Or.inr (Or.inr (by show _ < (24 : Int); omega)))) (by decide) (Or.inr (Or.inr (by show _ < (24 : Int); omega)))) (by decide) (Or.inr (Or.inr (by show _ < (24 : Int); omega)))) (by decide) (Or.inr (Or.inr (by decide))), RSv_m2 (RSv_m2 (RSv_m2 (RSv_m2 (RSv_m2 (RSv_m2 h10b (by decide)) (by decide)) (by decide)) (by decide)) (by decide)) (by decide), RNm_put j1 (k := 3) (by decide) (by decide) (by omega) hN _ (fun j => ?_) (fun j hj => ?_), RMn_sm (fun x hx => ne x (by omega) (by omega) (by omega)) j2, RHg_sm (ne 123 (by decide) (by decide) (by decide)) j3, RGt_sm (by rw [m2_at, if_neg (by decide), m2_ne (by decide), m2_ne (by decide), m2_ne (by decide), m2_ne (by decide), m2_ne (by decide)]) (ne 124 (by decide) (by decide) (by decide)) j4, fun i hi => ?_, RCd_sm (by rw [ne 96 (by decide) (by decide) (by decide)]) (ne 126 (by decide) (by decide) (by decide)) j6, by rw [ne 96 (by decide) (by decide) (by decide)]; exact j7⟩
        · rw [m2_at, m2_ne (by decide), m2_ne (by decide), m2_ne (by decide), m2_ne (by decide), m2_ne (by decide)]; rfl
        · rw [m2_ne (by decide), m2_ne (by decide), m2_ne (by decide), m2_ne (by decide), m2_ne (by decide), m2_at, show rk 3 = 2 from rfl, show v2 = pk27 0 (nmL T n (nxS T n s)) from z2]
          rfl
        · have hi' := hi
          rw [List.length_append, List.length_singleton] at hi'
          rw [m2_ne (by decide), m2_at, m2_at, m2_at, m2_at, m2_at, m2_at, m2_at, m2_at, m2_at, m2_at, m2_at, m2_at, m2_at, m2_at, m2_at, m2_at, m2_ne (by decide), getD_sn hi]
          by_cases q : i = PL.length
          · rw [if_pos q, q, m2']
            refine ⟨?_, ?_, ?_, ?_⟩
            · rw [if_neg (by omega), if_neg (by omega), if_neg (by omega), if_pos rfl]; exact z4
            · rw [if_neg (by omega), if_neg (by omega), if_pos rfl]; exact z6
            · rw [if_neg (by omega), if_pos rfl]; exact z8
            · rw [if_pos rfl]; exact z10
          · rw [if_neg q]
            obtain ⟨u1, u2, u3, u4⟩ := j5 i (by omega)
            refine ⟨?_, ?_, ?_, ?_⟩
            · rw [if_neg (by omega), if_neg (by omega), if_neg (by omega), if_neg (by omega)]; exact u1
            · rw [if_neg (by omega), if_neg (by omega), if_neg (by omega), if_neg (by omega)]; exact u2
            · rw [if_neg (by omega), if_neg (by omega), if_neg (by omega), if_neg (by omega)]; exact u3
            · rw [if_neg (by omega), if_neg (by omega), if_neg (by omega), if_neg (by omega)]; exact u4
    · rcases hq : stO r10 with e | ⟨s', g'⟩
      · exact trivial
      · obtain ⟨en, on, y4, y6, y8, y10, a4, a6, a8, a10, av, al⟩ := back s' g' hq
        have e0 : updN N 3 (nmL T n (nxS T n s)) 0 = N 0 := updN_ne (by decide)
        have e1 : updN N 3 (nmL T n (nxS T n s)) 1 = N 1 := updN_ne (by decide)
        have e3 : (updN N 3 (nmL T n (nxS T n s)) 3).length = (N 3).length + 1 := by rw [updN_at, List.length_append, List.length_singleton]
        refine ⟨av, al, ⟨NOk_put hN (nmL_ok hT hx.1 on) (by omega), ⟨by rw [e0]; exact l0, by rw [e1]; exact l1, by omega⟩, ⟨by rw [e1]; exact m1, by rw [List.length_append, List.length_singleton]; omega, m3⟩, h4, h5, by rw [e0, e1]; exact h6, h7, fun x hx => ?_⟩, by show (C.length : Int) ≤ _; omega⟩
        rw [e0]
        rcases List.mem_append.1 hx with hx | hx
        · exact h8 x hx
        · rw [List.mem_singleton.1 hx]; exact ⟨a4, a6, a8, a10⟩
  · refine ⟨.inl (5, s), fun D hd μ h hc => ?_, fun D hd ν h hr => ?_, trivial⟩
    · obtain ⟨d, rfl⟩ : ∃ d, D = d + 1 := ⟨D - 1, by omega⟩
      have hk0 := (hc.1 3 (by decide) (by decide)).1
      refine cal_ev (fun r => call_X4_readPerson d b μ) (ev_row (fun m => tX4_readPerson_0 _ m b μ) (ev_callP (cl_full hT (k := 3) (by decide) b μ h (by rw [hk0]; show ¬ _ < (6 : Int); omega) d (by omega)) (fun v μ1 ⟨hv1, f1, h1⟩ => ev_pos hv1 (ev_ret ⟨dfr_fj f1, h1⟩))))
    · obtain ⟨d, rfl⟩ : ∃ d, D = d + 1 := ⟨D - 1, by omega⟩
      have hk0 : ν 120 2 = ((N 3).length : Int) := (hr.1 3 (by decide) (by decide)).1
      refine cal_ev (fun r => call_X10_personTold d bx ν s) (ev_row (fun m => tX10_personTold_0 _ m bx ν s) (ev_callP (rf_full bx ν h 2 6 s (by decide) (by decide) (by omega) d (by omega)) (fun v ν1 ⟨hv1, f1, h1⟩ => ev_neg (by show ¬ v = 0; omega) (ev_ret ⟨rfr_fg rfr_rfl f1 (by decide), h1⟩))))
end
