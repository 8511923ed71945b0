/-! ===== town: one statement, both alike ===== -/
def sgS (T : Int → Int) (n : Int) : SR → SR
  | .inl e => .inl e
  | .inr (D, s, g) => if tkS T n s g = 59 then .inr (D, nxS T n s, nxG T n s g) else .inl (1, s)
def stK : List Int := [2, 4, 5, 6, 31, 38, 39, 41, 43, 44, 48]
def RSS2 (T : Int → Int) (n i : Int) (ν0 ν : Nat → Int → Int) : SR → Prop
  | .inl e => Rfr stK ν0 ν ∧ RBd ν e
  | .inr (D, s, g) => Rfr stK ν0 ν ∧ RSv T n ν s g ∧ Rl ν D ∧ ν 96 39 = i + 1
theorem rfr_up {J K : List Int} {ν ν' : Nat → Int → Int} (h : Rfr J ν ν') (hs : ∀ a, a ∈ J → a ∈ K) : Rfr K ν ν' := ⟨⟨h.1.1, fun j hj => h.1.2 j (fun q => hj (hs j q))⟩, h.2⟩
theorem Cl_st {b : Bool} {μ : Nat → Int → Int} {D : DT} (h : Cl b μ D) (v : Int) : Cl b (m2 μ (tw (!b)) 0 v) D := by
  obtain ⟨N, ML, GL, PL, C, H⟩ := D
  obtain ⟨c1, c2, c3, c4, c5, c6⟩ := h
  have ne : ∀ a, 1 ≤ a → m2 μ (tw (!b)) 0 v (tw (!b) + a) = μ (tw (!b) + a) := fun a ha => m2_ne (by omega)
  have e13 : m2 μ (tw (!b)) 0 v (tw (!b)) 13 = μ (tw (!b)) 13 := by rw [m2_at, if_neg (by decide)]
  have e1 : m2 μ (tw (!b)) 0 v (tw (!b)) 1 = μ (tw (!b)) 1 := by rw [m2_at, if_neg (by decide)]
  refine ⟨fun k hk k2 => ?_, CMn_sm (fun a ha => ne a (by omega)) c2, CGt_sm (by rw [ne 1 (by omega)]) (fun a ha => ne a (by omega)) c3, CPp_sm (fun a ha => ne a (by omega)) c4, CCd_sm e13 (ne 15 (by omega)) c5, by rw [e1]; exact c6⟩
  rw [ne 1 (by omega), show tw (!b) + 3 + k = tw (!b) + (3 + k) by omega, ne (3 + k) (by omega), show tw (!b) + (3 + k) = tw (!b) + 3 + k by omega]; exact c1 k hk k2
theorem Cl_hr {b : Bool} {μ : Nat → Int → Int} {N : Nat → List (List Int)} {ML : List (Int × Int × Int × Int)} {GL : List (Int × Int × Int)} {PL : List (Int × Int × Int × Int)} {C : List Int} {H : Int} (h : Cl b μ (N, ML, GL, PL, C, H)) (v : Int) : Cl b (m2 μ (tw (!b)) 1 v) (N, ML, GL, PL, C, v) := by
  obtain ⟨c1, c2, c3, c4, c5, c6⟩ := h
  have ne : ∀ a, 1 ≤ a → m2 μ (tw (!b)) 1 v (tw (!b) + a) = μ (tw (!b) + a) := fun a ha => m2_ne (by omega)
  have e13 : m2 μ (tw (!b)) 1 v (tw (!b)) 13 = μ (tw (!b)) 13 := by rw [m2_at, if_neg (by decide)]
  refine ⟨fun k hk k2 => ?_, CMn_sm (fun a ha => ne a (by omega)) c2, CGt_sm (by rw [ne 1 (by omega)]) (fun a ha => ne a (by omega)) c3, CPp_sm (fun a ha => ne a (by omega)) c4, CCd_sm e13 (ne 15 (by omega)) c5, by rw [m2_at, if_pos rfl]⟩
  rw [ne 1 (by omega), show tw (!b) + 3 + k = tw (!b) + (3 + k) by omega, ne (3 + k) (by omega), show tw (!b) + (3 + k) = tw (!b) + 3 + k by omega]; exact c1 k hk k2
theorem cl_146 {b : Bool} {T : Int → Int} {n : Int} (hT : Tp T n) {d : Nat} (hd : 3 ≤ d) {i : Int} (i0 : 0 ≤ i) (i8 : i < 80) {μ0 μ : Nat → Int → Int} {r : SR} (h : CSS b T n μ0 μ r) {Q : Int → (Nat → Int → Int) → Prop} (K : ∀ μ', CSS b T n μ0 μ' (sgS T n r) → μ' (tw (!b)) 0 = i + 1 → Ev (fun m => mRun (mCallN d) kX4_read m 6 [some (mP 1), some (mI (i + 1))] [] (SH, μ', RHO b)) b Q) : Ev (fun m => mRun (mCallN d) kX4_read m 146 [some (mP 1), some (mI i)] [] (SH, μ, RHO b)) b Q := by
  refine ev_row (fun m => tX4_read_146 _ m b μ i) ?_
  rw [w32_id (by omega) (by omega)]
  have t1 := tw_or (!b)
  have fin : ∀ μ1, CSS b T n μ0 μ1 (sgS T n r) → Ev (fun m => mRun (mCallN d) kX4_read m 6 [some (mP 1), some (mI (i + 1))] [] (SH, m2 μ1 (tw (!b)) 0 (i + 1), RHO b)) b Q := fun μ1 hc => by
    refine K _ ?_ (by rw [m2_at, if_pos rfl])
    rcases hs : sgS T n r with e | ⟨D, s, g⟩
    · rw [hs] at hc
      exact ⟨dfr_m2 hc.1 (by omega), CDd_tw (b := b) hc.2 (by omega)⟩
    · rw [hs] at hc
      exact ⟨dfr_m2 hc.1 (by omega), CLv_tw (b := b) hc.2.1 (by omega), Cl_st hc.2.2 _⟩
  rcases r with e | ⟨D, s, g⟩
  · exact ev_callP (sX4_takeSign_dd 59 (by decide) b μ h.2 d hd) (fun v μ1 ⟨f1, h1⟩ => fin μ1 ⟨dfr_tr h.1 (dfr_fj f1), h1⟩)
  · by_cases q : tkS T n s g = 59
    · have e : sgS T n (.inr (D, s, g)) = .inr (D, nxS T n s, nxG T n s g) := if_pos q
      exact ev_callP (sX4_takeSign_ok hT 59 b μ h.2.1 q d hd) (fun v μ1 ⟨f1', h1⟩ => by
        have f1 : Fj rdJ μ μ1 := f1'
        exact fin μ1 (by rw [e]; exact ⟨dfr_tr h.1 (dfr_fj f1), h1, Cl_sm (dsm_fj (b := b) f1) h.2.2⟩))
    · have e : sgS T n (.inr (D, s, g)) = .inl (1, s) := if_neg q
      exact ev_callP (sX4_takeSign_er 59 b μ h.2.1 q d hd) (fun v μ1 ⟨f1', h1⟩ => by
        have f1 : Fj rdJ μ μ1 := f1'
        exact fin μ1 (by rw [e]; exact ⟨dfr_tr h.1 (dfr_fj f1), h1⟩))
theorem rf_116 {b : Bool} {T : Int → Int} {n : Int} (hT : Tp T n) {d : Nat} (hd : 3 ≤ d) {i v1 : Int} (i0 : 0 ≤ i) (i8 : i < 80) {ν0 ν : Nat → Int → Int} {r : SR} (h : RSS T n ν0 ν r) (h39 : ν 96 39 = i) : Ev (fun m => mRun (mCallN d) kX10_statementTold m 116 [some (mP 96), some (mI v1)] [] (SH, ν, RHO b)) b (fun _ ν' => RSS2 T n i ν0 ν' (sgS T n r)) := by
  refine ev_row (fun m => tX10_statementTold_116 _ m b ν v1) ?_
  have bad : ∀ (ν1 : Nat → Int → Int) (e : Int × Int) (x : Int), Rfr stJ ν0 ν1 → RBd ν1 e → Rfr stK ν0 (m2 ν1 96 39 x) ∧ RBd (m2 ν1 96 39 x) e := fun ν1 e x f hb => ⟨rfr_m96 (rfr_up f (by decide)) (by decide), by rw [m2_at, if_neg (by decide)]; exact hb.1, hb.2.1, by rw [m2_at, if_neg (by decide)]; exact hb.2.2⟩
  rcases r with e | ⟨D, s, g⟩
  · exact ev_call (bd_asksSign 59 b ν h.2 d (by omega)) (ev_ret (bad ν e _ h.1 h.2))
  · refine ev_callP (sX10_asksSign hT 59 (by decide) b ν h.2.1 d hd) (fun v ν1 ⟨f1', hh⟩ => ev_ret ?_)
    have f1 : Fg [] lxJ ν ν1 := f1'
    have g1 : Rfr stJ ν0 ν1 := rfr_fg h.1 f1 (by decide)
    have e39 : ν1 96 39 = i := by rw [f1.2 39 (by decide)]; exact h39
    have hval : w32 (ν1 96 39 + 1) = i + 1 := by rw [e39]; exact w32_id (by omega) (by omega)
    show RSS2 T n i ν0 (m2 ν1 96 39 (w32 (ν1 96 39 + 1))) _
    rw [hval]
    rcases hh with ⟨q, h1⟩ | ⟨q, h1⟩
    · rw [show sgS T n (.inr (D, s, g)) = .inr (D, nxS T n s, nxG T n s g) from if_pos q]
      have ff : Fg [] [39] ν1 (m2 ν1 96 39 (i + 1)) := fg_m96 fg_rfl (by decide)
      refine ⟨rfr_m96 (rfr_up g1 (by decide)) (by decide), RS_fg (st := .inr (nxS T n s, nxG T n s g)) h1 ff (by simp) (by decide), ?_, by rw [m2_at, if_pos rfl]⟩
      have rl := Rl_lex f1 h.2.2
      obtain ⟨N, ML, GL, PL, C, H⟩ := D
      obtain ⟨c1, c2, c3, c4, c5, c6, c7⟩ := rl
      have ne : ∀ a, a ≠ 96 → m2 ν1 96 39 (i + 1) a = ν1 a := fun a ha => m2_ne ha
      exact ⟨RNm_sm (ne 120 (by decide)) (ne 121 (by decide)) c1, RMn_sm (fun a ha => ne a (by omega)) c2, RHg_sm (ne 123 (by decide)) c3, RGt_sm (by rw [ne 120 (by decide)]) (ne 124 (by decide)) c4, RPp_sm (ne 125 (by decide)) c5, RCd_sm (by rw [m2_at, if_neg (by decide)]) (ne 126 (by decide)) c6, by rw [m2_at, if_neg (by decide)]; exact c7⟩
    · rw [show sgS T n (.inr (D, s, g)) = .inl (1, s) from if_neg q]
      exact bad ν1 (1, s) _ g1 h1
/-- one statement -/
def JT (b bx : Bool) (T : Int → Int) (n : Int) (D : DT) (s : Int) (g : Bool) (r : SR) : Prop := (∀ d, 201 ≤ d → ∀ μ0 μ i, 0 ≤ i → i < 80 → Dfr b μ0 μ → CLv T n μ s g → Cl b μ D → ∀ Q : Int → (Nat → Int → Int) → Prop, (∀ μ', CSS b T n μ0 μ' r → μ' (tw (!b)) 0 = i + 1 → Ev (fun m => mRun (mCallN d) kX4_read m 6 [some (mP 1), some (mI (i + 1))] [] (SH, μ', RHO b)) b Q) → Ev (fun m => mRun (mCallN d) kX4_read m 6 [some (mP 1), some (mI i)] [] (SH, μ, RHO b)) b Q) ∧ (∀ d, 22 ≤ d → ∀ ν i, 0 ≤ i → i < 80 → RSv T n ν s g → ν 96 2 = s → Rl ν D → ν 96 39 = i → Cal d 118 [mP 96] bx ν (fun _ ν' => RSS2 T n i ν ν' r)) ∧ SOk T n s r
theorem CSS_tr {b : Bool} {T : Int → Int} {n : Int} {μ0 μ μ' : Nat → Int → Int} {r : SR} (h : Dfr b μ0 μ) (h2 : CSS b T n μ μ' r) : CSS b T n μ0 μ' r := by
  rcases r with e | ⟨D, s, g⟩
  · exact ⟨dfr_tr h h2.1, h2.2⟩
  · exact ⟨dfr_tr h h2.1, h2.2⟩
theorem RSS_tr {T : Int → Int} {n : Int} {ν0 ν ν' : Nat → Int → Int} {r : SR} (h : Rfr stJ ν0 ν) (h2 : RSS T n ν ν' r) : RSS T n ν0 ν' r := by
  rcases r with e | ⟨D, s, g⟩
  · exact ⟨rfr_tr h h2.1, h2.2⟩
  · exact ⟨rfr_tr h h2.1, h2.2⟩
theorem RSS_39 {T : Int → Int} {n : Int} {ν0 ν : Nat → Int → Int} {r : SR} (h : RSS T n ν0 ν r) : ν 96 39 = ν0 96 39 := by
  rcases r with e | ⟨D, s, g⟩
  · exact h.1.1.2 39 (by decide)
  · exact h.1.1.2 39 (by decide)
theorem SOk_sg {T : Int → Int} {n s : Int} (hT : Tp T n) {r : SR} (h : SOk T n s r) : SOk T n s (sgS T n r) := by
  rcases r with e | ⟨D, s', g'⟩
  · exact trivial
  · by_cases q : tkS T n s' g' = 59
    · rw [show sgS T n (.inr (D, s', g')) = .inr (D, nxS T n s', nxG T n s' g') from if_pos q]
      obtain ⟨h1, h2, h3, h4⟩ := h
      have hx := nx_in hT h1
      exact ⟨hx.1, by omega, h3, by omega⟩
    · rw [show sgS T n (.inr (D, s', g')) = .inl (1, s') from if_neg q]; exact trivial
