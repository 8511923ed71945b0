/-! ===== town: gates, both alike, the end ===== -/
section
variable {b bx : Bool} {T : Int → Int} {n : Int} {N : Nat → List (List Int)} {ML : List (Int × Int × Int × Int)} {GL : List (Int × Int × Int)} {PL : List (Int × Int × Int × Int)} {C : List Int} {H : Int}
theorem rg97_bd {d : Nat} {ν : Nat → Int → Int} {e : Int × Int} (h : RBd ν e) (v1 v2 v3 v4 v5 : Int) {Q : Int → (Nat → Int → Int) → Prop} (hQ : Q 0 ν) : Ev (fun m => mRun (mCallN d) kX10_gateTold m 97 [some (mP 96), some (mI v1), some (mI v2), some (mI v3), some (mI v4), some (mI v5)] [] (SH, ν, RHO b)) b Q :=
  ev_row (fun m => tX10_gateTold_97 _ m b ν _ _ _ _ _) (ev_neg (by rw [h.1]; exact h.2.1) (ev_ret hQ))
theorem rg56_bd {d : Nat} (hd : 3 ≤ d) {ν0 ν : Nat → Int → Int} {e : Int × Int} (hN : NOk N) (hf : Rfr stJ ν0 ν) (h : RBd ν e) (hr : RNm ν N) (v1 v2 v3 v4 : Int) : Ev (fun m => mRun (mCallN d) kX10_gateTold m 56 [some (mP 96), some (mI v1), some (mI v2), some (mI v3), some (mI v4), none] [] (SH, ν, RHO b)) b (fun _ ν' => RSS T n ν0 ν' (.inl e)) :=
  ev_row (fun m => tX10_gateTold_56 _ m b ν _ _ _ _) (ev_call (bd_asks 104 b ν h d (by omega)) (ev_call (bd_oneOf ν h hr hN (k := 1) (by decide) (by decide) d (by omega)) (ev_neg (by show ¬ ν 96 5 = 0; rw [h.1]; exact h.2.1) (rg97_bd h _ _ _ _ _ ⟨hf, h⟩))))
theorem J_gtail (hT : Tp T n) (hD : DOk (N, ML, GL, PL, C, H)) (hG : GL.length < 12) {a c : Int} (ha : 0 ≤ a ∧ a < ((N 0).length : Int)) (hc : 0 ≤ c ∧ c < ((N 0).length : Int)) (hac : a ≠ c) {s : Int} {g : Bool} (hv : VC T n s) : ∃ r : SR, (∀ d, 4 ≤ d → ∀ μ0 μ, Dfr b μ0 μ → CLv T n μ s g → Cl b μ (N, ML, GL, PL, C, H) → μ (tw (!b) + 8) (GL.length : Int) = a → μ (tw (!b) + 9) (GL.length : Int) = c → ∀ v2, Ev (fun m => mRun (mCallN d) kX4_readGate m 79 [some (mP 1), some (mI (GL.length : Int)), some (mI v2), none] [] (SH, μ, RHO b)) b (fun _ μ' => CSS b T n μ0 μ' r)) ∧ (∀ d, 6 ≤ d → ∀ ν0 ν, Rfr stJ ν0 ν → RSv T n ν s g → Rl ν (N, ML, GL, PL, C, H) → ∀ p, Ev (fun m => mRun (mCallN d) kX10_gateTold m 56 [some (mP 96), some (mI p), some (mI (3 * (GL.length : Int))), some (mI a), some (mI c), none] [] (SH, ν, RHO bx)) bx (fun _ ν' => RSS T n ν0 ν' r)) ∧ (∀ D' s' g', r = .inr (D', s', g') → VC T n s' ∧ s ≤ s' ∧ DOk D' ∧ cdL D' = C) := by
  obtain ⟨hN, ⟨l0, l1, l3⟩, ⟨m1, m2', m3⟩, h4, h5, h6, h7, h8⟩ := id hD
  have hx := nx_in hT hv
  by_cases hw : tkW T n s g = 6
  · obtain ⟨ro, ho⟩ := olR_ex T n (nxS T n s) (nxG T n s g) (N 1)
    have hcl : ∀ d, 4 ≤ d → ∀ μ0 μ, Dfr b μ0 μ → CLv T n μ s g → Cl b μ (N, ML, GL, PL, C, H) → ∀ (v2 : Int) (r : SR), (∀ v μ2, Fj rdJ μ μ2 → olC T n v μ2 ro → ∀ w, Ev (fun m => mOptR (mCallN d 203 [mP (tw (!b))] (SH, μ2, RHO b)) (fun x3 => mBr ((iAnd (iShr x3.1 v) 1 : Int) = 1) ((mOptR (mCallN d 160 [mP 1, mI 3, mI (nxS T n s)] (SH, x3.2.2.1, RHO b)) (fun x4 => mRun (mCallN d) kX4_readGate m 117 [some (mP 1), some (mI (GL.length : Int)), some (mI w), some (mI v)] [] (SH, x4.2.2.1, RHO b)))) (mRun (mCallN d) kX4_readGate m 117 [some (mP 1), some (mI (GL.length : Int)), some (mI w), some (mI v)] [] (SH, x3.2.2.1, RHO b)))) b (fun _ μ' => CSS b T n μ0 μ' r)) → Ev (fun m => mRun (mCallN d) kX4_readGate m 79 [some (mP 1), some (mI (GL.length : Int)), some (mI v2), none] [] (SH, μ, RHO b)) b (fun _ μ' => CSS b T n μ0 μ' r) := fun d hd μ0 μ hf h hcl v2 r K => by
      refine ev_row (fun m => tX4_readGate_79 _ m b μ _ _) (ev_callP (sX4_takeWord_ok hT 6 b μ h hw d (by omega)) (fun v μ1 ⟨f1', h1'⟩ => ?_))
      have f1 : Fj rdJ μ μ1 := f1'
      have h1 : CLv T n μ1 (nxS T n s) (nxG T n s g) := h1'
      have k1 := Cl_sm (dsm_fj (b := b) f1) hcl
      have e7 : μ1 1 7 = nxS T n s := h1.2.2.2.2.1.2.2.2.1
      refine ev_callP (sX4_takeOldName hT (k := 1) (by decide) (by decide) b μ1 h1 k1.1 hN ho d (by omega)) (fun v' μ2 ⟨f2', h2'⟩ => ?_)
      have f2 : Fj rdJ μ1 μ2 := f2'
      have e7' : (v, SH, μ1, RHO b).2.2.1 1 7 = nxS T n s := e7
      rw [e7']
      exact K v' μ2 (fj_tr f1 f2) h2' _
    have hrf : ∀ d, 6 ≤ d → ∀ ν0 ν, Rfr stJ ν0 ν → RSv T n ν s g → Rl ν (N, ML, GL, PL, C, H) → ∀ (p : Int) (r : SR), (∀ v ν2, Fg [] lxJ ν ν2 → olQ T n (nxS T n s) v ν2 ro → Ev (fun m => mBr ((ν2 96 5 : Int) = 0) ((if (0 : Int) ≤ v ∧ v < (12 : Int) then mBr ((ν2 123 v : Int) = 0) (mRun (mCallN d) kX10_gateTold m 97 [some (mP 96), some (mI p), some (mI (3 * (GL.length : Int))), some (mI a), some (mI c), some (mI v)] [] (SH, ν2, RHO bx)) ((mOptR (mCallN d 36 [mP 96, mI 3, mI (ν2 96 31)] (SH, ν2, RHO bx)) (fun x3 => mRun (mCallN d) kX10_gateTold m 97 [some (mP 96), some (mI p), some (mI (3 * (GL.length : Int))), some (mI a), some (mI c), some (mI v)] [] (SH, x3.2.2.1, RHO bx)))) else none)) (mRun (mCallN d) kX10_gateTold m 97 [some (mP 96), some (mI p), some (mI (3 * (GL.length : Int))), some (mI a), some (mI c), some (mI v)] [] (SH, ν2, RHO bx))) bx (fun _ ν' => RSS T n ν0 ν' r)) → Ev (fun m => mRun (mCallN d) kX10_gateTold m 56 [some (mP 96), some (mI p), some (mI (3 * (GL.length : Int))), some (mI a), some (mI c), none] [] (SH, ν, RHO bx)) bx (fun _ ν' => RSS T n ν0 ν' r) := fun d hd ν0 ν hf h hr p r K => by
      refine ev_row (fun m => tX10_gateTold_56 _ m bx ν _ _ _ _) (ev_callP (sX10_asks hT (j := 6) (by decide) bx ν h d (by omega)) (fun v ν1 ⟨f1', hh⟩ => ?_))
      have f1 : Fg [] lxJ ν ν1 := f1'
      rcases hh with ⟨-, h1'⟩ | ⟨q, -⟩
      · have h1 : RSv T n ν1 (nxS T n s) (nxG T n s g) := h1'
        have k1 := Rl_lex f1 hr
        refine ev_callP (sX10_oneOf hT bx ν1 h1 k1.1 hN (k := 1) (by decide) (by decide) ho d (by omega)) (fun v' ν2 ⟨f2', h2'⟩ => ?_)
        have f2 : Fg [] lxJ ν1 ν2 := f2'
        exact K v' ν2 (fg_tr f1 f2 (by decide) (by decide)) h2'
      · exact absurd hw q
    rcases ro with e | ⟨m, s5, g5⟩
    · refine ⟨.inl e, fun d hd μ0 μ hf h hcl' h8' h9' v2 => hcl d hd μ0 μ hf h hcl' v2 _ (fun v μ2 f2 h2 w => ?_), fun d hd ν0 ν hf h hr p => hrf d hd ν0 ν hf h hr p _ (fun v ν2 f2 h2 => ?_), fun D' s' g' q => by cases q⟩
      · have h2' : CDd T n μ2 e := h2
        have k2 := Cl_sm (dsm_fj (b := b) f2) hcl'
        refine ev_call (sX7_standingBits (!b) b μ2 k2.2.2.1.1 (by omega) d (by omega)) (ev_br (fun _ => ?_) (fun _ => ?_))
        · refine ev_callP (sX4_fail_dead 3 _ b μ2 h2' d (by omega)) (fun v3 μ3 ⟨f3', h3'⟩ => ?_)
          have f3 : Fj rdJ μ2 μ3 := f3'
          have h3 : CDd T n μ3 e := h3'
          have k3 := Cl_sm (dsm_fj (b := b) (fj_tr f2 f3)) hcl'
          exact cg_117 hG _ _ μ3 k3.2.2.1.1 ⟨dfr_fin (dfr_tr hf (dfr_fj (fj_tr f2 f3))), CDd_tw (b := b) (CDd_tw (b := b) h3 (by omega)) (by omega)⟩
        · exact cg_117 hG _ _ μ2 k2.2.2.1.1 ⟨dfr_fin (dfr_tr hf (dfr_fj f2)), CDd_tw (b := b) (CDd_tw (b := b) h2' (by omega)) (by omega)⟩
      · obtain ⟨-, hb⟩ := h2
        exact ev_neg (by rw [hb.1]; exact hb.2.1) (rg97_bd hb _ _ _ _ _ ⟨rfr_fg hf f2 (by decide), hb⟩)
    · obtain ⟨hnm, v0, hvx, hs5, hg5⟩ := ho
      have hmx : m < ((N 1).length : Int) := by
        rcases ixN_or (N 1) (nmL T n (nxS T n s)) with ⟨q, -⟩ | ⟨-, q, -⟩ <;> omega
      have hgm : ∀ x ∈ GL, 0 ≤ x.2.2 ∧ x.2.2 < 12 := fun x hx => by
        have := (h6 x hx).2.2.2; omega
      by_cases hin : m ∈ GL.map (fun x => x.2.2)
      · refine ⟨.inl (3, nxS T n s), fun d hd μ0 μ hf h hcl' h8' h9' v2 => hcl d hd μ0 μ hf h hcl' v2 _ (fun v μ2 f2 h2 w => ?_), fun d hd ν0 ν hf h hr p => hrf d hd ν0 ν hf h hr p _ (fun v ν2 f2 h2 => ?_), fun D' s' g' q => by cases q⟩
        · obtain ⟨hvm, h2'⟩ := h2
          subst hvm
          have k2 := Cl_sm (dsm_fj (b := b) f2) hcl'
          refine ev_call (sX7_standingBits (!b) b μ2 k2.2.2.1.1 (by omega) d (by omega)) (ev_pos (by show iAnd (iShr (orB (μ2 (tw (!b) + 10)) GL.length 0 0) v) 1 = 1; rw [bits_mem k2.2.2.1 hgm (by omega) v0 (by omega), t01_pos hin]) ?_)
          refine ev_callP (sX4_fail 3 _ (by decide) b μ2 h2' d (by omega)) (fun v3 μ3 ⟨f3', h3'⟩ => ?_)
          have f3 : Fj rdJ μ2 μ3 := f3'
          have h3 : CDd T n μ3 (3, nxS T n s) := h3'
          have k3 := Cl_sm (dsm_fj (b := b) (fj_tr f2 f3)) hcl'
          exact cg_117 hG _ _ μ3 k3.2.2.1.1 ⟨dfr_fin (dfr_tr hf (dfr_fj (fj_tr f2 f3))), CDd_tw (b := b) (CDd_tw (b := b) h3 (by omega)) (by omega)⟩
        · obtain ⟨hvm, h31, h2'⟩ := h2
          subst hvm
          have k2 := Rl_lex f2 hr
          have hhg : ν2 123 v = t01 (v ∈ GL.map (fun x => x.2.2)) := by
            have := k2.2.2.1 v.toNat (by omega)
            rw [show ((v.toNat : Nat) : Int) = v by omega] at this
            exact this
          refine ev_pos h2'.1 (ev_if (by omega) (ev_neg (by rw [hhg, t01_pos hin]; decide) ?_))
          rw [h31]
          exact ev_callP (sX10_fail0 3 _ (by decide) bx ν2 h2'.1 d (by omega)) (fun v3 ν3 ⟨f3, h3⟩ => rg97_bd h3 _ _ _ _ _ ⟨rfr_fg (rfr_fg hf f2 (by decide)) f3 (by decide), h3⟩)
      · refine ⟨.inr ((N, ML, GL ++ [(a, c, m)], PL, C, H), s5, g5), fun d hd μ0 μ hf h hcl' h8' h9' v2 => hcl d hd μ0 μ hf h hcl' v2 _ (fun v μ2 f2 h2 w => ?_), fun d hd ν0 ν hf h hr p => hrf d hd ν0 ν hf h hr p _ (fun v ν2 f2 h2 => ?_), fun D' s' g' q => ?_⟩
        · obtain ⟨hvm, h2'⟩ := h2
          subst hvm
          have sm := dsm_fj (b := b) f2
          have k2 := Cl_sm sm hcl'
          refine ev_call (sX7_standingBits (!b) b μ2 k2.2.2.1.1 (by omega) d (by omega)) (ev_neg (by show ¬ iAnd (iShr (orB (μ2 (tw (!b) + 10)) GL.length 0 0) v) 1 = 1; rw [bits_mem k2.2.2.1 hgm (by omega) v0 (by omega), t01_neg hin]; decide) ?_)
          refine cg_117 hG _ _ μ2 k2.2.2.1.1 ⟨dfr_fin (dfr_tr hf (dfr_fj f2)), CLv_tw (b := b) (CLv_tw (b := b) h2' (by omega)) (by omega), ?_⟩
          have kk := Cl_gw k2 (a := 10) (by omega) v
          have e8 : μ2 (tw (!b) + 8) (GL.length : Int) = a := by rw [sm _ (by omega) (by omega)]; exact h8'
          have e9 : μ2 (tw (!b) + 9) (GL.length : Int) = c := by rw [sm _ (by omega) (by omega)]; exact h9'
          obtain ⟨c1, c2, c3, c4, c5, c6⟩ := kk
          have ne : ∀ x, x ≠ 1 → m2 (m2 μ2 (tw (!b) + 10) (GL.length : Int) v) (tw (!b) + 1) 2 ((GL.length : Int) + 1) (tw (!b) + x) = m2 μ2 (tw (!b) + 10) (GL.length : Int) v (tw (!b) + x) := fun x hx => m2_ne (by omega)
          have ne0 : m2 (m2 μ2 (tw (!b) + 10) (GL.length : Int) v) (tw (!b) + 1) 2 ((GL.length : Int) + 1) (tw (!b)) = m2 μ2 (tw (!b) + 10) (GL.length : Int) v (tw (!b)) := m2_ne (by omega)
          refine ⟨fun k hk k2 => ?_, CMn_sm (fun x hx => ne x (by omega)) c2, ⟨?_, fun i hi => ?_⟩, CPp_sm (fun x hx => ne x (by omega)) c4, CCd_sm (by rw [ne0]) (ne 15 (by omega)) c5, by rw [ne0]; exact c6⟩
          · have := c1 k hk k2
            rw [m2_at, if_neg (by omega), show tw (!b) + 3 + k = tw (!b) + (3 + k) by omega, ne (3 + k) (by omega), show tw (!b) + (3 + k) = tw (!b) + 3 + k by omega]; exact this
          · rw [m2_at, if_pos rfl, List.length_append, List.length_singleton]; omega
          · have hi' := hi
            rw [List.length_append, List.length_singleton] at hi'
            rw [ne 8 (by omega), ne 9 (by omega), ne 10 (by omega), getD_sn hi]
            by_cases q : i = GL.length
            · rw [if_pos q, q, m2_ne (by omega), m2_ne (by omega), m2_at, if_pos rfl]
              exact ⟨e8, e9, rfl⟩
            · rw [if_neg q]; exact c3.2 i (by omega)
        · obtain ⟨hvm, h31, h2'⟩ := h2
          subst hvm
          have k2 := Rl_lex f2 hr
          have hhg : ν2 123 v = t01 (v ∈ GL.map (fun x => x.2.2)) := by
            have := k2.2.2.1 v.toNat (by omega)
            rw [show ((v.toNat : Nat) : Int) = v by omega] at this
            exact this
          refine ev_pos h2'.1 (ev_if (by omega) (ev_pos (by rw [hhg, t01_neg hin]) ?_))
          obtain ⟨c1, c2, c3, c4, c5, c6, c7⟩ := k2
          have w1 : w32 (3 * (GL.length : Int) + 1) = 3 * (GL.length : Int) + 1 := w32_id (by omega) (by omega)
          have w2 : w32 (3 * (GL.length : Int) + 2) = 3 * (GL.length : Int) + 2 := w32_id (by omega) (by omega)
          refine ev_row (fun j => tX10_gateTold_97 _ j bx ν2 _ _ _ _ _) (ev_pos h2'.1 ?_)
          rw [w1, w2]
          refine ev_if (by omega) (ev_if (by omega) (ev_if (by omega) (ev_if ⟨v0, by omega, Or.inr rfl⟩ (ev_ret ?_))))
          have hval : w32 (m2 (m2 (m2 (m2 ν2 124 (3 * (GL.length : Int)) a) 124 (3 * (GL.length : Int) + 1) c) 124 (3 * (GL.length : Int) + 2) v) 123 v 1 120 3 + 1) = (GL.length : Int) + 1 := by
            rw [m2_ne (by decide), m2_ne (by decide), m2_ne (by decide), m2_ne (by decide), c4.1]; exact w32_id (by omega) (by omega)
          rw [hval]
          have ne : ∀ x, x ≠ 120 → x ≠ 123 → x ≠ 124 → m2 (m2 (m2 (m2 (m2 ν2 124 (3 * (GL.length : Int)) a) 124 (3 * (GL.length : Int) + 1) c) 124 (3 * (GL.length : Int) + 2) v) 123 v 1) 120 3 ((GL.length : Int) + 1) x = ν2 x := fun x x1 x2 x3 => by rw [m2_ne x1, m2_ne x2, m2_ne x3, m2_ne x3, m2_ne x3]
          refine ⟨rfr_m2 (rfr_m2 (rfr_m2 (rfr_m2 (rfr_m2 (rfr_fg hf f2 (by decide)) (by decide) (Or.inr (Or.inr (by show _ < (36 : Int); omega)))) (by decide) (Or.inr (Or.inr (by show _ < (36 : Int); omega)))) (by decide) (Or.inr (Or.inr (by show _ < (36 : Int); omega)))) (by decide) (Or.inl rfl)) (by decide) (Or.inr (Or.inr (by decide))), RSv_m2 (RSv_m2 (RSv_m2 (RSv_m2 (RSv_m2 h2' (by decide)) (by decide)) (by decide)) (by decide)) (by decide), fun k hk k2 => ?_, RMn_sm (fun x hx => ne x (by omega) (by omega) (by omega)) c2, fun i hi => ?_, ⟨?_, fun i hi => ?_⟩, RPp_sm (ne 125 (by decide) (by decide) (by decide)) c5, RCd_sm (by rw [ne 96 (by decide) (by decide) (by decide)]) (ne 126 (by decide) (by decide) (by decide)) c6, by rw [ne 96 (by decide) (by decide) (by decide)]; exact c7⟩
          · have hk' := rk_in hk k2
            rw [m2_at, if_neg (by omega), m2_ne (by decide), m2_ne (by decide), m2_ne (by decide), m2_ne (by decide), ne 121 (by decide) (by decide) (by decide)]
            exact c1 k hk k2
          · rw [m2_ne (by decide), m2_at, List.map_append]
            by_cases q : (i : Int) = v
            · rw [if_pos q, t01_pos (by rw [q]; exact List.mem_append.2 (Or.inr (by simp)))]
            · rw [if_neg q, m2_ne (by decide), m2_ne (by decide), m2_ne (by decide), c3 i hi]
              exact t01_congr ⟨fun w => List.mem_append.2 (Or.inl w), fun w => by
                rcases List.mem_append.1 w with w | w
                · exact w
                · exact absurd (List.mem_singleton.1 w) q⟩
          · rw [m2_at, if_pos rfl, List.length_append, List.length_singleton]; omega
          · have hi' := hi
            rw [List.length_append, List.length_singleton] at hi'
            rw [m2_ne (by decide), m2_ne (by decide), m2_at, m2_at, m2_at, m2_at, m2_at, m2_at, m2_at, m2_at, m2_at, getD_sn hi]
            by_cases q : i = GL.length
            · rw [if_pos q, q]
              refine ⟨?_, ?_, ?_⟩
              · rw [if_neg (by omega), if_neg (by omega), if_pos rfl]
              · rw [if_neg (by omega), if_pos rfl]
              · rw [if_pos rfl]
            · rw [if_neg q]
              obtain ⟨u1, u2, u3⟩ := c4.2 i (by omega)
              refine ⟨?_, ?_, ?_⟩
              · rw [if_neg (by omega), if_neg (by omega), if_neg (by omega)]; exact u1
              · rw [if_neg (by omega), if_neg (by omega), if_neg (by omega)]; exact u2
              · rw [if_neg (by omega), if_neg (by omega), if_neg (by omega)]; exact u3
        · cases q
          have hx2 := nx_in hT hx.1
          rw [hs5]
          refine ⟨hx2.1, by omega, ⟨hN, ⟨l0, l1, l3⟩, ⟨m1, m2', by rw [List.length_append, List.length_singleton]; omega⟩, h4, h5, fun x hx => ?_, ?_, h8⟩, rfl⟩
          · rcases List.mem_append.1 hx with hx | hx
            · exact h6 x hx
            · rw [List.mem_singleton.1 hx]; exact ⟨ha, hc, hac, v0, hmx⟩
          · rw [List.map_append, List.nodup_append]
            refine ⟨h7, by simp, fun x hx y hy q => ?_⟩
            rw [List.mem_singleton.1 hy] at q
            have q' : x = m := q
            rw [q'] at hx
            exact hin hx
  · refine ⟨.inl (1, s), fun d hd μ0 μ hf h hcl' h8' h9' v2 => ?_, fun d hd ν0 ν hf h hr p => ?_, fun D' s' g' q => by cases q⟩
    · refine ev_row (fun m => tX4_readGate_79 _ m b μ _ _) (ev_callP (sX4_takeWord_er 6 b μ h hw d (by omega)) (fun v μ1 ⟨f1', h1'⟩ => ?_))
      have f1 : Fj rdJ μ μ1 := f1'
      have h1 : CDd T n μ1 (1, s) := h1'
      have k1 := Cl_sm (dsm_fj (b := b) f1) hcl'
      have a1 := (k1.1 1 (by decide) (by decide)).1
      have a2 := (hN 1 (by decide) (by decide)).1
      refine ev_callP (sX4_takeOldName_dd (k := 1) (by decide) b μ1 h1 (by rw [a1]; omega) (by rw [a1]; omega) d (by omega)) (fun v' μ2 ⟨f2', h2'⟩ => ?_)
      have f2 : Fj rdJ μ1 μ2 := f2'
      have h2 : CDd T n μ2 (1, s) := h2'
      have f12 := fj_tr f1 f2
      have k2 := Cl_sm (dsm_fj (b := b) f12) hcl'
      refine ev_call (sX7_standingBits (!b) b μ2 k2.2.2.1.1 (by omega) d (by omega)) (ev_br (fun _ => ?_) (fun _ => ?_))
      · refine ev_callP (sX4_fail_dead 3 _ b μ2 h2 d (by omega)) (fun v3 μ3 ⟨f3', h3'⟩ => ?_)
        have f3 : Fj rdJ μ2 μ3 := f3'
        have h3 : CDd T n μ3 (1, s) := h3'
        have k3 := Cl_sm (dsm_fj (b := b) (fj_tr f12 f3)) hcl'
        exact cg_117 hG _ _ μ3 k3.2.2.1.1 ⟨dfr_fin (dfr_tr hf (dfr_fj (fj_tr f12 f3))), CDd_tw (b := b) (CDd_tw (b := b) h3 (by omega)) (by omega)⟩
      · exact cg_117 hG _ _ μ2 k2.2.2.1.1 ⟨dfr_fin (dfr_tr hf (dfr_fj f12)), CDd_tw (b := b) (CDd_tw (b := b) h2 (by omega)) (by omega)⟩
    · refine ev_row (fun m => tX10_gateTold_56 _ m bx ν _ _ _ _) (ev_callP (sX10_asks hT (j := 6) (by decide) bx ν h d (by omega)) (fun v ν1 ⟨f1', hh⟩ => ?_))
      have f1 : Fg [] lxJ ν ν1 := f1'
      rcases hh with ⟨q, -⟩ | ⟨-, h1'⟩
      · exact absurd q hw
      · have h1 : RBd ν1 (1, s) := h1'
        have k1 := Rl_lex f1 hr
        exact ev_call (bd_oneOf ν1 h1 k1.1 hN (k := 1) (by decide) (by decide) d (by omega)) (ev_neg (by show ¬ ν1 96 5 = 0; rw [h1.1]; exact h1.2.1) (rg97_bd h1 _ _ _ _ _ ⟨rfr_fg hf f1 (by decide), h1⟩))
end
